/-! the class: wstat -/
section HB
variable {ge : Nat → Nat} {ax : Nat} {κ0 κ : cS} {g : mm_M} {L A : List Int32} {T : sT} {S J : List sT} {fm : sM} {fc gv : Nat} {tm : Int32} {ms : Nat}
/-- what wstat asks for may be -/
def bOk (f : sF) (X : List Int32) (perm : Int32) (len : Int64) : Prop := (¬ X = [] → nmOk X) ∧ (¬ perm = -1 → (perm < 0 ↔ f_md f < 0)) ∧ (¬ len = -1 → 0 ≤ f_md f ∧ ¬ len < 0 ∧ ¬ 512 < len)
theorem whyB_0 {d : sD} {f : sF} {X : List Int32} {perm : Int32} {len : Int64} {rest : Prop} (h : whyB T d f X perm len rest = 0) : d_t d = 0 ∧ bOk f X perm len ∧ (¬ X = [] → ¬ d_p d = 0) := by
  unfold whyB at h
  by_cases c3 : ¬ d_t d = 0
  · rw [cif_y c3] at h; exact absurd h (by decide)
  rw [cif_n c3] at h
  by_cases c5 : ¬ rest
  · rw [cif_y c5] at h; exact absurd h (by decide)
  rw [cif_n c5] at h
  by_cases c6 : ¬ X = [] ∧ (d_p d = 0 ∨ ¬ nmOk X)
  · rw [cif_y c6] at h; exact absurd h (by decide)
  rw [cif_n c6] at h
  by_cases c7 : ¬ X = [] ∧ ¬ chl T (f_in f) X = none ∧ ¬ chl T (f_in f) X = some (d_p d)
  · rw [cif_y c7] at h; exact absurd h (by decide)
  rw [cif_n c7] at h
  by_cases c8 : ¬ perm = -1 ∧ ((¬ ((perm < 0) ↔ (f_md f < 0))) ∨ ¬ perm &&& 2147483136 = 0)
  · rw [cif_y c8] at h; exact absurd h (by decide)
  rw [cif_n c8] at h
  by_cases c9 : ¬ len = -1 ∧ (¬ 0 ≤ f_md f ∨ len < 0 ∨ 512 < len)
  · rw [cif_y c9] at h; exact absurd h (by decide)
  refine ⟨Decidable.not_not.mp c3, ⟨fun z => ?_, fun z => ?_, fun z => ⟨?_, fun y => c9 ⟨z, Or.inr (Or.inl y)⟩, fun y => c9 ⟨z, Or.inr (Or.inr y)⟩⟩⟩, fun z y => c6 ⟨z, Or.inl y⟩⟩
  · exact Classical.byContradiction (fun y => c6 ⟨z, Or.inr y⟩)
  · exact Classical.byContradiction (fun y => c8 ⟨z, Or.inl y⟩)
  · exact Decidable.not_not.mp (fun y => c9 ⟨z, Or.inl y⟩)
theorem m1_neg : (-1 : Int64) < 0 := by decide
theorem len_l {n : Nat} (hn : n < 2 ^ 31) (len : Int64) : (len = (nI n).toInt64) ↔ len = lN n := by rw [nI_l hn]
set_option maxHeartbeats 4000000 in
theorem cq_bent (hM : CM ax g) (hK : CK ge ax g) (hC : CC ax κ0 κ g L A T S J fm fc gv tm ms) {p a : Nat} {f : sF} (hn : nd ax g a p f) {X : List Int32} (hX : Ctx κ L X) {perm mt : Int32} {len : Int64} (hpm : κ.1 5 11 = perm) (hmt : κ.1 5 12 = mt) (hlen : κ.2.1 5 13 = len) (hb : bOk f X perm len) (Z : Option Nat → mm_M → Prop)
    (hZ : ∀ g' a', ext g g' → nd ax g' a' p (bnt f tm X perm mt len) → Z (some a') (c_em ax κ g')) : wq_Server_bent ge ax (some a) (c_em ax κ g) Z := by
  have hg := hK.1
  obtain ⟨m0, m1⟩ := CM_0 hM
  obtain ⟨lx1, lx2⟩ := Ctx_len hX
  have hL14 := hC.1.2.2
  have ec : (nI X.length ≤ 0) ↔ X = [] := by
    rw [show (0 : Int32) = nI 0 from rfl, nI_leI (by omega) (by decide)]
    exact ⟨fun y => List.eq_nil_of_length_eq_zero (by omega), fun y => by rw [y]; simp⟩
  obtain ⟨hok, haz, an, ad, hz1, hz2, k1, k2, k3, k4, k5, k6, k7, k8, k9, k10⟩ := hn
  have hn : nd ax g a p f := ⟨hok, haz, an, ad, hz1, hz2, k1, k2, k3, k4, k5, k6, k7, k8, k9, k10⟩
  have hD5 := hok.2.2.1
  -- name, mode, mtime over a file whose data is right
  have p73 : ∀ (g1 : mm_M) (a1 : Nat) (f1 : sF), ext g g1 → nd ax g1 a1 p f1 → bnt f tm X perm mt len = (f_in f1, cif (X = []) (f_nm f1) X, cif (perm = -1) (f_md f1) perm, f_vs f1, cif (mt = -1) (f_mt f1) mt, f_dt f1) → f_md f1 = f_md f → wq_Server_bent_73 ge ax (some a1) (c_em ax κ g1) Z := by
    intro g1 a1 f1 x1 n1 hbt hmd
    have hM1 := CM_ext hM x1
    obtain ⟨w0, w1⟩ := CM_0 hM1
    -- the last step: a node of name array nm
    have p97 : ∀ (g2 : mm_M) (nmA : Nat) (NM : List Int32), ext g1 g2 → fzz ax g2 nmA → bA g2 nmA NM → NM = cif (X = []) (f_nm f1) X → 1 ≤ NM.length → NM.length ≤ 20 → allB NM → wq_Server_bent_97 ge ax (some a1) (some nmA) (c_em ax κ g2) Z := by
      intro g2 nmA NM x2 fz2 b2 eNM l1 l20 aB
      have hM2 := CM_ext hM1 x2
      obtain ⟨v0, v1⟩ := CM_0 hM2
      have hn2 := nd_ext x2 n1
      obtain ⟨hok2, haz2, an2, ad2, hz12, hz22, j1, j2, j3, j4, j5, j6, j7, j8, j9, j10⟩ := hn2
      have hz := CM_z hM2
      have p150 : ∀ md t5 : Int32, md = cif (perm = -1) (f_md f1) perm → t5 = cif (mt = -1) (f_mt f1) mt → wq_Server_bent_150 ge (some a1) (some nmA) md t5 (c_em ax κ g2) Z := by
        intro md t5 emd et5
        unfold wq_Server_bent_150
        have x3 := ext_nw g2 8 0
        have hn3 := nd_ext x3 (⟨hok2, haz2, an2, ad2, hz12, hz22, j1, j2, j3, j4, j5, j6, j7, j8, j9, j10⟩ : nd ax g2 a1 p f1)
        obtain ⟨hok3, haz3, an3, ad3, hz13, hz23, i1, i2, i3, i4, i5, i6, i7, i8, i9, i10⟩ := hn3
        have hk0 : mm_k (mm_nw g2 8 0) (mm_z g2) = kd_Node := by rw [mm_nw_k, if_pos rfl]
        simp only [cz, cNw (show ax + 90 ≤ mm_z g2 by omega), forall_eq, ck, i1, cIf haz3.1, cPf haz3.1, i2, i3, i6, i8, true_and, Option.some.injEq, exists_eq_left']
        have b3 := bA_ext x3 fz2.2 b2
        have fz3 : fzz ax (mm_nw g2 8 0) nmA := ⟨fz2.1, Nat.lt_of_lt_of_le fz2.2 x3.1⟩
        have nn : ∀ c, mm_k (mm_nw g2 8 0) c = ka_B → ¬ c = mm_z g2 := fun c hc e => by rw [e, hk0] at hc; exact absurd hc (by decide)
        refine cq_ni (by omega) (by omega) hk0 _ _ _ _ _ _ _ _ ?_
        refine hZ _ _ (ext_tr (ext_tr x1 x2) (nin_ext x3 (Nat.le_refl _) _ _ _ _ _ _ _)) ?_
        rw [hbt, ← eNM, ← emd, ← et5]
        refine nin_nd (f := (f_in f1, NM, md, f_vs f1, t5, f_dt f1)) ⟨l1, l20, hok3.2.2.1, aB, hok3.2.2.2.2.1, fun z => hok3.2.2.2.2.2 (fun y => z ?_)⟩ ⟨by omega, by rw [nw_z]; omega⟩ hk0 fz3 hz23 (nn _ b3.1) (nn _ i10.1) b3 i10
        show 0 ≤ md
        rw [emd]
        by_cases hp1 : perm = -1
        · rw [cif_y hp1]; exact y
        · rw [cif_n hp1]
          exact Int32.not_lt.mp (fun w => absurd ((hb.2.1 hp1).mp w) (by rw [← hmd]; exact Int32.not_lt.mpr y))
      have p123 : ∀ md : Int32, md = cif (perm = -1) (f_md f1) perm → wq_Server_bent_123 ge ax (some a1) (some nmA) md (c_em ax κ g2) Z := by
        intro md emd
        unfold wq_Server_bent_123
        simp only [v0, v1, (CM_q hM2).1, j1, ck, cP0, cI ax 5 (by decide), hmt, cIf haz2.1, j7, true_and, Option.some.injEq, exists_eq_left']
        exact ⟨fun q => p150 md _ emd (cif_y q).symm, fun q => p150 md _ emd (cif_n q).symm⟩
      unfold wq_Server_bent_97
      simp only [v0, v1, (CM_q hM2).1, j1, ck, cP0, cI ax 5 (by decide), hpm, cIf haz2.1, j5, true_and, Option.some.injEq, exists_eq_left']
      exact ⟨fun q => p123 _ (cif_y q).symm, fun q => p123 _ (cif_n q).symm⟩
    unfold wq_Server_bent_73
    obtain ⟨hok1, haz1, an1, ad1, hz11, hz21, i1, i2, i3, i4, i5, i6, i7, i8, i9, i10⟩ := n1
    simp only [w0, w1, (CM_q hM1).1, i1, ck, cP0, cI ax 5 (by decide), lx1, cPf haz1.1, i4, true_and, Option.some.injEq, exists_eq_left']
    refine ⟨fun q => p97 g1 an1 _ (ext_rf g1) hz11 i9 (cif_y (ec.mp q)).symm hok1.1 hok1.2.1 hok1.2.2.2.1, fun q => ?_⟩
    have hx0 : ¬ X = [] := fun y => q (ec.mpr y)
    have hnm := hb.1 hx0
    have hz := CM_z hM1
    refine cq_cpText hM1 hg hC.1 hX (by have := hnm.2.1; omega) _ (fun g2 x2 zz2 b2 => ?_)
    exact p97 g2 _ X x2 ⟨by omega, by omega⟩ b2 (cif_n hx0).symm hnm.1 hnm.2.1 (Ctx_B hC.1.2.1 hX)
  have same : (len = -1 ∨ len = (nI (f_dt f).length).toInt64) → wq_Server_bent_73 ge ax (some a) (c_em ax κ g) Z := by
    intro hs
    refine p73 g a f (ext_rf g) hn ?_ rfl
    unfold bnt
    rw [cif_y hs, cif_y hs, cif_y hs]
  unfold wq_Server_bent wq_Server_bent_0
  simp only [m0, m1, (CM_q hM).1, k1, k8, k10.1, k10.2.1, ck, cn, cP0, cPf haz.1, cL ax 5 (by decide), hlen, toI, lg_cmp_eq, true_and, Option.some.injEq, exists_eq_left']
  refine ⟨fun q => same (Or.inl q), fun q => ⟨fun q2 => same (Or.inr q2), fun q2 => ?_⟩⟩
  obtain ⟨hfile, hl0, hl5⟩ := hb.2.2 q
  refine cq_above _ _ _ _ (fun hab => hab.elim (fun y => absurd y hl0) (fun y => absurd y hl5)) (fun _ => ⟨fun z => absurd rfl z, fun _ => ?_⟩)
  obtain ⟨N, hN, hN1, hN2⟩ := l_of (n := 512) (by decide) hl0 hl5
  have hnn : ¬ (len = -1 ∨ len = (nI (f_dt f).length).toInt64) := fun y => y.elim q q2
  simp only [m0, m1, (CM_q hM).1, k1, k8, ck, cP0, cPf haz.1, cL ax 5 (by decide), hlen, hN2, true_and, Option.some.injEq, exists_eq_left']
  refine cq_cpOf hM hg hz2 k10 hD5 hN (fun y _ => ?_) _ (fun g1 x1 zz1 b1 => ?_)
  · apply q2
    rw [hN1, y, nI_l (by omega)]
  · have hM1 := CM_ext hM x1
    obtain ⟨w0, w1⟩ := CM_0 hM1
    have hn1 := nd_ext x1 hn
    have hk1 : mm_k g1 a = kd_Node := by obtain ⟨_, _, _, _, _, _, y, _⟩ := hn1; exact y
    have hz := CM_z hM
    simp only [w0, w1, hk1, ck, cP0, cI0, true_and, Option.some.injEq, exists_eq_left']
    rw [hC.2.2.2.2.2.2.1.2.1]
    refine cq_wd hM1 hg hn1 ⟨⟨by omega, by omega⟩, fun y => by omega⟩ b1 (by rw [rsz_len]; exact hN) (rsz_B hok.2.2.2.2.1 _) (fun y => absurd hfile y) tm _ (fun g2 x2 nd2 => ?_)
    refine p73 g2 _ _ (ext_tr x1 x2) nd2 ?_ rfl
    have hcl : (Int64.toInt32 len).toNatClampNeg = N := by rw [hN2, nI_clamp (by omega)]
    unfold bnt
    rw [cif_n hnn, cif_n hnn, cif_n hnn, hcl]
    rfl
theorem bnt_same {f : sF} {X : List Int32} {perm mt : Int32} {len : Int64} : (bnt f tm X perm mt len = f) ↔ (f_md (bnt f tm X perm mt len) = f_md f ∧ f_vs (bnt f tm X perm mt len) = f_vs f ∧ f_mt (bnt f tm X perm mt len) = f_mt f ∧ f_nm (bnt f tm X perm mt len) = f_nm f) := by
  refine ⟨fun e => by rw [e]; exact ⟨rfl, rfl, rfl, rfl⟩, fun h => ?_⟩
  obtain ⟨h1, h2, h3, h4⟩ := h
  have hs : len = -1 ∨ len = (nI (f_dt f).length).toInt64 := by
    refine Classical.byContradiction (fun z => ?_)
    have : f_vs f + 1 = f_vs f := by
      have h2' : cif (len = -1 ∨ len = (nI (f_dt f).length).toInt64) (f_vs f) (f_vs f + 1) = f_vs f := h2
      rw [cif_n z] at h2'
      exact h2'
    exact vs_ne f (f_mt f) (f_dt f) (by
      show (f_in f, f_nm f, f_md f, f_vs f + 1, f_mt f, f_dt f) = f
      rw [this]
      rfl)
  have h5 : f_dt (bnt f tm X perm mt len) = f_dt f := cif_y hs
  have h6 : f_in (bnt f tm X perm mt len) = f_in f := rfl
  refine Prod.ext h6 (Prod.ext h4 (Prod.ext h1 (Prod.ext h2 (Prod.ext h3 h5))))
theorem cq_asks (hM : CM ax g) {L X : List Int32} (hT : Ctp κ L) (hX : Ctx κ L X) {perm mt : Int32} {len : Int64} (hpm : κ.1 5 11 = perm) (hmt : κ.1 5 12 = mt) (hlen : κ.2.1 5 13 = len) (Z : Int32 → mm_M → Prop) (h1 : askN X perm mt len → Z 1 (c_em ax κ g)) (h0 : ¬ askN X perm mt len → Z 0 (c_em ax κ g)) : wq_Request_asksNothing ge (ax + 5) (c_em ax κ g) Z := by
  obtain ⟨m1, m2⟩ := CM_q hM
  obtain ⟨l1, l2⟩ := Ctx_len hX
  have hl := hT.2.2
  have e0 : (nI X.length = 0) ↔ X = [] := by
    rw [show (0 : Int32) = nI 0 from rfl, nI_eq (by omega) (by decide)]
    exact ⟨List.eq_nil_of_length_eq_zero, fun z => by rw [z]; rfl⟩
  unfold askN at h1 h0
  unfold wq_Request_asksNothing wq_Request_asksNothing_0 wq_Request_asksNothing_38 wq_Request_asksNothing_39
  simp only [m1, ck, cI ax 5 (by decide), cL ax 5 (by decide), l1, hpm, hmt, hlen, e0, lg_cmp_eq, true_and]
  exact ⟨fun q => ⟨Or.inl trivial, h0 (fun z => q z.1)⟩, fun q => ⟨fun q2 => ⟨Or.inl trivial, h0 (fun z => q2 z.2.1)⟩, fun q2 => ⟨fun q3 => ⟨Or.inl trivial, h0 (fun z => q3 z.2.2.1)⟩, fun q3 => ⟨fun q4 => ⟨Or.inl trivial, h0 (fun z => q4 z.2.2.2)⟩, fun q4 => ⟨Or.inr trivial, h1 ⟨q, q2, q3, q4⟩⟩⟩⟩⟩⟩
/-- the loose changes behind wstat -/
noncomputable def jw (J : List sT) (T : sT) (R : sR) (ask : Prop) : List sT := cif (R.1 = 0 ∧ ask) [] (jn J T R.2.2.1)
set_option maxHeartbeats 4000000 in
theorem cq_wst (hM : CM ax g) (hK : CK ge ax g) (hC : CC ax κ0 κ g L A T S J fm fc gv tm ms) {i : Nat} {x : Int32} {d : sD} (hr : rw_ κ fm i x d) {f : sF} (hF : Fth T S d (some f)) {a : Nat} (hn : nd ax g a (d_p d) f) {X : List Int32} (hX : Ctx κ L X) {perm mt : Int32} {len : Int64} {rest : Prop} (hpm : κ.1 5 11 = perm) (hmt : κ.1 5 12 = mt) (hlen : κ.2.1 5 13 = len) (hrest : ¬ κ.1 5 16 = 0 ↔ rest) (Z : Int32 → mm_M → Prop)
    (hZ : ∀ κ' g', Pst ax κ0 g L A S (jw J T (spWst T fm fc gv tm d f X perm mt len rest) (askN X perm mt len)) tm ms (spWst T fm fc gv tm d f X perm mt len rest) κ' g' → Z (spWst T fm fc gv tm d f X perm mt len rest).1 (c_em ax κ' g')) : wq_Server_wstat ge ax (some (ax + (8 + i))) (some a) (c_em ax κ g) Z := by
  have hg := hK.1
  obtain ⟨m0, m1⟩ := CM_0 hM
  have jT : jn J T T = J := cif_y rfl
  unfold wq_Server_wstat wq_Server_wstat_0 wq_Server_wstat_68
  refine ⟨m0, cq_whyB hM hC hr hF hn hX hpm hlen hrest _ ⟨fun q => ?_, fun q => ?_⟩⟩
  · obtain ⟨ht0, hbo, _⟩ := whyB_0 q
    have hTp := Fth_live hF ht0
    simp only [m0, m1, (CM_q hM).1, ck, cP0, true_and, Option.some.injEq, exists_eq_left']
    have hs : spWst T fm fc gv tm d f X perm mt len rest = (0, [], cif (askN X perm mt len) T (tset T (d_p d) (some (bnt f tm X perm mt len))), fm, fc, gv) := cif_n (fun z => z q)
    rw [hs] at hZ
    refine cq_asks hM hC.1 hX hpm hmt hlen _ (fun hask => ⟨fun z => absurd z (by decide), fun _ => ?_⟩) (fun hask => ⟨fun _ => ?_, fun z => absurd rfl z⟩)
    · unfold wq_Journal_clear wq_Journal_clear_0
      simp only [m0, m1, (CM_j hM).1, ck, cP0, cU ax 34 (by decide), geo hg, true_and, Option.some.injEq, exists_eq_left', forall_eq]
      refine hZ _ g ⟨ext_rf g, A, fun _ => (List.append_nil A).symm, ?_⟩
      have e1 : jw J T (0, [], cif (askN X perm mt len) T (tset T (d_p d) (some (bnt f tm X perm mt len))), fm, fc, gv) (askN X perm mt len) = [] := cif_y ⟨rfl, hask⟩
      have e2 : cif (askN X perm mt len) T (tset T (d_p d) (some (bnt f tm X perm mt len))) = T := cif_y hask
      rw [e1]
      show CC ax κ0 _ g L A (cif (askN X perm mt len) T (tset T (d_p d) (some (bnt f tm X perm mt len)))) S [] fm fc gv tm ms
      rw [e2]
      exact CC_jc hC
    · have e2 : cif (askN X perm mt len) T (tset T (d_p d) (some (bnt f tm X perm mt len))) = tset T (d_p d) (some (bnt f tm X perm mt len)) := cif_n hask
      rw [e2] at hZ
      have e1 : jw J T (0, [], tset T (d_p d) (some (bnt f tm X perm mt len)), fm, fc, gv) (askN X perm mt len) = jn J T (tset T (d_p d) (some (bnt f tm X perm mt len))) := cif_n (fun z => hask z.2)
      rw [e1] at hZ
      refine ⟨m0, cq_bent hM hK hC hn hX hpm hmt hlen hbo _ (fun g1 a1 x1 nd1 => ?_)⟩
      have hM1 := CM_ext hM x1
      have C1 := CC_ext x1 hC
      obtain ⟨w0, w1⟩ := CM_0 hM1
      have hn1 := nd_ext x1 hn
      obtain ⟨an1, ad1, fa1, f11, f21, hN1⟩ := nd_H nd1
      obtain ⟨an0, ad0, fa0, f10, f20, hN0⟩ := nd_H hn1
      refine ⟨a1, rfl, (hN1 κ).1, nq_isAs (hN1 κ) (hN0 κ) nd1.1 hn1.1 _ (fun y1 y2 y3 y4 => ⟨fun _ => ?_, fun z => absurd z (by decide)⟩) (fun hno => ⟨fun z => absurd rfl z, fun _ => ?_⟩)⟩
      · have hsame := bnt_same.mpr ⟨y1, y2, y3, y4⟩
        rw [hsame] at hZ
        rw [tset_same hTp, jT] at hZ
        exact hZ _ g1 ⟨x1, A, fun _ => (List.append_nil A).symm, C1⟩
      · have hne : ¬ bnt f tm X perm mt len = f := fun z => hno (bnt_same.mp z)
        simp only [w0, w1, (CM_j hM1).1, ck, cP0, true_and, Option.some.injEq, exists_eq_left']
        refine cq_keep hM1 hg _ C1.2.2.1 C1.2.2.2.1 _ (fun nx q1 q2 q3 => ?_)
        have C2 := CC_kp C1 q1 q3
        simp only [w0, w1, (CM_t hM1).1, ck, cP0, true_and, Option.some.injEq, exists_eq_left']
        refine cq_tput hM1 hg hF.1 nd1 _ ?_
        have C3 := CC_put C2 hF.1 nd1
        refine hZ _ g1 ⟨x1, A, fun _ => (List.append_nil A).symm, ?_⟩
        rw [show jn J T (tset T (d_p d) (some (bnt f tm X perm mt len))) = pushJ J T from cif_n (T_ne hTp hne)]
        exact C3
  · have hs : spWst T fm fc gv tm d f X perm mt len rest = (whyB T d f X perm len rest, [], T, fm, fc, gv) := cif_y q
    rw [hs] at hZ
    refine hZ _ g ⟨ext_rf g, A, fun z => absurd z q, ?_⟩
    have e1 : jw J T (whyB T d f X perm len rest, [], T, fm, fc, gv) (askN X perm mt len) = J := (cif_n (fun z => q z.1)).trans jT
    rw [e1]
    exact hC
end HB
