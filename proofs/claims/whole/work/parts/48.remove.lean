/-! the class: stat, remove, clunk -/
section HR
variable {ge : Nat → Nat} {ax : Nat} {κ0 κ : cS} {g : mm_M} {L A : List Int32} {T : sT} {S J : List sT} {fm : sM} {fc gv : Nat} {tm : Int32} {ms : Nat}
theorem cq_hstat (hM : CM ax g) (hg : ge 0 ≤ ax) (hC : CC ax κ0 κ g L A T S J fm fc gv tm ms) (hA : A.length = 7) {d : sD} {a : Nat} {f : sF} (hn : nd ax g a (d_p d) f) (Z : Int32 → mm_M → Prop)
    (hZ : ∀ κ' g', Pst ax κ0 g L A S J tm ms (spStat T fm fc gv d f) κ' g' → Z 0 (c_em ax κ' g')) : wq_Server_stat ge ax (some a) (c_em ax κ g) Z := by
  obtain ⟨m0, m1⟩ := CM_0 hM
  have hb3 := CM_b3 hM
  obtain ⟨an, ad, fa, f1, f2, hN⟩ := nd_H hn
  have l20 := hn.1.2.1
  unfold wq_Server_stat wq_Server_stat_0
  refine ⟨m0, a, rfl, (hN κ).1, nq_statSize (hN κ) _ ?_⟩
  simp only [m0, m1, hb3.1, ck, cP0, true_and, Option.some.injEq, exists_eq_left']
  refine cq_put (n := 2) hb3 hg (by decide) rfl (by decide) _ hC.2.1.1.1 (by omega) _ _ ?_
  have C1 := CC_ap (B := le 2 (nI (52 + (f_nm f).length)).toInt64) hC (by rw [le_len]; omega)
  simp only [m0, m1, hb3.1, ck, cP0, true_and, Option.some.injEq, exists_eq_left']
  refine cq_putStat hb3 hg (by decide) rfl (by decide) _ C1.2.1.1.1 hn (by rw [List.length_append, le_len]; omega) _ ?_
  have C2 := CC_ap (B := statL (d_p d) f) C1 (by rw [List.length_append, le_len, statL_len]; omega)
  refine hZ _ g ⟨ext_rf g, _, fun _ => rfl, ?_⟩
  rw [List.append_assoc] at C2
  exact C2
/-- the live tree alone is looked at -/
theorem cq_why (hM : CM ax g) (hT : nr ax g (κ.2.2 33) T) {x : Int32} {d : sD} (hx : x = -1 ↔ d_t d = 0) (hp : d_p d < 60) {a : Nat} {f : sF} (hn : nd ax g a (d_p d) f) (Z : Int32 → mm_M → Prop) (hZ : Z (whyN T d f) (c_em ax κ g)) : wq_Server_whyNotRemoved ge ax x (some a) (c_em ax κ g) Z := by
  obtain ⟨m0, m1⟩ := CM_0 hM
  obtain ⟨an, ad, fa, f1, f2, hN⟩ := nd_H hn
  unfold wq_Server_whyNotRemoved wq_Server_whyNotRemoved_0 wq_Server_whyNotRemoved_18 wq_Server_whyNotRemoved_45 wq_Server_whyNotRemoved_46
  refine ⟨fun a1 _ => ⟨a, rfl, (hN κ).1, ?_⟩, fun z => absurd z (by simp)⟩
  rw [(hN κ).2.1]
  have e0 : (nI (d_p d) = 0) ↔ d_p d = 0 := nI_eq (b := 0) (by omega) (by decide)
  unfold whyN at hZ
  refine ⟨fun q => ?_, fun q => ⟨fun q2 => ?_, fun q2 => ?_⟩⟩
  · rw [cif_y (Or.inl (e0.mp q))] at hZ; exact hZ
  · have n3 : ¬ (d_p d = 0 ∨ ¬ d_t d = 0) := fun z => z.elim (fun y => q (e0.mpr y)) (fun y => y (hx.mp q2))
    rw [cif_n n3] at hZ
    refine nq_isDir (hN κ) _ ?_
    by_cases hd : 0 ≤ f_md f
    · rw [if_pos hd]
      rw [cif_n (fun z => z.1 hd)] at hZ
      exact ⟨fun _ => hZ, fun z => absurd rfl z⟩
    · rw [if_neg hd]
      refine ⟨fun z => absurd z (by decide), fun _ => ?_⟩
      simp only [m0, m1, (hN κ).1, (CM_t hM).1, ck, cP0, (hN κ).2.1, true_and, Option.some.injEq, exists_eq_left']
      have hk : mm_k g a = kd_Node := (hN κ).1
      refine ⟨hk, cq_tsizeOf (tre_live hM hT) _ _ ?_⟩
      have hc := cnt_le (inD T (nI (d_p d))) 60
      have ec : (nI (cnt (inD T (nI (d_p d))) 60) ≤ 0) ↔ cnt (inD T (nI (d_p d))) 60 = 0 := by
        rw [show (0 : Int32) = nI 0 from rfl, nI_leI (by omega) (by decide)]
        omega
      refine ⟨fun z => ?_, fun z => ?_⟩
      · rw [cif_n (fun y => by have := ec.mp z; omega)] at hZ; exact hZ
      · rw [cif_y ⟨hd, Nat.pos_of_ne_zero (fun y => z (ec.mpr y))⟩] at hZ; exact hZ
  · rw [cif_y (Or.inr (fun z => q2 (hx.mpr z)))] at hZ; exact hZ
theorem cq_drop (hM : CM ax g) (hK : CK ge ax g) (hC : CC ax κ0 κ g L A T S J fm fc gv tm ms) {p q a : Nat} {f : sF} (hp : p < 60) (hq : q < 60) (hqp : ¬ q = p) (hf : T p = some f) (hin : f_in f = nI q) (hn : nd ax g a p f) (Z : mm_M → Prop)
    (hZ : ∀ κ' g', ext g g' → CC ax κ0 κ' g' L A (drp T p tm) S (pushJ J T) fm fc gv tm ms → Z (c_em ax κ' g')) : wq_Server_drop ge ax (some a) (c_em ax κ g) Z := by
  have hg := hK.1
  obtain ⟨m0, m1⟩ := CM_0 hM
  obtain ⟨an, ad, fa, f1, f2, hN⟩ := nd_H hn
  have hk : mm_k g a = kd_Node := (hN κ).1
  have hin' : (f_in f).toNatClampNeg = q := by rw [hin, nI_clamp (by omega)]
  unfold wq_Server_drop wq_Server_drop_0 wq_Server_drop_57
  simp only [m0, m1, (CM_j hM).1, ck, cP0, true_and, Option.some.injEq, exists_eq_left']
  refine cq_keep hM hg _ hC.2.2.1 hC.2.2.2.1 _ (fun nx h1 h2 h3 => ?_)
  have C1 := CC_kp hC h1 h3
  simp only [m0, m1, hk, (CM_t hM).1, ck, cP0, (hN _).2.1, true_and, Option.some.injEq, exists_eq_left']
  refine cq_tdrop hM hg hp _ ?_
  have C2 := CC_dn C1 hp
  simp only [m0, m1, hk, (CM_t hM).1, ck, cP0, (hN _).2.2.1, hin, true_and, Option.some.injEq, exists_eq_left']
  refine cq_tat (tre_live hM C2.2.2.1) _ _ (fun p' a' f' hp' e hf' hn' => ?_) (fun hnone => ?_)
  · have := (nI_eq (by omega) (by omega)).mp e
    subst this
    refine ⟨fun z => absurd z (by simp), fun a25 _ => ?_⟩
    obtain ⟨hok, haz, an', ad', hz1, hz2, n1', n2', n3', n4', n5', n6', n7', n8', n9', n10'⟩ := hn'
    have hn' : nd ax g a' q f' := ⟨hok, haz, an', ad', hz1, hz2, n1', n2', n3', n4', n5', n6', n7', n8', n9', n10'⟩
    simp only [m0, m1, n1', n8', ck, cP0, cPf haz.1, cI0, true_and, Option.some.injEq, exists_eq_left']
    rw [C2.2.2.2.2.2.2.1.2.1]
    refine cq_wd hM hg hn' hz2 n10' hok.2.2.1 hok.2.2.2.2.1 hok.2.2.2.2.2 tm _ (fun g1 e1 nd1 => ?_)
    have hM1 := CM_ext hM e1
    have hk1 : mm_k g1 (ax + 32) = kd_Tree := (CM_t hM1).1
    simp only [hk1, ck, true_and]
    refine cq_tput hM1 hg hq nd1 _ ?_
    have C3 := CC_put (CC_ext e1 C2) hq nd1
    refine hZ _ g1 e1 ?_
    have hTq : T q = some f' := by rw [tset_n _ _ hqp] at hf'; exact hf'
    have ed : drp T p tm = tset (tset T p none) q (some (chg f' tm)) := by
      unfold drp
      simp only [hf, hin', hTq]
    rw [ed]
    exact C3
  · refine ⟨fun _ => ?_, fun a25 z => absurd z (by simp)⟩
    have hTq : T q = none := by have := hnone q hq rfl; rw [tset_n _ _ hqp] at this; exact this
    have ed : drp T p tm = tset T p none := by
      unfold drp
      simp only [hf, hin', hTq]
    refine hZ _ g (ext_rf g) ?_
    rw [ed]
    exact C2
theorem CC_del {i : Nat} {x : Int32} {d : sD} (hC : CC ax κ0 κ g L A T S J fm fc gv tm ms) (hr : rw_ κ fm i x d) : CC ax κ0 (c_u κ (8 + i) 0 0) g L A T S J (fset fm x none) (fc - 1) gv tm ms := by
  obtain ⟨r1, r2, r3, r4, r5⟩ := hr
  refine CC_fd (κ := κ) (fun o j ho => by rw [cu1, if_neg (by omega)]) rfl hC ?_
  rw [← r3]
  exact Cfd_del (κ := κ) hC.2.2.2.2.2.1 r1 r2 (fun o j _ _ h => by rw [cu1, if_neg (by omega)]) (by rw [cu1, if_pos ⟨rfl, rfl⟩])
theorem drp_ne {p q : Nat} {f : sF} (hf : T p = some f) (hin : f_in f = nI q) (hq : q < 60) (hqp : ¬ q = p) : ¬ drp T p tm = T := fun e => by
  have h1 := congrFun e p
  have hin' : (f_in f).toNatClampNeg = q := by rw [hin, nI_clamp (by omega)]
  rw [hf] at h1
  unfold drp at h1
  simp only [hf, hin'] at h1
  cases hTq : T q with
  | none => rw [hTq] at h1; simp only at h1; rw [tset_y] at h1; cases h1
  | some f' =>
    rw [hTq] at h1
    simp only at h1
    rw [tset_n _ _ (fun z => hqp z.symm), tset_y] at h1
    cases h1
/-- how the fid of a message leads to its file: path p, in a directory q that is another one, of the live tree or a snapshot -/
def Fth (T : sT) (S : List sT) (d : sD) (fo : Option sF) : Prop := d_p d < 60 ∧ d_t d ≤ S.length ∧ (∀ Tr, trOf T S (d_t d) = some Tr → Tr (d_p d) = fo) ∧ (∀ f, fo = some f → ¬ d_p d = 0 → ∃ q, q < 60 ∧ ¬ q = d_p d ∧ f_in f = nI q)
theorem Fth_live {d : sD} {f : sF} (h : Fth T S d (some f)) (h0 : d_t d = 0) : T (d_p d) = some f := h.2.2.1 T (by unfold trOf; rw [if_pos h0])
theorem whyN_0 {d : sD} {f : sF} (h : whyN T d f = 0) : ¬ d_p d = 0 ∧ d_t d = 0 := by
  unfold whyN at h
  by_cases z : d_p d = 0 ∨ ¬ d_t d = 0
  · rw [cif_y z] at h; exact absurd h (by decide)
  · exact ⟨fun y => z (Or.inl y), Decidable.not_not.mp (fun y => z (Or.inr y))⟩
theorem cq_rem (hM : CM ax g) (hK : CK ge ax g) (hC : CC ax κ0 κ g L A T S J fm fc gv tm ms) {i : Nat} {x : Int32} {d : sD} (hr : rw_ κ fm i x d) {fo : Option sF} (hF : Fth T S d fo) {ao : Option Nat} (hn : (fo = none ∧ ao = none) ∨ ∃ a f, fo = some f ∧ ao = some a ∧ nd ax g a (d_p d) f) (Z : Int32 → mm_M → Prop)
    (hZ : ∀ κ' g', Pst ax κ0 g L A S (jn J T (spRem T fm fc gv tm x d fo).2.2.1) tm ms (spRem T fm fc gv tm x d fo) κ' g' → Z (spRem T fm fc gv tm x d fo).1 (c_em ax κ' g')) : wq_Server_remove ge ax (some (ax + (8 + i))) ao (c_em ax κ g) Z := by
  have hg := hK.1
  have hr0 := hr
  obtain ⟨r1, r2, r3, r4, r5⟩ := hr
  have mf := ((CM_f hM).2 i r1).2
  obtain ⟨m0, m1⟩ := CM_0 hM
  have hS6 := hC.2.2.2.2.1.1
  have cl := crow_live r5 (by have := hF.2.1; omega)
  have C1 := CC_del hC hr0
  unfold wq_Server_remove wq_Server_remove_0 wq_Server_remove_24
  have e2 : (c_u κ (8 + i) 0 0).1 (8 + i) 2 = κ.1 (8 + i) 2 := by rw [cu1, if_neg (by simp)]
  simp only [mf, m0, ck, cU ax (8 + i) (by omega), cI ax (8 + i) (by omega), geo hg, e2, true_and, Option.some.injEq, exists_eq_left', forall_eq]
  have jT : jn J T T = J := cif_y rfl
  rcases hn with ⟨rfl, rfl⟩ | ⟨a, f, rfl, rfl, hn⟩
  · unfold wq_Server_whyNotRemoved wq_Server_whyNotRemoved_0
    refine ⟨fun a1 z => absurd z (by simp), fun _ => ⟨fun _ => ?_, fun z => absurd z (by decide)⟩⟩
    refine hZ _ g ⟨ext_rf g, A, fun z => absurd z (by show ¬ (4 : Int32) = 0; decide), ?_⟩
    have : jn J T (spRem T fm fc gv tm x d none).2.2.1 = J := jT
    rw [this]
    exact C1
  · refine cq_why hM C1.2.2.1 cl hF.1 hn _ ?_
    refine ⟨fun z => ?_, fun z => ⟨m0, ?_⟩⟩
    · have hs : spRem T fm fc gv tm x d (some f) = (whyN T d f, [], T, fset fm x none, fc - 1, gv) := cif_n z
      rw [hs] at hZ
      refine hZ _ g ⟨ext_rf g, A, fun y => absurd y z, ?_⟩
      show CC ax κ0 _ g L A T S (jn J T T) _ _ _ _ _
      rw [jT]
      exact C1
    · obtain ⟨np, nt⟩ := whyN_0 z
      obtain ⟨q, hq, hqp, hin⟩ := hF.2.2.2 f rfl np
      have hTp := Fth_live hF nt
      have hs : spRem T fm fc gv tm x d (some f) = (0, [], drp T (d_p d) tm, fset fm x none, fc - 1, gv) := cif_y z
      rw [hs] at hZ
      refine cq_drop hM hK C1 hF.1 hq hqp hTp hin hn _ (fun κ' g' e' C' => ?_)
      rw [z]
      refine hZ κ' g' ⟨e', A, fun _ => (List.append_nil A).symm, ?_⟩
      show CC ax κ0 κ' g' L A (drp T (d_p d) tm) S (jn J T (drp T (d_p d) tm)) _ _ _ _ _
      rw [show jn J T (drp T (d_p d) tm) = pushJ J T from cif_n (drp_ne hTp hin hq hqp)]
      exact C'
theorem cq_clu (hM : CM ax g) (hK : CK ge ax g) (hC : CC ax κ0 κ g L A T S J fm fc gv tm ms) {i : Nat} {x : Int32} {d : sD} (hr : rw_ κ fm i x d) {fo : Option sF} (hF : Fth T S d fo) {ao : Option Nat} (hn : (fo = none ∧ ao = none) ∨ ∃ a f, fo = some f ∧ ao = some a ∧ nd ax g a (d_p d) f) (Z : Int32 → mm_M → Prop)
    (hZ : ∀ κ' g', Pst ax κ0 g L A S (jn J T (spClu T fm fc gv tm x d fo).2.2.1) tm ms (spClu T fm fc gv tm x d fo) κ' g' → Z 0 (c_em ax κ' g')) : wq_Server_clunk ge ax (some (ax + (8 + i))) ao (c_em ax κ g) Z := by
  have hg := hK.1
  have hr0 := hr
  obtain ⟨r1, r2, r3, r4, r5⟩ := hr
  have mf := ((CM_f hM).2 i r1).2
  obtain ⟨m0, m1⟩ := CM_0 hM
  have hS6 := hC.2.2.2.2.1.1
  have cl := crow_live r5 (by have := hF.2.1; omega)
  obtain ⟨co1, co2⟩ := crow_open r5
  have C1 := CC_del hC hr0
  have e2 : (c_u κ (8 + i) 0 0).1 (8 + i) 2 = κ.1 (8 + i) 2 := by rw [cu1, if_neg (by simp)]
  have jT : jn J T T = J := cif_y rfl
  have stay : (spClu T fm fc gv tm x d fo).2.2.1 = T → Z 0 (c_em ax (c_u κ (8 + i) 0 0) g) := by
    intro h
    refine hZ _ g ⟨ext_rf g, A, fun _ => (List.append_nil A).symm, ?_⟩
    rw [h, jT]
    exact C1
  have p22 : ∀ w : Int32, (w = 0 ∨ w = 1) → (w = 1 ↔ (0 ≤ d_m d ∧ ¬ d_m d &&& 64 = 0)) → wq_Server_clunk_22 ge ax (some (ax + (8 + i))) ao w (c_em ax κ g) Z := by
    intro w hw hi
    unfold wq_Server_clunk_22 wq_Server_clunk_49
    simp only [mf, m0, ck, cU ax (8 + i) (by omega), cI ax (8 + i) (by omega), geo hg, e2, true_and, Option.some.injEq, exists_eq_left', forall_eq]
    refine ⟨fun z => stay ?_, fun z => ?_⟩
    · have nw : ¬ (0 ≤ d_m d ∧ ¬ d_m d &&& 64 = 0) := fun y => by have := hi.mpr y; rw [z] at this; exact absurd this (by decide)
      unfold spClu
      cases fo with
      | none => rfl
      | some f => exact cif_n (fun y => nw ⟨y.1, y.2.1⟩)
    · have yw := hi.mp (hw.resolve_left z)
      rcases hn with ⟨rfl, rfl⟩ | ⟨a, f, rfl, rfl, hn⟩
      · unfold wq_Server_whyNotRemoved wq_Server_whyNotRemoved_0
        exact ⟨fun a1 y => absurd y (by simp), fun _ => ⟨fun _ => stay rfl, fun y => absurd y (by decide)⟩⟩
      · refine cq_why hM C1.2.2.1 cl hF.1 hn _ ?_
        refine ⟨fun y => stay (cif_n (fun v => y v.2.2)), fun y => ⟨m0, ?_⟩⟩
        obtain ⟨np, nt⟩ := whyN_0 y
        obtain ⟨q, hq, hqp, hin⟩ := hF.2.2.2 f rfl np
        have hTp := Fth_live hF nt
        have hs : (spClu T fm fc gv tm x d (some f)).2.2.1 = drp T (d_p d) tm := cif_y ⟨yw.1, yw.2, y⟩
        refine cq_drop hM hK C1 hF.1 hq hqp hTp hin hn _ (fun κ' g' e' C' => ?_)
        refine hZ κ' g' ⟨e', A, fun _ => (List.append_nil A).symm, ?_⟩
        rw [hs, show jn J T (drp T (d_p d) tm) = pushJ J T from cif_n (drp_ne hTp hin hq hqp)]
        exact C'
  unfold wq_Server_clunk wq_Server_clunk_0 wq_Server_clunk_21
  simp only [mf, ck, cI ax (8 + i) (by omega), true_and, Option.some.injEq, exists_eq_left']
  refine ⟨fun q => p22 0 (Or.inl rfl) ⟨fun z => absurd z (by decide), fun z => absurd z.1 (co1.mp q)⟩, fun q => ?_⟩
  have hop : 0 ≤ d_m d := Decidable.not_not.mp (fun z => q (co1.mpr z))
  rw [co2 q]
  exact ⟨fun z => p22 0 (Or.inl rfl) ⟨fun y => absurd y (by decide), fun y => absurd z y.2⟩, fun z => p22 1 (Or.inr rfl) ⟨fun _ => ⟨hop, z⟩, fun _ => rfl⟩⟩
end HR
