/-! the class: serve -/
section HV
variable {ge : Nat → Nat} {ax : Nat} {κ0 κ : cS} {g : mm_M} {L A : List Int32} {T : sT} {S J : List sT} {fm : sM} {fc gv : Nat} {tm : Int32} {ms : Nat}
/-- what serving leaves -/
def Ost (ax : Nat) (κ0 : cS) (g : mm_M) (L A : List Int32) (S : List sT) (tm : Int32) (R : sO) (κ' : cS) (g' : mm_M) : Prop := ext g g' ∧ ∃ A', (R.1 = 0 → A' = A ++ R.2.1) ∧ CC ax κ0 κ' g' L A' R.2.2.1 S R.2.2.2.2.2.2.2 R.2.2.2.1 R.2.2.2.2.1 R.2.2.2.2.2.1 tm R.2.2.2.2.2.2.1
theorem Ost_of {R : sR} {κ' : cS} {g' : mm_M} {J' : List sT} (h : Pst ax κ0 g L A S J' tm ms R κ' g') : Ost ax κ0 g L A S tm (wrp R ms J') κ' g' := h
set_option maxHeartbeats 4000000 in
theorem cq_sfid (hM : CM ax g) (hK : CK ge ax g) (hC : CC ax κ0 κ g L A T S J fm fc gv tm ms) (hA : A.length = 7) (hI : Iv T S J fm fc gv ms) (hms : ¬ ms = 0) {e : Nat} (he : e ≤ L.length) (hok : msg_ok L e) (h5 : κ.1 5 5 = tp L 4) (h7 : κ.1 5 7 = (val (tp L) 7 4).toInt32) (hR : RC κ e (some e)) (hms_ : Cms κ L e (tp L 4) (sB e (tp L 4))) (hn1 : ¬ tp L 4 = 100) (hn2 : ¬ tp L 4 = 102) (hn3 : ¬ tp L 4 = 104) (hn4 : ¬ tp L 4 = 108) {i : Nat} {d : sD} (hr : rw_ κ fm i (val (tp L) 7 4).toInt32 d) (Z : Int32 → mm_M → Prop)
    (hZ : ∀ κ' g', Ost ax κ0 g L A S tm (spDo L e T S J fm fc gv tm ms) κ' g' → Z (spDo L e T S J fm fc gv tm ms).1 (c_em ax κ' g')) : wq_Server_serveFid ge ax (some (ax + (8 + i))) (c_em ax κ g) Z := by
  have hg := hK.1
  have hr0 := hr
  obtain ⟨r1, r2, r3, r4, r5⟩ := hr
  have mf := ((CM_f hM).2 i r1).2
  obtain ⟨m0, m1⟩ := CM_0 hM
  obtain ⟨iv1, iv2, iv3, iv4, iv5, iv6, iv7⟩ := hI
  have hI : Iv T S J fm fc gv ms := ⟨iv1, iv2, iv3, iv4, iv5, iv6, iv7⟩
  have hm64 : 64 ≤ ms ∧ ms ≤ 1000 := iv5.resolve_left hms
  obtain ⟨fo1, fo2, fo3, fo4, fo5⟩ := iv4 _ d r4
  have hF := Fth_of hI r4
  obtain ⟨Tr, hTr⟩ := trOf_some (T := T) fo2
  have hwTr := trOf_wf iv1 iv2 hTr
  have hfo : fileOf T S d = Tr (d_p d) := by unfold fileOf; rw [hTr]
  -- what the spec says, given a fid
  have sp1 : spDo L e T S J fm fc gv tm ms = (if tp L 4 = 122 then wrp (spRem T fm fc gv tm (val (tp L) 7 4).toInt32 d (fileOf T S d)) ms (jn J T (spRem T fm fc gv tm (val (tp L) 7 4).toInt32 d (fileOf T S d)).2.2.1)
      else if tp L 4 = 120 then wrp (spClu T fm fc gv tm (val (tp L) 7 4).toInt32 d (fileOf T S d)) ms (jn J T (spClu T fm fc gv tm (val (tp L) 7 4).toInt32 d (fileOf T S d)).2.2.1)
      else match Tr (d_p d) with
          | none => (4, [], T, fm, fc, gv, ms, J)
          | some f => spFid L e T Tr J fm fc gv tm ms (val (tp L) 7 4).toInt32 d f) := by
    unfold spDo
    rw [if_neg hn1, if_neg hms, if_neg hn2, if_neg hn4, if_neg hn3, r4]
    simp only [hTr]
    rfl
  unfold wq_Server_serveFid wq_Server_serveFid_0
  simp only [mf, m0, ck, cI ax (8 + i) (by omega), r5.1, true_and, Option.some.injEq, exists_eq_left']
  -- behind the tree
  have rest : ∀ b : Nat, (∀ κ, nr ax g (κ.2.2 33) T → tre ax κ g b Tr) → ∀ (hb : mm_k g b = kd_Tree), wq_Server_nodeOf ge ax (some (ax + (8 + i))) (c_em ax κ g) (fun r9 h8 => mm_k h8 ax = kd_Server ∧ ∃ a11, mm_P h8 ax 2 = some a11 ∧ mm_k h8 a11 = kd_Request ∧ ((¬ mm_I h8 a11 5 = 120 → ((¬ mm_I h8 a11 5 = 122 → ((some b = none → wq_Server_serveFid_61 ge h8 Z) ∧ (∀ a14, some b = some a14 → ((∀ a15, r9 = some a15 → ((mm_I h8 a11 5 = 110 → wq_Server_walk ge ax (some (ax + (8 + i))) (some b) r9 h8 (fun r17 h16 => Z r17 h16)) ∧ (mm_I h8 a11 5 = 112 → wq_Server_open ge ax (some (ax + (8 + i))) r9 h8 (fun r19 h18 => Z r19 h18)) ∧ (mm_I h8 a11 5 = 114 → wq_Server_create ge ax (some (ax + (8 + i))) r9 h8 (fun r21 h20 => Z r21 h20)) ∧ (mm_I h8 a11 5 = 116 → ∃ a22, r9 = some a22 ∧ mm_k h8 a22 = kd_Node ∧ wq_Node_isDirectory ge a22 h8 (fun r26 h25 => ((r26 = 0 → mm_k h25 ax = kd_Server ∧ wq_Server_readData ge ax (some (ax + (8 + i))) r9 h25 (fun r29 h28 => wq_Server_serveFid_196 ge r29 h28 Z)) ∧ (¬ r26 = 0 → mm_k h25 ax = kd_Server ∧ wq_Server_readDirectory ge ax (some (ax + (8 + i))) (some b) h25 (fun r32 h31 => wq_Server_serveFid_196 ge r32 h31 Z))))) ∧ (mm_I h8 a11 5 = 118 → wq_Server_write ge ax (some (ax + (8 + i))) r9 h8 (fun r34 h33 => Z r34 h33)) ∧ (mm_I h8 a11 5 = 124 → wq_Server_stat ge ax r9 h8 (fun r36 h35 => Z r36 h35)) ∧ (mm_I h8 a11 5 = 126 → wq_Server_wstat ge ax (some (ax + (8 + i))) r9 h8 (fun r38 h37 => Z r38 h37)) ∧ ((¬ mm_I h8 a11 5 = 110 ∧ ¬ mm_I h8 a11 5 = 112 ∧ ¬ mm_I h8 a11 5 = 114 ∧ ¬ mm_I h8 a11 5 = 116 ∧ ¬ mm_I h8 a11 5 = 118 ∧ ¬ mm_I h8 a11 5 = 124 ∧ ¬ mm_I h8 a11 5 = 126) → Z 0 h8))) ∧ (r9 = none → wq_Server_serveFid_61 ge h8 Z))))) ∧ (mm_I h8 a11 5 = 122 → wq_Server_remove ge ax (some (ax + (8 + i))) r9 h8 (fun r40 h39 => Z r40 h39)))) ∧ (mm_I h8 a11 5 = 120 → wq_Server_clunk ge ax (some (ax + (8 + i))) r9 h8 (fun r42 h41 => Z r42 h41)))) := by
    intro b htr hb
    -- clunk and remove, for a node or none
    have crm : ∀ ao : Option Nat, ((fileOf T S d = none ∧ ao = none) ∨ ∃ a f, fileOf T S d = some f ∧ ao = some a ∧ nd ax g a (d_p d) f) → (tp L 4 = 122 → wq_Server_remove ge ax (some (ax + (8 + i))) ao (c_em ax κ g) (fun r40 h39 => Z r40 h39)) ∧ (tp L 4 = 120 → wq_Server_clunk ge ax (some (ax + (8 + i))) ao (c_em ax κ g) (fun r42 h41 => Z r42 h41)) := by
      intro ao hao
      refine ⟨fun q => ?_, fun q => ?_⟩
      · rw [sp1, if_pos q] at hZ
        exact cq_rem hM hK hC hr0 hF hao _ (fun κ' g' h => hZ κ' g' (Ost_of h))
      · rw [sp1, if_neg (by rw [q]; decide), if_pos q] at hZ
        exact cq_clu hM hK hC hr0 hF hao _ (fun κ' g' h => hZ κ' g' (Ost_of h))
    refine cq_nodeOf hM hC.2.2.1 hC.2.2.2.2.1 r1 r5 fo1 fo2 _ (fun a f Tr' hTr' hf hn => ?_) (fun hnone => ?_)
    · rw [hTr] at hTr'
      cases hTr'
      obtain ⟨c1, c2⟩ := crm (some a) (Or.inr ⟨a, f, hfo.trans hf, rfl, hn⟩)
      simp only [m0, m1, (CM_q hM).1, ck, cP0, cI ax 5 (by decide), h5, true_and, Option.some.injEq, exists_eq_left']
      refine ⟨fun q1 => ⟨fun q2 => ⟨fun y => absurd y (by simp), fun a14 _ => ⟨fun a15 _ => ?_, fun y => absurd y (by simp)⟩⟩, fun q2 => c1 q2⟩, fun q1 => c2 q1⟩
      have sp2 : spDo L e T S J fm fc gv tm ms = spFid L e T Tr J fm fc gv tm ms (val (tp L) 7 4).toInt32 d f := by
        rw [sp1, if_neg q2, if_neg q1, hf]
      rw [sp2] at hZ
      have hFs : Fth T S d (some f) := by rw [← hf, ← hfo]; exact hF
      obtain ⟨cm100, cm104, cm110, cm112, cm114, cm116, cm118, cm126⟩ := hms_
      unfold spFid at hZ
      refine ⟨fun q => ?_, fun q => ?_, fun q => ?_, fun q => ?_, fun q => ?_, fun q => ?_, fun q => ?_, fun q => ?_⟩
      · rw [if_pos q] at hZ
        obtain ⟨y8, y9, y4⟩ := cm110 q
        obtain ⟨t1, t2⟩ := tl_eq (t := tp L) (a := at0 (qn e 4 (sB e (tp L 4)))) (tp_B hC.1.2.1)
        have hb2 := hok.2.2.2
        have hbd : bd2 (tp L) e (tp L 4) (sB e (tp L 4)) = qts (tp L) e (tl (tp L) (at0 (qn e 4 (sB e (tp L 4))))) (qn e 2 (qn e 4 (sB e (tp L 4)))) := by
          unfold bd2
          rw [if_neg hn1, if_neg hn2, if_neg hn3, if_neg hn4, if_pos q]
        rw [hbd] at hb2
        exact cq_wlk hM hK hC hA hr0 htr (wfT_wk hwTr) hf hn h7 y8 he y9 t2 hR y4 hb2 (fun c hc => (qn_some hc).2.2) _ (fun κ' g' h => hZ κ' g' (Ost_of h))
      · rw [if_neg (by rw [q]; decide), if_pos q] at hZ
        exact cq_open hM hK hC hA hr0 fo1 fo2 hTr hf hn (cm112 q) _ (fun κ' g' h => hZ κ' g' (Ost_of h))
      · rw [if_neg (by rw [q]; decide), if_neg (by rw [q]; decide), if_pos q] at hZ
        obtain ⟨y1, y2, y3⟩ := cm114 q
        refine cq_cre hM hK hC hA hr0 hFs hn iv1.1 ?_ y1 y2 y3 _ (fun κ' g' h => hZ κ' g' (Ost_of h))
        cases hgv : T gv with
        | none => rfl
        | some f' => exact absurd (iv1.2.2 gv f' hgv).1 (by omega)
      · rw [if_neg (by rw [q]; decide), if_neg (by rw [q]; decide), if_neg (by rw [q]; decide), if_pos q] at hZ
        obtain ⟨y1, y2⟩ := cm116 q
        have hc2 := c4_lt (t := tp L) (a := at0 (qn e 8 (sB e (tp L 4)))) (tp_B hC.1.2.1)
        obtain ⟨an, ad, fa, f1, f2, hN⟩ := nd_H hn
        refine ⟨(hN κ).1, nq_isDir (hN κ) _ ?_⟩
        unfold wq_Server_serveFid_196
        by_cases hd : 0 ≤ f_md f
        · rw [if_pos hd]
          exact ⟨fun _ => ⟨m0, cq_rdData hM hK hC hA hm64 hr0 hd hn Tr y1 y2 hc2 _ (fun κ' g' h => hZ κ' g' (Ost_of h))⟩, fun y => absurd rfl y⟩
        · rw [if_neg hd]
          exact ⟨fun y => absurd y (by decide), fun _ => ⟨m0, cq_rdDir hM hK hC hA hm64 hr0 hd fo1 fo3 htr y1 y2 hc2 _ (fun κ' g' h => hZ κ' g' (Ost_of h))⟩⟩
      · rw [if_neg (by rw [q]; decide), if_neg (by rw [q]; decide), if_neg (by rw [q]; decide), if_neg (by rw [q]; decide), if_pos q] at hZ
        obtain ⟨y1, y2, y3⟩ := cm118 q
        have hXl : (slc L (at0 (qn e 8 (sB e (tp L 4))) + 4) (c4 (tp L) (at0 (qn e 8 (sB e (tp L 4)))))).length = c4 (tp L) (at0 (qn e 8 (sB e (tp L 4)))) := by
          have hb2 := hok.2.2.2
          have hbd : bd2 (tp L) e (tp L 4) (sB e (tp L 4)) = qd (tp L) e (qn e 8 (sB e (tp L 4))) := by
            unfold bd2
            rw [if_neg hn1, if_neg hn2, if_neg hn3, if_neg hn4, if_neg (by rw [q]; decide), if_neg (by rw [q]; decide), if_neg (by rw [q]; decide), if_neg (by rw [q]; decide), if_pos q]
          rw [hbd] at hb2
          obtain ⟨w1, w2, w3⟩ := qs_some hb2
          obtain ⟨w4, w5⟩ := qn_at w1
          exact slc_len (by omega)
        refine cq_wri hM hK hC hA hr0 hFs (fun hn3 => ?_) hn y3 y1 (by rw [y2, hXl]) _ (fun κ' g' h => hZ κ' g' (Ost_of h))
        obtain ⟨z1, z2⟩ := fo5 hn3
        exact ⟨z1, z2 f (Fth_live hFs z1)⟩
      · rw [if_neg (by rw [q]; decide), if_neg (by rw [q]; decide), if_neg (by rw [q]; decide), if_neg (by rw [q]; decide), if_neg (by rw [q]; decide), if_pos q] at hZ
        exact cq_hstat hM hg hC hA hn _ (fun κ' g' h => hZ κ' g' (Ost_of h))
      · rw [if_neg (by rw [q]; decide), if_neg (by rw [q]; decide), if_neg (by rw [q]; decide), if_neg (by rw [q]; decide), if_neg (by rw [q]; decide), if_neg (by rw [q]; decide)] at hZ
        obtain ⟨y1, y2, y3, y4, y5⟩ := cm126 q
        exact cq_wst hM hK hC hr0 hFs hn y4 y1 y2 y3 y5 _ (fun κ' g' h => hZ κ' g' (Ost_of h))
      · exfalso
        obtain ⟨z1, z2, z3, z4, z5, z6, z7⟩ := q
        have hkn := hok.2.2.1
        unfold known at hkn
        rcases hkn with z | z | z | z | z | z | z | z | z | z | z | z | z <;> contradiction
    · have hfn : fileOf T S d = none := hfo.trans (hnone Tr hTr)
      obtain ⟨c1, c2⟩ := crm none (Or.inl ⟨hfn, rfl⟩)
      simp only [m0, m1, (CM_q hM).1, ck, cP0, cI ax 5 (by decide), h5, true_and, Option.some.injEq, exists_eq_left']
      refine ⟨fun q1 => ⟨fun q2 => ⟨fun y => absurd y (by simp), fun a14 _ => ⟨fun a15 y => absurd y (by simp), fun _ => ?_⟩⟩, fun q2 => c1 q2⟩, fun q1 => c2 q1⟩
      have sp2 : spDo L e T S J fm fc gv tm ms = (4, [], T, fm, fc, gv, ms, J) := by
        rw [sp1, if_neg q2, if_neg q1, hnone Tr hTr]
      rw [sp2] at hZ
      unfold wq_Server_serveFid_61
      exact hZ κ g ⟨ext_rf g, A, fun y => absurd y (by show ¬ (4 : Int32) = 0; decide), hC⟩
  refine cq_treeOf hM hC.2.2.1 hC.2.2.2.2.1 _ _ (fun q => ⟨m0, ?_⟩) (fun k b T' ne q hk hs => ⟨m0, ?_⟩) (fun ne hn => ?_)
  · have ht0 : d_t d = 0 := by
      by_cases z : d_t d = 0
      · exact z
      · exact absurd q (nI_m1_ne (by omega) (by omega))
    have hTT : Tr = T := by
      unfold trOf at hTr
      rw [if_pos ht0] at hTr
      exact (Option.some.inj hTr).symm
    refine rest (ax + 32) (fun κ' h => ?_) (CM_t hM).1
    rw [hTT]
    exact tre_live hM h
  · have hkl : k < S.length := (List.getElem?_eq_some_iff.mp hk).1
    have ht1 : d_t d = k + 1 := by
      by_cases z : d_t d = 0
      · rw [z] at ne; exact absurd (by decide) ne
      · obtain ⟨j, ej⟩ : ∃ j, d_t d = j + 1 := ⟨d_t d - 1, by omega⟩
        rw [ej, nI_m1] at q
        have := (nI_eq (by omega) (by omega)).mp q
        omega
    have hTT : Tr = T' := by
      unfold trOf at hTr
      rw [if_neg (by omega), ht1] at hTr
      rw [Nat.add_sub_cancel, hk] at hTr
      exact (Option.some.inj hTr).symm
    refine rest b (fun κ' _ => ?_) hs.1
    rw [hTT]
    exact tre_s hs κ'
  · exfalso
    by_cases z : d_t d = 0
    · rw [z] at ne; exact ne (by decide)
    · obtain ⟨j, ej⟩ : ∃ j, d_t d = j + 1 := ⟨d_t d - 1, by omega⟩
      exact hn j (by omega) (by rw [ej, nI_m1])
theorem cq_serve (hM : CM ax g) (hK : CK ge ax g) (hC : CC ax κ0 κ g L A T S J fm fc gv tm ms) (hA : A.length = 7) (hI : Iv T S J fm fc gv ms) {e : Nat} (he : e ≤ L.length) (hok : msg_ok L e) (h5 : κ.1 5 5 = tp L 4) (h7 : ¬ (tp L 4 = 100 ∨ tp L 4 = 102 ∨ tp L 4 = 108) → κ.1 5 7 = (val (tp L) 7 4).toInt32) (hR : RC κ e (some e)) (hms_ : Cms κ L e (tp L 4) (sB e (tp L 4))) (Z : Int32 → mm_M → Prop)
    (hZ : ∀ κ' g', Ost ax κ0 g L A S tm (spDo L e T S J fm fc gv tm ms) κ' g' → Z (spDo L e T S J fm fc gv tm ms).1 (c_em ax κ' g')) : wq_Server_serve ge ax (c_em ax κ g) Z := by
  obtain ⟨m0, m1⟩ := CM_0 hM
  have hm1000 : ms ≤ 1000 := by rcases hI.2.2.2.2.1 with z | z <;> omega
  have er : ∀ (k : Int32) (B : List Int32), spDo L e T S J fm fc gv tm ms = (k, B, T, fm, fc, gv, ms, J) → (k = 0 → B = []) → Z k (c_em ax κ g) := by
    intro k B hk hB
    rw [hk] at hZ
    refine hZ κ g ⟨ext_rf g, A, fun z => ?_, hC⟩
    show A = A ++ B
    rw [hB z, List.append_nil]
  unfold wq_Server_serve wq_Server_serve_0 wq_Server_serve_105
  simp only [m0, m1, (CM_q hM).1, (CM_f hM).1, ck, cP0, cI0, cI ax 5 (by decide), h5, hC.2.2.2.2.2.2.1.2.2, true_and, Option.some.injEq, exists_eq_left']
  have e0 : (nI ms = 0) ↔ ms = 0 := nI_eq (b := 0) (by omega) (by decide)
  refine ⟨fun q => ⟨fun q2 => ?_, fun q2 => er 1 [] ?_ (fun z => rfl)⟩, fun q => ?_⟩
  · have hms : ¬ ms = 0 := fun z => q2 (e0.mpr z)
    refine ⟨fun q3 => er 3 [] ?_ (fun _ => rfl), fun q3 => ?_, fun q3 => er 0 [] ?_ (fun _ => rfl), fun q3 => ?_⟩
    · unfold spDo; rw [if_neg q, if_neg hms, if_pos q3]
    · obtain ⟨y1, y2⟩ := hms_.2.1 q3
      have hs : spDo L e T S J fm fc gv tm ms = wrp (spAtt T S fm fc gv (val (tp L) 7 4).toInt32 (val (tp L) (at0 (sB e (tp L 4))) 4).toInt32 (txt L (qt (tp L) e (qn e 4 (sB e (tp L 4)))))) ms J := by
        unfold spDo
        rw [if_neg q, if_neg hms, if_neg (by rw [q3]; decide), if_neg (by rw [q3]; decide), if_pos q3]
      rw [hs] at hZ
      exact cq_att hM hK hC hA hI (h7 (by rw [q3]; decide)) y1 y2 _ (fun κ' g' h => hZ κ' g' (Ost_of h))
    · unfold spDo; rw [if_neg q, if_neg hms, if_neg (by rw [q3]; decide), if_pos q3]
    · obtain ⟨n102, n104, n108⟩ := q3
      have hx := h7 (fun z => by rcases z with z | z | z; exact q z; exact n102 z; exact n108 z)
      rw [hx]
      refine cq_find hM κ hC.2.2.2.2.2.1 _ _ (fun i d hi hu hx' hfo hcr => ⟨fun a12 _ => ⟨m0, ?_⟩, fun z => absurd z (by simp)⟩) (fun hfo => ⟨fun a12 z => absurd z (by simp), fun _ => er 2 [] ?_ (fun _ => rfl)⟩)
      · exact cq_sfid hM hK hC hA hI hms he hok h5 hx hR hms_ q n102 n104 n108 ⟨hi, hu, hx', hfo, hcr⟩ _ hZ
      · unfold spDo
        rw [if_neg q, if_neg hms, if_neg n102, if_neg n108, if_neg n104, hfo]
  · unfold spDo; rw [if_neg q, if_pos (e0.mp q2)]
  · obtain ⟨y1, y2⟩ := hms_.1 q
    have hsB : sB e (tp L 4) = some 7 := by unfold sB; rw [if_pos (Or.inl q)]
    rw [hsB] at y1 y2
    rw [show at0 (some 7) = 7 from rfl, c4_i] at y1
    have hs : spDo L e T S J fm fc gv tm ms = ((spVer (c4 (tp L) 7) (txt L (qn e 4 (some 7)))).1, (spVer (c4 (tp L) 7) (txt L (qn e 4 (some 7)))).2.1, T, (fun _ => none), 0, gv, (spVer (c4 (tp L) 7) (txt L (qn e 4 (some 7)))).2.2, J) := by
      unfold spDo
      rw [if_pos q]
    rw [hs] at hZ
    exact cq_ver hM hK hC hA y1 (c4_lt (tp_B hC.1.2.1)) y2 _ (fun κ' A' h1 h2 => hZ κ' g ⟨ext_rf g, A', h1, h2⟩)
end HV
