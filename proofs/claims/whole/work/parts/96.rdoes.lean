/-! the reference: does -/
theorem cif_c {α β : Type} (f : α → β) {c : Prop} {a b : α} {x : β} (h1 : f a = x) (h2 : f b = x) : f (cif c a b) = x := by
  by_cases h : c
  · rw [cif_y h]; exact h1
  · rw [cif_n h]; exact h2
theorem b8_m : ∀ n, n < 128 → r_b8 (nI n).toInt64 0 = nI n ∧ r_b8 (nI n).toInt64 1 = 0 := by decide +kernel
section RDO
variable {ge : Nat → Nat} {am : Nat} {h : mm_M} {σ0 σ σ' : rS} {L A : List Int32} {T Tr : sT} {S J : List sT} {fm : sM} {fc gv : Nat} {tm : Int32} {ms : Nat}
theorem spAtt_T (x other : Int32) (X : List Int32) : (spAtt T S fm fc gv x other X).2.2.1 = T := by
  unfold spAtt
  refine cif_c (fun R : sR => R.2.2.1) rfl (cif_c (fun R : sR => R.2.2.1) rfl ?_)
  cases trNo S X with
  | none => rfl
  | some t => exact cif_c (fun R : sR => R.2.2.1) rfl rfl
theorem spWalk_T (x other : Int32) (d : sD) (N : List (List Int32)) : (spWalk T Tr fm fc gv x other d N).2.2.1 = T := by
  unfold spWalk
  exact cif_c (fun R : sR => R.2.2.1) rfl (cif_c (fun R : sR => R.2.2.1) rfl (cif_c (fun R : sR => R.2.2.1) rfl (cif_c (fun R : sR => R.2.2.1) rfl (cif_c (fun R : sR => R.2.2.1) rfl rfl))))
theorem spRead_T (x : Int32) (d : sD) (f : sF) (off : Int64) (c : Nat) : (spRead T Tr fm fc gv ms x d f off c).2.2.1 = T := by
  unfold spRead
  exact cif_c (fun R : sR => R.2.2.1) rfl (cif_c (fun R : sR => R.2.2.1) rfl (cif_c (fun R : sR => R.2.2.1) rfl rfl))
theorem jn_T {R : sR} (h : R.2.2.1 = T) : J = jn J T R.2.2.1 := (cif_y h).symm
theorem sB_no {e : Nat} {ty : Int32} (h : ¬ (ty = 100 ∨ ty = 102 ∨ ty = 108)) (b : Nat) (hb : qn e 4 (some 7) = some b) : at0 (sB e ty) = b := by rw [sB_fid h, hb]; rfl
set_option maxHeartbeats 8000000 in
theorem rt_does (hM : RM am h) (hg : ge 0 ≤ am) (hK : RK ge h) (hC : RR σ0 σ L A T S J fm fc gv tm ms) (hA : A.length = 7) (hI : Iv2 T S J fm fc gv ms) {e : Nat} (hkn : known (tp L 4)) (hm : Rms σ L e (tp L 4)) (he : σ.1 F_error = 0) (hsy : σ.1 F_sync = 0) (Z : mm_M → Prop)
    (hZ : ∀ σ' sy, (sy = 0 ∨ sy = 1) → RP σ0 L A S J tm (spDo L e T S J fm fc gv tm ms).2.2.2.2.2.2.1 sy ((spDo L e T S J fm fc gv tm ms).1, (spDo L e T S J fm fc gv tm ms).2.1, (spDo L e T S J fm fc gv tm ms).2.2.1, (spDo L e T S J fm fc gv tm ms).2.2.2.1, (spDo L e T S J fm fc gv tm ms).2.2.2.2.1, (spDo L e T S J fm fc gv tm ms).2.2.2.2.2.1) σ' → (spDo L e T S J fm fc gv tm ms).2.2.2.2.2.2.2 = (if sy = 0 then jn J T (spDo L e T S J fm fc gv tm ms).2.2.1 else []) → Z (r_em am σ' h)) : wq_Model_does ge am (tp L 4) (r_em am σ h) Z := by
  have hs := hM
  unfold RM at hs
  have hta := hC.1
  have tB := tp_B hta.2.1
  have hfc := hC.2.2.2.2.2.1.1
  have hmz := hC.2.2.2.2.2.2.1.2.2
  have hms := hI.1.2.2.2.2.1
  obtain ⟨m100, mfid, m104, m110, m112, m114, m116, m118, m126⟩ := hm
  obtain ⟨ty, ety⟩ : ∃ ty, ty = tp L 4 := ⟨_, rfl⟩
  obtain ⟨O, eO⟩ : ∃ O, O = spDo L e T S J fm fc gv tm ms := ⟨_, rfl⟩
  rw [← eO] at hZ
  have eO' := eO
  unfold spDo at eO'
  rw [← ety] at eO' hkn m100 mfid m104 m110 m112 m114 m116 m118 m126 ⊢
  have out : ∀ (R : sR) (J' : List sT), O = wrp R ms J' → J' = jn J T R.2.2.1 → ∀ σ', RP σ0 L A S J tm ms 0 R σ' → Z (r_em am σ' h) := by
    intro R J' h1 h2 σ' h3
    refine hZ σ' 0 (Or.inl rfl) ?_ ?_
    · rw [h1]; exact h3
    · rw [h1, if_pos rfl]; exact h2
  have er : ∀ k : Int32, O = (k, [], T, fm, fc, gv, ms, J) → ¬ k = 0 → Z (r_em am (r_f σ F_error k) h) := fun k hk nk => out (k, [], T, fm, fc, gv) J hk (jn_T rfl) _ (RP_er hC hsy rfl nk)
  unfold wq_Model_does wq_Model_does_0
  refine ⟨fun n100 => ?_, fun c => ?_⟩
  rotate_left
  · simp only [hs, rk, true_and]
    obtain ⟨g1, g2⟩ := m100 c
    rw [if_pos c] at eO'
    refine rt_ver hM hg hK hC hA g1 (c4_lt tB) g2 he hsy _ (fun σ' hP => hZ σ' 0 (Or.inl rfl) ?_ ?_)
    · rw [eO']; exact hP
    · rw [eO', if_pos rfl]; exact jn_T (R := (0, [], T, fm, fc, gv)) rfl
  rw [if_neg n100] at eO'
  have e0 : (nI ms = 0) ↔ ms = 0 := by
    show nI ms = nI 0 ↔ _
    exact nI_eq (by omega) (by decide)
  simp only [hs, rk, rI0, hmz, e0, true_and]
  refine ⟨fun n0 => ?_, fun c => ?_⟩
  rotate_left
  · rw [if_pos c] at eO'
    unfold wq_Model_does_24
    simp only [hs, rk, true_and, Option.some.injEq, exists_eq_left']
    exact rq_fails1 hM hg σ 1 _ ⟨fun z => absurd z (by decide), fun _ => er 1 eO' (by decide)⟩
  rw [if_neg n0] at eO'
  have hms64 : 64 ≤ ms ∧ ms ≤ 1000 := hms.resolve_left n0
  unfold wq_Model_does_24
  simp only [hs, rk, true_and, Option.some.injEq, exists_eq_left']
  refine rq_fails0 hM hg σ 1 _ ⟨fun _ => ⟨fun n102 => ⟨fun n108 => ⟨fun n104 => ?_, fun c => ?_⟩, fun c => ?_⟩, fun c => ?_⟩, fun z => absurd rfl z⟩
  rotate_left
  · -- 104
    have n102' : ¬ ty = 102 := n102
    rw [if_neg n102', if_neg n108, if_pos c] at eO'
    obtain ⟨g1, g2⟩ := m104 c
    simp only [hs, rk, true_and]
    refine rt_att hM hg hC hA hI.1 (mfid (fun z => by rcases z with z | z | z; exact n100 z; exact n102 z; exact n108 z)) g1 g2 he hsy _ (fun σ' hP => out _ J eO' (jn_T (spAtt_T _ _ _)) σ' hP)
  · -- 108
    rw [if_neg n102, if_pos c] at eO'
    exact out (0, [], T, fm, fc, gv) J eO' (jn_T rfl) σ ⟨he, hsy, A, fun _ => (List.append_nil A).symm, hC⟩
  · -- 102
    rw [if_pos c] at eO'
    simp only [hs, rk, rU0, hg, true_and, forall_eq]
    exact er 3 eO' (by decide)
  rw [if_neg n102, if_neg n108, if_neg n104] at eO'
  have nf : ¬ (ty = 100 ∨ ty = 102 ∨ ty = 108) := fun z => by rcases z with z | z | z; exact n100 z; exact n102 z; exact n108 z
  obtain ⟨x, ex⟩ : ∃ x, x = (val (tp L) 7 4).toInt32 := ⟨_, rfl⟩
  rw [← ex] at eO' mfid
  have hx : σ.1 33 = x := mfid nf
  simp only [hs, rk, rI0, hx, true_and]
  refine rt_fidOf hM σ hC.2.2.2.2.2.1 x _ (fun j d hj1 hj2 hj3 hd hrow => ⟨fun _ => ?_, fun z => absurd (nI_pos' (by omega)) z⟩) (fun hno => ⟨fun z => absurd z (by decide), fun _ => ?_⟩)
  rotate_left
  · rw [hno] at eO'
    unfold wq_Model_does_81
    simp only [hs, rk, true_and, Option.some.injEq, exists_eq_left']
    exact rq_fails1 hM hg σ 2 _ ⟨fun z => absurd z (by decide), fun _ => er 2 eO' (by decide)⟩
  rw [hd] at eO'
  have hr : rfi σ fm fc j x d := ⟨hj1, hj2, hj3, hd, hrow⟩
  have hF : Fok T S d := hI.1.2.2.2.1 x d hd
  have hw : wfT T gv := hI.1.1
  have hp := hF.1
  have hji : vp_in (nI j) 24 := vp_in_nI (by omega) (by decide)
  have hjc : (nI j).toNatClampNeg = j := nI_clamp (by omega)
  obtain ⟨r5, r6, r7, r8, r9⟩ := hrow
  have et0 : (nI (d_t d) = 0) ↔ d_t d = 0 := by
    show nI (d_t d) = nI 0 ↔ _
    have := hF.2.1
    have := hI.1.2.2.2.2.2.1
    exact nI_eq (by omega) (by decide)
  obtain ⟨F1, F2⟩ := Fok_file hF
  unfold wq_Model_does_81
  simp only [hs, rk, true_and, Option.some.injEq, exists_eq_left']
  refine rq_fails0 hM hg σ 2 _ ⟨fun _ => ?_, fun z => absurd rfl z⟩
  simp only [hs, rk, true_and]
  refine rq_isLost hM σ hj2 hp r6 _ ?_
  obtain ⟨lost, el⟩ : ∃ lost : Int32, lost = if σ.2.2 O_fTree j = 0 ∧ σ.2.2 O_is (d_p d) = 0 then 1 else 0 := ⟨_, rfl⟩
  rw [← el]
  have hl1 : fileOf T S d = none → lost = 1 := by
    intro z
    obtain ⟨y1, y2⟩ := F1 z
    rw [el, if_pos]
    refine ⟨by rw [r5]; exact et0.mpr y1, ?_⟩
    have := RT_get0 hC.2.2.1 hp y2
    rw [r60] at this
    exact this
  have hl0 : ∀ f, fileOf T S d = some f → lost = 0 := by
    intro f z
    obtain ⟨Tr, y1, y2⟩ := F2 f z
    rw [el, if_neg]
    rintro ⟨w1, w2⟩
    rw [r5] at w1
    have ht0 := et0.mp w1
    unfold trOf at y1
    rw [if_pos ht0] at y1
    rw [← Option.some.inj y1] at y2
    have := (RT_get hC.2.2.1 y2).2.1
    rw [r60, w2] at this
    exact absurd this (by decide)
  refine ⟨fun n122 => ⟨fun n120 => ?_, fun c => ?_⟩, fun c => ?_⟩
  rotate_left
  · -- 120
    have n122' : ¬ ty = 122 := n122
    have eO2 : O = wrp (spClu T fm fc gv tm x d (fileOf T S d)) ms (jn J T (spClu T fm fc gv tm x d (fileOf T S d)).2.2.1) := by
      rw [eO']
      show (if ty = 122 then _ else if ty = 120 then _ else _) = _
      rw [if_neg n122', if_pos c]
    have p151 : (∀ f, fileOf T S d = some f → ¬ (0 ≤ d_m d ∧ ¬ d_m d &&& 64 = 0 ∧ whyN T d f = 0)) → wq_Model_does_151 ge am (nI j) (r_em am σ h) Z := by
      intro hno
      unfold wq_Model_does_151 wq_Model_does_152 wq_Model_does_178
      simp only [hs, rk, rn, rP, rI, hji, hjc, r6, true_and, Option.some.injEq, exists_eq_left', Nat.reduceLT]
      refine rt_gone hM hg hC hr _ (fun σ1 a1 C1 => ⟨fun _ => ?_, fun z => absurd trivial z⟩)
      have hT : (spClu T fm fc gv tm x d (fileOf T S d)) = (0, [], T, fset fm x none, fc - 1, gv) := by
        unfold spClu
        cases hf : fileOf T S d with
        | none => rfl
        | some f => simp only [cif_n (hno f hf)]
      refine out _ _ eO2 rfl σ1 ?_
      rw [hT]
      exact ⟨by rw [a1 _ (by decide)]; exact he, by rw [a1 _ (by decide)]; exact hsy, A, fun _ => (List.append_nil A).symm, C1⟩
    refine ⟨fun z => p151 (fun f hf => absurd (hl0 f hf) z), fun z => ?_⟩
    cases hfo : fileOf T S d with
    | none => rw [hl1 hfo] at z; exact absurd z (by decide)
    | some f =>
      obtain ⟨Tr, hto, hf⟩ := F2 f hfo
      have one : ∀ P : sF → Prop, P f → ∀ f', fileOf T S d = some f' → P f' := fun P hP f' hf' => by rw [hfo] at hf'; cases hf'; exact hP
      simp only [hs, rk, rn, rP, rI, hji, hjc, r7, true_and, Option.some.injEq, exists_eq_left', Nat.reduceLT]
      refine ⟨fun y => p151 (fun f' hf' w => absurd y (Int32.not_lt.mpr w.1)), fun y => ⟨fun y2 => p151 (fun f' hf' w => w.2.1 y2), fun y2 => ?_⟩⟩
      refine rt_whyNot hM hC hr hp hto hf _ ?_
      refine ⟨fun y3 => p151 (one _ (fun w => y3 w.2.2)), fun y3 => ?_⟩
      have hT : (spClu T fm fc gv tm x d (fileOf T S d)) = (0, [], drp T (d_p d) tm, fset fm x none, fc - 1, gv) := by
        unfold spClu
        rw [hfo]
        simp only [cif_y (show 0 ≤ d_m d ∧ ¬ d_m d &&& 64 = 0 ∧ whyN T d f = 0 from ⟨Int32.not_lt.mp y, y2, y3⟩)]
      have n3 : ¬ (d_p d = 0 ∨ ¬ d_t d = 0) := fun z => by
        have : whyN T d f = 3 := cif_y z
        rw [this] at y3
        exact absurd y3 (by decide)
      have ht0 : d_t d = 0 := Decidable.not_not.mp (fun z => n3 (Or.inr z))
      have hTT : T (d_p d) = some f := by
        unfold trOf at hto
        rw [if_pos ht0] at hto
        rw [Option.some.inj hto]
        exact hf
      unfold wq_Model_does_152 wq_Model_does_178
      simp only [hs, rk, rn, rP, rI, hji, hjc, r6, true_and, Option.some.injEq, exists_eq_left', Nat.reduceLT]
      refine rt_gone hM hg hC hr _ (fun σ1 a1 C1 => ⟨fun w => absurd w (by decide), fun _ => ?_⟩)
      simp only [hs, rk, true_and]
      refine rt_leaves hM hg C1 hw hTT (fun z => n3 (Or.inl z)) _ (fun σ2 a2 C2 => out _ _ eO2 rfl σ2 ?_)
      rw [hT]
      exact ⟨by rw [a2, a1 _ (by decide)]; exact he, by rw [a2, a1 _ (by decide)]; exact hsy, A, fun _ => (List.append_nil A).symm, C2⟩
  · -- 122
    have eO2 : O = wrp (spRem T fm fc gv tm x d (fileOf T S d)) ms (jn J T (spRem T fm fc gv tm x d (fileOf T S d)).2.2.1) := by
      rw [eO']
      show (if ty = 122 then _ else _) = _
      rw [if_pos c]
    simp only [hs, rk, true_and]
    exact rt_rem hM hg hC hw hr hF hl1 hl0 he hsy _ (fun σ' hP => out _ _ eO2 rfl σ' hP)
  -- a file is wanted
  have eO3 : O = (match trOf T S (d_t d) with | none => (4, [], T, fm, fc, gv, ms, J) | some Tr => match Tr (d_p d) with | none => (4, [], T, fm, fc, gv, ms, J) | some f => spFid L e T Tr J fm fc gv tm ms x d f) := by
    rw [eO']
    show (if ty = 122 then _ else if ty = 120 then _ else _) = _
    rw [if_neg n122, if_neg n120]
    rfl
  simp only [hs, rk, true_and]
  cases hfo : fileOf T S d with
  | none =>
    rw [hl1 hfo]
    obtain ⟨y1, y2⟩ := F1 hfo
    have hto : trOf T S (d_t d) = some T := by unfold trOf; rw [if_pos y1]
    rw [hto] at eO3
    simp only [y2] at eO3
    exact rq_fails1 hM hg σ 4 _ ⟨fun z => absurd z (by decide), fun _ => er 4 eO3 (by decide)⟩
  | some f =>
    rw [hl0 f hfo]
    obtain ⟨Tr, hto, hf⟩ := F2 f hfo
    rw [hto] at eO3
    simp only [hf] at eO3
    unfold spFid at eO3
    rw [← ety] at eO3
    have hsB := sB_fid (e := e) nf
    refine rq_fails0 hM hg σ 4 _ ⟨fun _ => ⟨fun c => ?_, fun c => ?_, fun c => ?_, fun c => ?_, fun c => ?_, fun c => ?_, fun c => ?_⟩, fun z => absurd rfl z⟩
    · -- 110
      rw [if_pos c] at eO3
      obtain ⟨g1, g2⟩ := m110 c
      simp only [hs, rk, true_and]
      exact rt_walk hM hg hC hA hr hF hto (wfT_wk (trOf_wf hI.1.1 hI.1.2.1 hto)) hf g1 g2 he hsy _ (fun σ' hP => out _ J eO3 (jn_T (spWalk_T _ _ _ _)) σ' hP)
    · -- 112
      rw [if_neg (by rw [c]; decide), if_pos c] at eO3
      simp only [hs, rk, true_and]
      exact rt_open hM hg hC hA hr hp hto hf (m112 c) he hsy _ (fun σ' hP => out _ _ eO3 rfl σ' hP)
    · -- 114
      rw [if_neg (by rw [c]; decide), if_neg (by rw [c]; decide), if_pos c] at eO3
      obtain ⟨g1, g2, g3⟩ := m114 c
      simp only [hs, rk, true_and]
      exact rt_cre hM hg hC hA hw hr hp hto hf g1 g2 g3 he hsy _ (fun σ' hP => out _ _ eO3 rfl σ' hP)
    · -- 116
      rw [if_neg (by rw [c]; decide), if_neg (by rw [c]; decide), if_neg (by rw [c]; decide), if_pos c] at eO3
      obtain ⟨g1, g2⟩ := m116 c
      simp only [hs, rk, true_and]
      exact rt_read hM hg hC hA hms64 hr hF hto hf g1 g2 (c4_lt tB) he hsy _ (fun σ' hP => out _ J eO3 (jn_T (spRead_T _ _ _ _ _)) σ' hP)
    · -- 118
      rw [if_neg (by rw [c]; decide), if_neg (by rw [c]; decide), if_neg (by rw [c]; decide), if_neg (by rw [c]; decide), if_pos c] at eO3
      obtain ⟨g1, g2, g3, g4⟩ := m118 c
      have hXl : (slc L (at0 (qn e 8 (sB e ty)) + 4) (c4 (tp L) (at0 (qn e 8 (sB e ty))))).length = c4 (tp L) (at0 (qn e 8 (sB e ty))) := slc_len g4
      simp only [hs, rk, true_and]
      exact rt_wri hM hg hC hA hr hF hto hf g1 g3 (by rw [hXl]; exact g2) (by rw [hXl]; exact g4) (by rw [hXl]) he hsy _ (fun σ' hP => out _ _ eO3 rfl σ' hP)
    · -- 124
      rw [if_neg (by rw [c]; decide), if_neg (by rw [c]; decide), if_neg (by rw [c]; decide), if_neg (by rw [c]; decide), if_neg (by rw [c]; decide), if_pos c] at eO3
      obtain ⟨rT, t28⟩ := RR_tr hC hto
      simp only [hs, rk, true_and]
      refine rp_put (n := 2) hM hg σ hC.2.1.1.1 (by omega) _ _ ?_
      have C1 := RR_ap (le 2 0) (by rw [le_len]; omega) hC
      obtain ⟨σ1, e1⟩ : ∃ σ1, σ1 = r_ap σ (le 2 0) := ⟨_, rfl⟩
      rw [← e1] at C1 ⊢
      have q1 : ∀ i, ¬ i = F_answerSize → σ1.1 i = σ.1 i := fun i hi => by rw [e1]; exact ap_fd _ i hi
      have q2 : ∀ o i, ¬ o = O_answer → σ1.2.2 o i = σ.2.2 o i := fun o i hoo => by rw [e1]; exact r_ap_o hoo _ _
      have s5 : σ1.2.2 O_fTree j = nI (d_t d) := (q2 _ _ (by decide)).trans r5
      have s6 : σ1.2.2 O_fPath j = nI (d_p d) := (q2 _ _ (by decide)).trans r6
      have z9 : σ1.1 17 = nI 9 := by have := C1.2.1.1.1; rw [List.length_append, le_len, hA] at this; exact this
      obtain ⟨_, _, kf, rf⟩ := RT_get (RR_tr C1 hto).1 hf
      have l20 := kf.2.1
      simp only [hs, rk, rn, rP, rI0, rI, hji, hjc, s5, s6, z9, true_and, Option.some.injEq, exists_eq_left', Nat.reduceLT]
      refine rt_stat hM hg σ1 t28 hp z9 (by omega) kf rf _ ?_
      have C2 := RR_ap (statL (d_p d) f) (by simp only [List.length_append, le_len, hA, statL_len]; omega) C1
      obtain ⟨σ2, e2⟩ : ∃ σ2, σ2 = r_ap σ1 (statL (d_p d) f) := ⟨_, rfl⟩
      rw [← e2] at C2 ⊢
      have q3 : ∀ i, ¬ i = F_answerSize → σ2.1 i = σ.1 i := fun i hi => by rw [e2, ap_fd _ i hi]; exact q1 i hi
      have z61 : σ2.1 17 = nI (61 + (f_nm f).length) := by
        have := C2.2.1.1.1
        simp only [List.length_append, le_len, hA, statL_len] at this
        rw [this]
        congr 1
        omega
      have w7 : vp_in (nI 7) 1500 := vp_in_nI (by decide) (by decide)
      have c7 : (nI 7).toNatClampNeg = 7 := rfl
      have d7 : nI 9 - 2 = nI 7 := by decide
      have d52 : nI (61 + (f_nm f).length) - nI 9 = nI (52 + (f_nm f).length) := by rw [nI_sub (by omega)]; congr 1; omega
      simp only [hs, rk, rn, rP, rI0, rU, d7, w7, c7, z61, d52, ge0 hg, true_and, Option.some.injEq, exists_eq_left', forall_eq, Nat.reduceLT]
      have a8 : σ2.2.2 O_answer 8 = 0 := by
        refine C2.2.1.1.2 8 0 ?_
        rw [List.append_assoc, List.getElem?_append_right (by omega), hA, List.getElem?_append_left (by rw [le_len]; decide), le_get (by decide)]
        decide
      refine out _ J eO3 (jn_T rfl) _ ⟨(q3 _ (by decide)).trans he, (q3 _ (by decide)).trans hsy, A ++ le 2 (nI (52 + (f_nm f).length)).toInt64 ++ statL (d_p d) f, fun _ => List.append_assoc _ _ _, ?_⟩
      refine RR_ow (σ := σ2) hA (le_len 2 0) (fun _ => rfl) (fun o i z => ?_) (fun i hi => ?_) C2
      · rw [raa, if_neg (fun w => z ⟨w.1, by omega, by omega⟩)]
      · rcases (by omega : i = 0 ∨ i = 1) with ei | ei
        · rw [ei, (b8_m _ (by omega)).1]; exact ra_y
        · rw [ei, (b8_m _ (by omega)).2, ra_k (by decide)]; exact a8
    · -- 126
      obtain ⟨c1, c2, c3, c4_, c5, c6⟩ := c
      have c126 : ty = 126 := by
        rcases hkn with w | w | w | w | w | w | w | w | w | w | w | w | w
        · exact absurd w n100
        · exact absurd w n102
        · exact absurd w n104
        · exact absurd w n108
        · exact absurd w c1
        · exact absurd w c2
        · exact absurd w c3
        · exact absurd w c4_
        · exact absurd w c5
        · exact absurd w n120
        · exact absurd w n122
        · exact absurd w c6
        · exact w
      rw [if_neg c1, if_neg c2, if_neg c3, if_neg c4_, if_neg c5, if_neg c6] at eO3
      obtain ⟨g1, g2, g3, g4, g5⟩ := m126 c126
      simp only [hs, rk, true_and]
      refine rt_wst hM hg hC hI hr hF hto hf g4 g1 g2 g3 g5 he hsy _ (fun σ' hP => ?_)
      refine hZ σ' _ ?_ (by rw [eO3]; exact hP) ?_
      · by_cases w : (spWst T fm fc gv tm d f (txt L (st7 e (sB e ty))) (val (tp L) (at0 (st3 e (sB e ty))) 4).toInt32 (val (tp L) (at0 (st5 e (sB e ty))) 4).toInt32 (val (tp L) (at0 (st6 e (sB e ty))) 8) (restO (tp L) e (sB e ty))).1 = 0 ∧ askN (txt L (st7 e (sB e ty))) (val (tp L) (at0 (st3 e (sB e ty))) 4).toInt32 (val (tp L) (at0 (st5 e (sB e ty))) 4).toInt32 (val (tp L) (at0 (st6 e (sB e ty))) 8)
        · exact Or.inr (cif_y w)
        · exact Or.inl (cif_n w)
      · rw [eO3]
        by_cases w : (spWst T fm fc gv tm d f (txt L (st7 e (sB e ty))) (val (tp L) (at0 (st3 e (sB e ty))) 4).toInt32 (val (tp L) (at0 (st5 e (sB e ty))) 4).toInt32 (val (tp L) (at0 (st6 e (sB e ty))) 8) (restO (tp L) e (sB e ty))).1 = 0 ∧ askN (txt L (st7 e (sB e ty))) (val (tp L) (at0 (st3 e (sB e ty))) 4).toInt32 (val (tp L) (at0 (st5 e (sB e ty))) 4).toInt32 (val (tp L) (at0 (st6 e (sB e ty))) 8)
        · rw [cif_y w, if_neg (by decide)]
          exact cif_y w
        · rw [cif_n w, if_pos rfl]
          exact cif_n w
end RDO
