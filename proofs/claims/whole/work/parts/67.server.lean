/-! the store after going over a tree; Server.archive, Server.score -/
noncomputable def nsp (k : Bool) (Tr : sT) (σ : sB_) (p : Nat) : sB_ := match Tr p with
  | none => σ
  | some f => ofr k (if 0 ≤ f_md f then ofrC k (f_dt f) (nck (f_dt f)) σ else σ) (nblk Tr (sc Tr) p f)
theorem nst_1 {k : Bool} {Tr : sT} {s : sB_ × (Nat → qW)} {p : Nat} {f : sF} (hT : Tr p = some f) (hc : ¬ 0 ≤ f_md f → ∀ c, c < 60 → inD Tr (nI p) c → s.2 c = sc Tr c) : (nst k Tr s p).1 = nsp k Tr s.1 p := by
  unfold nst nsp
  rw [hT]
  simp only
  rw [nblk_cg hc]
theorem go_st {k : Bool} {Tr : sT} {gv : Nat} (hw : wfT Tr gv) : ∀ (n q b : Nat) (s : sB_ × (Nat → qW)) (f : sF), mu q b ≤ n → q < 60 → b < 60 → Tr q = some f → ¬ 0 ≤ f_md f → (∀ p, p ≤ b → inD Tr (nI q) p → s.2 p = sc Tr p) → ((rsq Tr n q b).foldl (nst k Tr) s).1 = (rsq Tr n q b).foldl (nsp k Tr) s.1 := by
  intro n
  induction n with
  | zero => intro q b s f hmu hq; unfold mu at hmu; omega
  | succ n ih =>
    intro q b s f hmu hq hb hT hd hs
    cases hk : nextk Tr q b with
    | none =>
      have hrs : rsq Tr (n + 1) q b = [q] := by
        conv => lhs; unfold rsq
        rw [hk]
      rw [hrs]
      refine nst_1 hT (fun _ c hc hi => ?_)
      by_cases hcb : c ≤ b
      · exact hs c hcb hi
      · exact absurd hi (fsti_no hk c (by omega) (by omega))
    | some p =>
      have hrs : rsq Tr (n + 1) q b = cif (isDirAt Tr p) (rsq Tr n p 0) [p] ++ rsq Tr n q p := by
        conv => lhs; unfold rsq
        rw [hk]
      obtain ⟨h1, h2, h3⟩ := nextk_some hk
      have hqp := inD_lt hw hq h1
      rw [hrs, List.foldl_append, List.foldl_append]
      have first : ∀ s', s' = (cif (isDirAt Tr p) (rsq Tr n p 0) [p]).foldl (nst k Tr) s → (s'.2 p = sc Tr p ∧ ∀ x, s.2 x = sc Tr x → s'.2 x = sc Tr x) ∧ s'.1 = (cif (isDirAt Tr p) (rsq Tr n p 0) [p]).foldl (nsp k Tr) s.1 := by
        intro s' es
        by_cases c : isDirAt Tr p
        · obtain ⟨fp, c1, c2⟩ := c
          rw [cif_y ⟨fp, c1, c2⟩] at es ⊢
          rw [es]
          exact ⟨go_ok hw n p 0 s fp (by unfold mu at hmu ⊢; omega) h3 (by decide) c1 c2 (fun c hc hi => absurd hc (by have := hi.1; omega)), ih p 0 s fp (by unfold mu at hmu ⊢; omega) h3 (by decide) c1 c2 (fun c hc hi => absurd hc (by have := hi.1; omega))⟩
        · rw [cif_n c] at es ⊢
          rw [es]
          obtain ⟨_, fp, c1, _⟩ := h1
          exact ⟨nst_ok hw h3 c1 (fun z => absurd ⟨fp, c1, z⟩ c), nst_1 c1 (fun z => absurd ⟨fp, c1, z⟩ c)⟩
      obtain ⟨⟨g1, g2⟩, g3⟩ := first _ rfl
      have := ih q p ((cif (isDirAt Tr p) (rsq Tr n p 0) [p]).foldl (nst k Tr) s) f (by unfold mu at hmu ⊢; omega) hq h3 hT hd (fun c hc hi => by
        by_cases e : c = p
        · subst e; exact g1
        · by_cases hcb : c ≤ b
          · exact g2 c (hs c hcb hi)
          · exact absurd hi (fsti_fst hk c (by omega) (by omega)))
      rw [this, g3]
noncomputable def goS (k : Bool) (Tr : sT) (σ : sB_) : sB_ := (ordr Tr).foldl (nsp k Tr) σ
theorem goV_1 {k : Bool} {Tr : sT} {gv : Nat} (hw : wfT Tr gv) (s : sB_ × (Nat → qW)) : (goV k Tr s).1 = goS k Tr s.1 := by
  obtain ⟨f, h1, _, h3⟩ := hw.2.1
  exact go_st hw 4000 0 0 s f (by decide) (by decide) (by decide) h1 h3 (fun p hp hi => absurd (Nat.le_zero.mp hp) hi.1)
noncomputable def arcS (st : List qW) (by_ : Int32) (Tr : sT) : Int32 × List qW × Int32 :=
  if (goS true Tr (st, by_, false)).2.2 = true then (-2, st, by_) else (nI (goS true Tr (st, by_, false)).1.length - nI st.length, (goS true Tr (st, by_, false)).1, (goS true Tr (st, by_, false)).2.1)
theorem arcV_S {Tr : sT} {gv : Nat} (hw : wfT Tr gv) (st : List qW) (by_ : Int32) (last : Nat → qW) : arcV st by_ Tr last = arcS st by_ Tr := by
  unfold arcV arcS
  rw [goV_1 hw]
section SV
variable {ge : Nat → Nat} {ax : Nat} {g : mm_M} {κ κ0 : cS} {L A : List Int32} {T : sT} {S J : List sT} {fm : sM} {fc gv : Nat} {tm : Int32} {ms : Nat}
theorem CC_of {κ' : cS} (e : ∀ o j, o < 77 → κ'.1 o j = κ.1 o j) (e2 : κ'.2 = κ.2) (h : CC ax κ0 κ g L A T S J fm fc gv tm ms) : CC ax κ' κ' g L A T S J fm fc gv tm ms := by
  obtain ⟨h1, h2, h3, h4, h5, h6, ⟨h7, h8, h9⟩, h10, h11, h12⟩ := h
  have e22 : κ'.2.2 = κ.2.2 := by rw [e2]
  refine ⟨⟨c_L_of (fun j => e _ _ (by decide)) (e _ _ (by decide)) h1.1, h1.2⟩, ⟨c_L_of (fun j => e _ _ (by decide)) (e _ _ (by decide)) h2.1, h2.2⟩, by rw [e22]; exact h3, Cjn_of (e _ _ (by decide)) (e _ _ (by decide)) (fun i j _ => by rw [e22]) h4, Csn_of (e _ _ (by decide)) (fun j => by rw [e22]) h5, Cfd_of (fun o j a b => e _ _ (by omega)) h6, ⟨?_, ?_, ?_⟩, rfl, rfl, fun _ _ _ => rfl⟩
  all_goals (rw [e _ _ (by decide)]; assumption)
theorem cq_archive (hM : CM ax g) (hg : ge 0 ≤ ax) (hC : CC ax κ κ g L A T S J fm fc gv tm ms) (hS : ∀ Tr ∈ S, wfT Tr gv) {st : List qW} {by_ : Int32} (hA : CA κ st by_) (x : Int32) (Z : Int32 → mm_M → Prop)
    (h1 : ∀ k Tr κ', x = nI k → S[k]? = some Tr → frG κ κ' → CC ax κ' κ' g L A T S J fm fc gv tm ms → CA κ' (arcS st by_ Tr).2.1 (arcS st by_ Tr).2.2 → Z (arcS st by_ Tr).1 (c_em ax κ' g)) (h0 : (∀ k : Nat, k < S.length → ¬ x = nI k) → Z (-1) (c_em ax κ g)) : wq_Server_archive ge ax x (c_em ax κ g) Z := by
  obtain ⟨m0, m1⟩ := CM_0 hM
  obtain ⟨⟨a1, _⟩, _⟩ := CM_a hM
  unfold wq_Server_archive wq_Server_archive_0 wq_Server_archive_25
  simp only [m0, m1, (CM_s hM).1, ck, cP0, true_and, Option.some.injEq, exists_eq_left']
  refine cq_stree hM hC.2.2.2.2.1 x _ (fun k b T' hk hT hs => ⟨fun a7 _ => ?_, fun y => absurd y (by simp)⟩) (fun hno => ⟨fun a7 y => absurd y (by simp), fun _ => h0 hno⟩)
  simp only [m0, m1, a1, ck, cP0, true_and, Option.some.injEq, exists_eq_left']
  have hw := hS T' (List.mem_of_getElem? hT)
  refine cq_putAway hM hg hw (fun κ' _ => tre_s hs κ') hA _ (fun κ' last G A' => ?_)
  rw [arcV_S hw] at A' ⊢
  exact h1 k T' κ' hk hT G (CC_of (fun o j ho => G.2 o j (by omega)) G.1 hC) A'
theorem cq_score (hM : CM ax g) (hg : ge 0 ≤ ax) (hC : CC ax κ κ g L A T S J fm fc gv tm ms) (hS : ∀ Tr ∈ S, wfT Tr gv) {st : List qW} {by_ : Int32} (hA : CA κ st by_) (hs : Csc κ S) (x y : Int32) (Z : Int32 → mm_M → Prop)
    (h1 : ∀ k i Tr κ', x = nI k → y = nI i → i < 20 → S[k]? = some Tr → (∀ j, κ'.1 0 j = κ.1 0 j) → CC ax κ' κ' g L A T S J fm fc gv tm ms → CA κ' st by_ → Csc κ' S → Z (scV (sc Tr 0) i) (c_em ax κ' g)) (h0 : ((∀ k : Nat, k < S.length → ¬ x = nI k) ∨ y < 0 ∨ ¬ y < 20) → Z (-1) (c_em ax κ g)) : wq_Server_score ge ax x y (c_em ax κ g) Z := by
  obtain ⟨m0, m1⟩ := CM_0 hM
  obtain ⟨⟨a1, _⟩, _⟩ := CM_a hM
  obtain ⟨s1, s2, s3, s4, s5, s6, s7, s8, s9, s10⟩ := CM_s hM
  have c3 := hC.2.2.2.2.1.2.1
  have c6 := hC.2.2.2.2.1.1
  unfold wq_Server_score wq_Server_score_0 wq_Server_score_23
  simp only [m0, m1, s1, ck, cP0, true_and, Option.some.injEq, exists_eq_left']
  refine cq_stree hM hC.2.2.2.2.1 x _ (fun k b T' hk hT hsn => ⟨fun z => absurd z (by simp), fun a7 _ => ⟨fun z => h0 (Or.inr (Or.inl z)), fun z1 => ⟨fun z2 => ?_, fun z => h0 (Or.inr (Or.inr z))⟩⟩⟩) (fun hno => ⟨fun _ => h0 (Or.inl hno), fun a7 z => absurd z (by simp)⟩)
  have hw := hS T' (List.mem_of_getElem? hT)
  have hkl : k < S.length := (List.getElem?_eq_some_iff.mp hT).1
  obtain ⟨i, hi, rfl⟩ : ∃ i : Nat, i < 20 ∧ y = nI i := by
    obtain ⟨p, hp, e⟩ := i60 z1 (Int32.lt_trans z2 (by decide))
    refine ⟨p, ?_, e⟩
    rw [e] at z2
    exact (nI_ltI (b := 20) (by omega) (by decide)).mp z2
  subst hk
  have hin : vp_in (nI k) 6 := vp_in_nI (by omega) (by decide)
  have hcl : (nI k).toNatClampNeg = k := nI_clamp (by omega)
  have hlt : ¬ nI S.length ≤ nI k := nI_ge hkl (by omega)
  -- the byte, once it is scored
  have fin : ∀ κ', (∀ j, κ'.1 0 j = κ.1 0 j) → κ'.1 76 3 = κ.1 76 3 → CC ax κ' κ' g L A T S J fm fc gv tm ms → CA κ' st by_ → Csc κ' S → (∀ i, i < 5 → κ'.1 77 (5 * k + i) = qi (sc T' 0) i) → wq_Server_score_69 ge ax (nI k) (nI i) (c_em ax κ' g) Z := by
    intro κ' e0 e76 C' A' S' hq
    obtain ⟨ix1, ix2⟩ := scV_ix i hi
    have em : nI k * 5 + nI i / 4 = nI (5 * k + i / 4) := by rw [ix1, show (5 : Int32) = nI 5 from rfl, pk_mul, nI_add, show k * 5 = 5 * k by omega]
    have hin1 : vp_in (nI (5 * k + i / 4)) 30 := vp_in_nI (by omega) (by decide)
    have hcl1 : (nI (5 * k + i / 4)).toNatClampNeg = 5 * k + i / 4 := nI_clamp (by omega)
    unfold wq_Server_score_69 wq_Snapshots_scoreByte wq_Snapshots_scoreByte_0 wq_Snapshots_scoreByte_22
    simp only [m0, m1, s1, s2, s5, s6, ck, cn, cP0, cP ax 76 rfl, cI ax 76 (by decide), cI ax 77 (by decide), e76, c3, em, ix2, hin1, hcl1, hq (i / 4) (by omega), true_and, Option.some.injEq, exists_eq_left']
    rw [ush_b _ (by omega)]
    exact ⟨fun q => absurd q (nI_pos (by omega)), fun _ => ⟨fun q => absurd q hlt, fun _ => ⟨fun q => absurd q z1, fun _ => ⟨fun _ => h1 k i T' κ' rfl rfl hi hT e0 C' A' S', fun q => absurd z2 q⟩⟩⟩⟩
  simp only [m0, m1, s1, ck, cP0, true_and, Option.some.injEq, exists_eq_left']
  unfold wq_Snapshots_isScored wq_Snapshots_isScored_0 wq_Snapshots_isScored_25 wq_Snapshots_isScored_26
  simp only [s1, s4, s9, s10, ck, cn, cP ax 76 rfl, cI ax 76 (by decide), cI ax 79 (by decide), c3, hin, hcl, true_and, Option.some.injEq, exists_eq_left']
  refine ⟨fun q => absurd q (nI_pos (by omega)), fun _ => ⟨fun q => absurd q hlt, fun _ => ⟨fun q0 => ⟨Or.inl trivial, fun q => absurd trivial q, fun _ => ?_⟩, fun q => ⟨Or.inr trivial, fun _ => ?_, fun q => absurd q (by decide)⟩⟩⟩⟩
  · simp only [m0, m1, a1, ck, cP0, true_and, Option.some.injEq, exists_eq_left']
    refine cq_scoreOnly hM hg hw (fun κ' _ => tre_s hsn κ') hA _ (fun κ1 last G1 A1 L1 r1 => ?_)
    simp only [m0, m1, a1, s1, s2, ck, cP0, cP ax 76 rfl, true_and, Option.some.injEq, exists_eq_left']
    refine cq_copyRoot hM hg (k := k) (by omega) L1 _ (fun κ2 e2 e1 hq => ?_)
    unfold wq_Snapshots_setScored wq_Snapshots_setScored_0 wq_Snapshots_setScored_19
    have p76 : κ2.1 76 3 = nI S.length := by rw [e1 _ _ (by omega), G1.2 _ _ (by decide)]; exact c3
    simp only [m0, m1, s1, s4, s9, s10, ck, cn, cP0, cP ax 76 rfl, cI ax 76 (by decide), cU ax 79 (by decide), p76, hin, hcl, geo hg, true_and, Option.some.injEq, exists_eq_left', forall_eq]
    refine ⟨fun q => absurd q (nI_pos (by omega)), fun _ => ⟨fun q => absurd q hlt, fun _ => ?_⟩⟩
    have F : ∀ o j, ¬ o = 79 → ¬ o = 77 → o < 80 → (c_u κ2 79 k (vp_nar .boolean 1)).1 o j = κ.1 o j := fun o j x1 x2 x3 => by rw [cu1, if_neg (fun z => x1 z.1), e1 _ _ (fun z => x2 z.1)]; exact G1.2 o j x3
    have F2 : ∀ o j, ¬ o = 79 → ¬ o = 77 → (c_u κ2 79 k (vp_nar .boolean 1)).1 o j = κ1.1 o j := fun o j x1 x2 => by rw [cu1, if_neg (fun z => x1 z.1), e1 _ _ (fun z => x2 z.1)]
    rw [r1] at hq
    have hq' : ∀ i, i < 5 → (c_u κ2 79 k (vp_nar .boolean 1)).1 77 (5 * k + i) = qi (sc T' 0) i := fun i hi => by rw [cu1, if_neg (by simp)]; exact hq i hi
    refine fin _ (fun j => F 0 j (by decide) (by decide) (by decide)) (F 76 3 (by decide) (by decide) (by decide)) (CC_of (fun o j ho => F o j (by omega) (by omega) (by omega)) (e2.trans G1.1) hC) ⟨Cst_of (fun o j ho => F2 o j (by omega) (by omega)) A1.1, by rw [F2 _ _ (by decide) (by decide)]; exact A1.2⟩ ⟨fun k' Tr' hk' => ?_, fun k' h6 h7 => ?_⟩ hq'
    · by_cases e : k' = k
      · subst e
        rw [hT] at hk'
        cases hk'
        exact Or.inr ⟨by rw [cu1, if_pos ⟨rfl, rfl⟩]; rfl, hq'⟩
      · rcases hs.1 k' Tr' hk' with z | ⟨z, z'⟩
        · refine Or.inl ?_
          rw [cu1, if_neg (fun y => e y.2), e1 _ _ (by omega), G1.2 _ _ (by decide)]; exact z
        · refine Or.inr ⟨?_, fun i hi => ?_⟩
          · rw [cu1, if_neg (fun y => e y.2), e1 _ _ (by omega), G1.2 _ _ (by decide)]; exact z
          · rw [cu1, if_neg (by simp), e1 _ _ (by omega), G1.2 _ _ (by decide)]; exact z' i hi
    · rw [cu1, if_neg (by omega), e1 _ _ (by omega), G1.2 _ _ (by decide)]
      exact hs.2 k' h6 h7
  · rcases hs.1 k T' hT with z | ⟨z, z'⟩
    · exact absurd z q
    · exact fin κ (fun _ => rfl) rfl hC hA hs z'
end SV
