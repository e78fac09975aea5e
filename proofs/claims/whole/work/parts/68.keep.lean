/-! what a message leaves: trees stay trees, fids stay fids -/
theorem wfT_mono {T : sT} {gv gv' : Nat} (h : wfT T gv) (h1 : gv ≤ gv') (h2 : gv' ≤ 60) : wfT T gv' := ⟨h2, h.2.1, fun p f hp => by
  obtain ⟨a, b, c⟩ := h.2.2 p f hp
  exact ⟨by omega, b, c⟩⟩
theorem wfT_upd {T : sT} {gv p : Nat} {f f' : sF} (h : wfT T gv) (hT : T p = some f) (hi : f_in f' = f_in f) (hm : 0 ≤ f_md f' ↔ 0 ≤ f_md f) (ho : okF f') : wfT (tset T p (some f')) gv := by
  have look : ∀ r fr, T r = some fr → ¬ 0 ≤ f_md fr → ∃ fr', tset T p (some f') r = some fr' ∧ ¬ 0 ≤ f_md fr' := by
    intro r fr h1 h2
    by_cases e : r = p
    · subst e
      rw [hT] at h1
      cases h1
      exact ⟨f', tset_y _ _ _, fun z => h2 (hm.mp z)⟩
    · exact ⟨fr, by rw [tset_n _ _ e]; exact h1, h2⟩
  refine ⟨h.1, ?_, fun q w hq => ?_⟩
  · obtain ⟨f0, a, b, c⟩ := h.2.1
    by_cases e : 0 = p
    · subst e
      rw [hT] at a
      cases a
      exact ⟨f', tset_y _ _ _, by rw [hi]; exact b, fun z => c (hm.mp z)⟩
    · exact ⟨f0, by rw [tset_n _ _ e]; exact a, b, c⟩
  · by_cases e : q = p
    · subst e
      rw [tset_y] at hq
      cases hq
      obtain ⟨a, _, c⟩ := h.2.2 q f hT
      refine ⟨a, ho, fun h0 => ?_⟩
      obtain ⟨r, fr, c1, c2, c3, c4⟩ := c h0
      obtain ⟨fr', d1, d2⟩ := look r fr c3 c4
      exact ⟨r, fr', c1, by rw [hi]; exact c2, d1, d2⟩
    · rw [tset_n _ _ e] at hq
      obtain ⟨a, b, c⟩ := h.2.2 q w hq
      refine ⟨a, b, fun h0 => ?_⟩
      obtain ⟨r, fr, c1, c2, c3, c4⟩ := c h0
      obtain ⟨fr', d1, d2⟩ := look r fr c3 c4
      exact ⟨r, fr', c1, c2, d1, d2⟩
theorem wfT_add {T : sT} {gv q : Nat} {fq f' : sF} (h : wfT T gv) (hg : gv < 60) (hT : T q = some fq) (hd : ¬ 0 ≤ f_md fq) (hi : f_in f' = nI q) (ho : okF f') : wfT (tset T gv (some f')) (gv + 1) := by
  have no : ∀ r fr, T r = some fr → ¬ r = gv := fun r fr hr e => by
    have := (h.2.2 r fr hr).1
    omega
  refine ⟨by omega, ?_, fun p w hp => ?_⟩
  · obtain ⟨f0, a, b, c⟩ := h.2.1
    exact ⟨f0, by rw [tset_n _ _ (no 0 f0 a)]; exact a, b, c⟩
  · by_cases e : p = gv
    · subst e
      rw [tset_y] at hp
      cases hp
      refine ⟨by omega, ho, fun _ => ⟨q, fq, (h.2.2 q fq hT).1, hi, by rw [tset_n _ _ (no q fq hT)]; exact hT, hd⟩⟩
    · rw [tset_n _ _ e] at hp
      obtain ⟨a, b, c⟩ := h.2.2 p w hp
      refine ⟨by omega, b, fun h0 => ?_⟩
      obtain ⟨r, fr, c1, c2, c3, c4⟩ := c h0
      exact ⟨r, fr, c1, c2, by rw [tset_n _ _ (no r fr c3)]; exact c3, c4⟩
theorem wfT_del {T : sT} {gv p : Nat} (h : wfT T gv) (hp : ¬ p = 0) (hno : ∀ c, c < 60 → ¬ inD T (nI p) c) : wfT (tset T p none) gv := by
  have hg := h.1
  refine ⟨h.1, ?_, fun q w hq => ?_⟩
  · obtain ⟨f0, a, b, c⟩ := h.2.1
    exact ⟨f0, by rw [tset_n _ _ (fun z => hp z.symm)]; exact a, b, c⟩
  · by_cases e : q = p
    · subst e
      rw [tset_y] at hq
      cases hq
    · rw [tset_n _ _ e] at hq
      obtain ⟨a, b, c⟩ := h.2.2 q w hq
      refine ⟨a, b, fun h0 => ?_⟩
      obtain ⟨r, fr, c1, c2, c3, c4⟩ := c h0
      refine ⟨r, fr, c1, c2, ?_, c4⟩
      by_cases e2 : r = p
      · subst e2
        exact absurd ⟨h0, w, hq, c2⟩ (hno q (by omega))
      · rw [tset_n _ _ e2]; exact c3
/-- a file has nothing in it -/
theorem wfT_fno {T : sT} {gv p : Nat} {f : sF} (h : wfT T gv) (hT : T p = some f) (hf : 0 ≤ f_md f) : ∀ c, c < 60 → ¬ inD T (nI p) c := by
  intro c hc ⟨h0, w, h1, h2⟩
  have hg := h.1
  have hp := (h.2.2 p f hT).1
  obtain ⟨r, fr, c1, c2, c3, c4⟩ := (h.2.2 c w h1).2.2 h0
  rw [h2] at c2
  have := (nI_eq (by omega) (by omega)).mp c2
  subst this
  rw [hT] at c3
  cases c3
  exact c4 hf
def mdS (T T' : sT) (gv : Nat) : Prop := ∀ p f', p < gv → T' p = some f' → ∃ f, T p = some f ∧ (0 ≤ f_md f → 0 ≤ f_md f')
theorem mdS_rf (T : sT) (gv : Nat) : mdS T T gv := fun p f' _ h => ⟨f', h, fun x => x⟩
theorem mdS_upd {T : sT} {gv p : Nat} {f f' : sF} (hT : T p = some f) (hm : 0 ≤ f_md f → 0 ≤ f_md f') : mdS T (tset T p (some f')) gv := by
  intro q w _ hq
  by_cases e : q = p
  · subst e
    rw [tset_y] at hq
    cases hq
    exact ⟨f, hT, hm⟩
  · rw [tset_n _ _ e] at hq
    exact ⟨w, hq, fun x => x⟩
theorem mdS_tr {T T' T'' : sT} {gv : Nat} (h1 : mdS T T' gv) (h2 : mdS T' T'' gv) : mdS T T'' gv := fun p f' hp h => by
  obtain ⟨f1, a, b⟩ := h2 p f' hp h
  obtain ⟨f2, c, d⟩ := h1 p f1 hp a
  exact ⟨f2, c, fun x => b (d x)⟩
theorem drp_ok {T : sT} {gv p : Nat} {f : sF} (h : wfT T gv) (hT : T p = some f) (hp : ¬ p = 0) (hno : ∀ c, c < 60 → ¬ inD T (nI p) c) (tm : Int32) : wfT (drp T p tm) gv ∧ mdS T (drp T p tm) gv := by
  have hg := h.1
  obtain ⟨a, b, c⟩ := h.2.2 p f hT
  obtain ⟨r, fr, c1, c2, c3, c4⟩ := c hp
  have e : drp T p tm = tset (tset T p none) r (some (chg fr tm)) := by
    unfold drp
    rw [hT]
    simp only
    rw [c2, nI_clamp (by omega), c3]
  have hr : tset T p none r = some fr := by rw [tset_n _ _ (by omega)]; exact c3
  have d1 : mdS T (tset T p none) gv := by
    intro q w _ hq
    by_cases e : q = p
    · subst e
      rw [tset_y] at hq
      cases hq
    · rw [tset_n _ _ e] at hq
      exact ⟨w, hq, fun x => x⟩
  rw [e]
  exact ⟨wfT_upd (wfT_del h hp hno) hr rfl Iff.rfl (h.2.2 r fr c3).2.1, mdS_tr d1 (mdS_upd hr (fun x => x))⟩
def Iv2 (T : sT) (S J : List sT) (fm : sM) (fc gv ms : Nat) : Prop := Iv T S J fm fc gv ms ∧ ∀ x d, fm x = some d → d_p d < gv
/-- what a handler leaves -/
def okR (T : sT) (S : List sT) (fm : sM) (gv : Nat) (R : sR) : Prop := wfT R.2.2.1 R.2.2.2.2.2 ∧ gv ≤ R.2.2.2.2.2 ∧ mdS T R.2.2.1 gv ∧ (∀ x d, R.2.2.2.1 x = some d → fm x = some d ∨ (Fok R.2.2.1 S d ∧ d_p d < R.2.2.2.2.2)) ∧ R.2.2.2.2.1 ≤ 24 ∧ (R.2.1.length ≤ 993 ∧ allB R.2.1)
theorem Fok_md {T T' : sT} {S : List sT} {gv : Nat} {d : sD} (h : Fok T S d) (hp : d_p d < gv) (m : mdS T T' gv) : Fok T' S d := by
  obtain ⟨h1, h2, h3, h4, h5⟩ := h
  refine ⟨h1, h2, h3, h4, fun z => ?_⟩
  obtain ⟨a, b⟩ := h5 z
  refine ⟨a, fun f' hf' => ?_⟩
  obtain ⟨f, q1, q2⟩ := m _ f' hp hf'
  exact q2 (b f q1)
theorem Iv_step {T : sT} {S J J' : List sT} {fm : sM} {fc gv ms ms' : Nat} {R : sR} (hI : Iv2 T S J fm fc gv ms) (hR : okR T S fm gv R) (hJ : ∀ Tr ∈ J', Tr ∈ J ∨ Tr = T) (hms : ms' = 0 ∨ (64 ≤ ms' ∧ ms' ≤ 1000)) : Iv2 R.2.2.1 S J' R.2.2.2.1 R.2.2.2.2.1 R.2.2.2.2.2 ms' := by
  obtain ⟨⟨i1, i2, i3, i4, i5, i6, i7⟩, i8⟩ := hI
  obtain ⟨r1, r2, r3, r4, r5, _⟩ := hR
  have h60 := r1.1
  refine ⟨⟨r1, fun Tr h => wfT_mono (i2 Tr h) r2 h60, fun Tr h => ?_, fun x d h => ?_, hms, i6, r5⟩, fun x d h => ?_⟩
  · rcases hJ Tr h with z | z
    · exact wfT_mono (i3 Tr z) r2 h60
    · rw [z]; exact wfT_mono i1 r2 h60
  · rcases r4 x d h with z | z
    · exact Fok_md (i4 x d z) (i8 x d z) r3
    · exact z.1
  · rcases r4 x d h with z | z
    · have := i8 x d z
      omega
    · exact z.2
theorem pushJ_m {J : List sT} {T Tr : sT} (h : Tr ∈ pushJ J T) : Tr ∈ J ∨ Tr = T := by
  unfold pushJ at h
  split at h
  · rcases List.mem_append.mp h with z | z
    · exact Or.inl (List.mem_of_mem_tail z)
    · exact Or.inr (List.mem_singleton.mp z)
  · rcases List.mem_append.mp h with z | z
    · exact Or.inl z
    · exact Or.inr (List.mem_singleton.mp z)
theorem jn_m {J : List sT} {T T' Tr : sT} (h : Tr ∈ jn J T T') : Tr ∈ J ∨ Tr = T := by
  unfold jn at h
  by_cases c : T' = T
  · rw [cif_y c] at h; exact Or.inl h
  · rw [cif_n c] at h; exact pushJ_m h
theorem jw_m {J : List sT} {T Tr : sT} {R : sR} {ask : Prop} (h : Tr ∈ jw J T R ask) : Tr ∈ J ∨ Tr = T := by
  unfold jw at h
  by_cases c : R.1 = 0 ∧ ask
  · rw [cif_y c] at h; cases h
  · rw [cif_n c] at h; exact jn_m h
section IV
variable {T Tr : sT} {S J : List sT} {fm : sM} {fc gv ms : Nat} {tm x : Int32} {d : sD} {f : sF}
theorem okR_id (hI : Iv2 T S J fm fc gv ms) (k : Int32) : okR T S fm gv (k, [], T, fm, fc, gv) := ⟨hI.1.1, Nat.le_refl _, mdS_rf _ _, fun _ _ h => Or.inl h, hI.1.2.2.2.2.2.2, Nat.zero_le _, allB_nil⟩
theorem okR_c {c : Prop} {a b : sR} (ha : c → okR T S fm gv a) (hb : ¬ c → okR T S fm gv b) : okR T S fm gv (cif c a b) := by
  by_cases h : c
  · rw [cif_y h]; exact ha h
  · rw [cif_n h]; exact hb h
theorem fset_o {y : Int32} {d' : sD} {o : Option sD} (h : fset fm x o y = some d') : o = some d' ∨ fm y = some d' := by
  unfold fset at h
  split at h
  · exact Or.inl h
  · exact Or.inr h
theorem tr_0 (h : trOf T S (d_t d) = some Tr) (h0 : d_t d = 0) : Tr = T := by
  unfold trOf at h
  rw [if_pos h0] at h
  cases h
  rfl
theorem tr_pos (h : trOf T S (d_t d) = some Tr) (h0 : 0 < d_t d) : S[d_t d - 1]? = some Tr := by
  unfold trOf at h
  rw [if_neg (by omega)] at h
  exact h
theorem ok_open (hI : Iv2 T S J fm fc gv ms) (hd : fm x = some d) (hTr : trOf T S (d_t d) = some Tr) (hf : Tr (d_p d) = some f) (m : Int32) : okR T S fm gv (spOpen T fm fc gv tm x d f m) := by
  have hF := hI.1.2.2.2.1 x d hd
  have hgv := hI.2 x d hd
  have hwr := trOf_wf hI.1.1 hI.1.2.1 hTr
  have hof := (hwr.2.2 _ f hf).2.1
  have hfc := hI.1.2.2.2.2.2.2
  refine okR_c (fun _ => okR_id hI 3) (fun _ => okR_c (fun _ => okR_id hI 5) (fun _ => okR_c (fun _ => okR_id hI 6) (fun n6 => okR_c (fun _ => okR_id hI 7) (fun _ => okR_c (fun h16 => ?_) (fun _ => ?_)))))
  · have hm : ¬ m = 0 := fun z => h16.1 (by rw [z]; decide)
    have h0 : d_t d = 0 := Decidable.byContradiction (fun z => n6 ⟨hm, Or.inr z⟩)
    have hfm : 0 ≤ f_md f := Decidable.byContradiction (fun z => n6 ⟨hm, Or.inl z⟩)
    have e := tr_0 hTr h0
    subst e
    refine ⟨wfT_upd hwr hf rfl Iff.rfl ⟨hof.1, hof.2.1, by show (0 : Nat) ≤ 512; decide, hof.2.2.2.1, allB_nil, fun _ => rfl⟩, Nat.le_refl _, mdS_upd hf (fun z => z), fun y d' h => ?_, hfc, ?_, ?_⟩
    · rcases fset_o h with z | z
      · cases z
        refine Or.inr ⟨⟨hF.1, hF.2.1, by show (0 : Nat) < 60; decide, fun z => absurd z (by show ¬ 0 < d_t d; omega), fun _ => ⟨h0, fun f' hf' => ?_⟩⟩, hgv⟩
        have hf2 : tset Tr (d_p d) (some (wdt f tm [])) (d_p d) = some f' := hf'
        rw [tset_y] at hf2
        cases hf2
        exact hfm
      · exact Or.inl z
    · show (qidL _ _ ++ le 4 0).length ≤ 993
      rw [List.length_append, qidL_len, le_len]; decide
    · exact allB_app (qidL_B _ _) (le_B _ _)
  · refine ⟨hI.1.1, Nat.le_refl _, mdS_rf _ _, fun y d' h => ?_, hfc, ?_, ?_⟩
    · rcases fset_o h with z | z
      · cases z
        refine Or.inr ⟨⟨hF.1, hF.2.1, by show (0 : Nat) < 60; decide, hF.2.2.2.1, fun z => ?_⟩, hgv⟩
        have hm : ¬ m = 0 := fun y => z (Or.inr (by show m &&& 3 = 0; rw [y]; decide))
        have h0 : d_t d = 0 := Decidable.byContradiction (fun z => n6 ⟨hm, Or.inr z⟩)
        have hfm : 0 ≤ f_md f := Decidable.byContradiction (fun z => n6 ⟨hm, Or.inl z⟩)
        have e := tr_0 hTr h0
        subst e
        refine ⟨h0, fun f' hf' => ?_⟩
        have hf2 : Tr (d_p d) = some f' := hf'
        rw [hf] at hf2
        cases hf2
        exact hfm
      · exact Or.inl z
    · show (qidL _ _ ++ le 4 0).length ≤ 993
      rw [List.length_append, qidL_len, le_len]; decide
    · exact allB_app (qidL_B _ _) (le_B _ _)
theorem ok_drp {f : sF} (hI : Iv2 T S J fm fc gv ms) (hd : fm x = some d) (hf : fileOf T S d = some f) (hw : whyN T d f = 0) (k : Int32) : okR T S fm gv (k, [], drp T (d_p d) tm, fset fm x none, fc - 1, gv) := by
  have hfc := hI.1.2.2.2.2.2.2
  unfold whyN at hw
  by_cases c1 : d_p d = 0 ∨ ¬ d_t d = 0
  · rw [cif_y c1] at hw; exact absurd hw (by decide)
  rw [cif_n c1] at hw
  by_cases c2 : ¬ 0 ≤ f_md f ∧ 0 < cnt (inD T (nI (d_p d))) 60
  · rw [cif_y c2] at hw; exact absurd hw (by decide)
  have h0 : d_t d = 0 := Decidable.byContradiction (fun z => c1 (Or.inr z))
  have hp : ¬ d_p d = 0 := fun z => c1 (Or.inl z)
  have hT : T (d_p d) = some f := by
    unfold fileOf trOf at hf
    rw [if_pos h0] at hf
    exact hf
  have hno : ∀ c, c < 60 → ¬ inD T (nI (d_p d)) c := by
    by_cases c3 : 0 ≤ f_md f
    · exact wfT_fno hI.1.1 hT c3
    · exact (cnt_0 60).mp (Nat.eq_zero_of_not_pos (fun z => c2 ⟨c3, z⟩))
  obtain ⟨a, b⟩ := drp_ok hI.1.1 hT hp hno tm
  refine ⟨a, Nat.le_refl _, b, fun y d' h => ?_, by show fc - 1 ≤ 24; omega, Nat.zero_le _, allB_nil⟩
  rcases fset_o h with z | z
  · cases z
  · exact Or.inl z
theorem ok_nd (hI : Iv2 T S J fm fc gv ms) (k : Int32) : okR T S fm gv (k, [], T, fset fm x none, fc - 1, gv) := by
  have hfc := hI.1.2.2.2.2.2.2
  refine ⟨hI.1.1, Nat.le_refl _, mdS_rf _ _, fun y d' h => ?_, by show fc - 1 ≤ 24; omega, Nat.zero_le _, allB_nil⟩
  rcases fset_o h with z | z
  · cases z
  · exact Or.inl z
theorem ok_clu (hI : Iv2 T S J fm fc gv ms) (hd : fm x = some d) : okR T S fm gv (spClu T fm fc gv tm x d (fileOf T S d)) := by
  unfold spClu
  cases hf : fileOf T S d with
  | none => exact ok_nd hI 0
  | some f =>
    simp only
    by_cases c : 0 ≤ d_m d ∧ ¬ d_m d &&& 64 = 0 ∧ whyN T d f = 0
    · rw [cif_y c]; exact ok_drp hI hd hf c.2.2 0
    · rw [cif_n c]; exact ok_nd hI 0
theorem ok_rem (hI : Iv2 T S J fm fc gv ms) (hd : fm x = some d) : okR T S fm gv (spRem T fm fc gv tm x d (fileOf T S d)) := by
  unfold spRem
  cases hf : fileOf T S d with
  | none => exact ok_nd hI 4
  | some f => exact okR_c (fun c => ok_drp hI hd hf c 0) (fun _ => ok_nd hI _)
theorem ok_stat (hI : Iv2 T S J fm fc gv ms) (hTr : trOf T S (d_t d) = some Tr) (hf : Tr (d_p d) = some f) : okR T S fm gv (spStat T fm fc gv d f) := by
  have hwr := trOf_wf hI.1.1 hI.1.2.1 hTr
  have hof := (hwr.2.2 _ f hf).2.1
  refine ⟨hI.1.1, Nat.le_refl _, mdS_rf _ _, fun _ _ h => Or.inl h, hI.1.2.2.2.2.2.2, ?_, allB_app (le_B _ _) (statL_B _ _ hof.2.2.2.1)⟩
  show (le 2 _ ++ statL _ _).length ≤ 993
  rw [List.length_append, le_len, statL_len]
  have := hof.2.1
  omega
theorem ok_wri (hI : Iv2 T S J fm fc gv ms) (hd : fm x = some d) (hTr : trOf T S (d_t d) = some Tr) (hf : Tr (d_p d) = some f) (off : Int64) {X : List Int32} (hX : allB X) : okR T S fm gv (spWri T fm fc gv tm d f off X) := by
  have hF := hI.1.2.2.2.1 x d hd
  have hwr := trOf_wf hI.1.1 hI.1.2.1 hTr
  have hof := (hwr.2.2 _ f hf).2.1
  refine okR_c (fun _ => okR_id hI 3) (fun n3 => okR_c (fun _ => okR_id hI 5) (fun n5 => ?_))
  obtain ⟨h0, hfl⟩ := hF.2.2.2.2 n3
  have e := tr_0 hTr h0
  subst e
  have hfm := hfl f hf
  have hlen : (Int64.toInt32 off).toNatClampNeg + X.length ≤ 512 := Nat.le_of_not_lt (fun z => n5 (Or.inr (Or.inr z)))
  have h5 := hof.2.2.1
  have bd : (le 4 (nI X.length).toInt64).length ≤ 993 ∧ allB (le 4 (nI X.length).toInt64) := ⟨by rw [le_len]; decide, le_B _ _⟩
  by_cases c : X = []
  · rw [cif_y c]
    exact ⟨hI.1.1, Nat.le_refl _, mdS_rf _ _, fun _ _ h => Or.inl h, hI.1.2.2.2.2.2.2, bd⟩
  · rw [cif_n c]
    refine ⟨wfT_upd hwr hf rfl Iff.rfl ⟨hof.1, hof.2.1, ?_, hof.2.2.2.1, ovw_B (rsz_B hof.2.2.2.2.1 _) hX _, fun z => absurd hfm z⟩, Nat.le_refl _, mdS_upd hf (fun z => z), fun _ _ h => Or.inl h, hI.1.2.2.2.2.2.2, bd⟩
    show (ovw _ _ _).length ≤ 512
    rw [ovw_len (by rw [rsz_len]; omega), rsz_len]
    omega
end IV
