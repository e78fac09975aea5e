/-! what a message does, whole; invariants; the class: attach, version -/
abbrev sO : Type := Int32 × List Int32 × sT × sM × Nat × Nat × Nat × List sT
def wrp (R : sR) (ms : Nat) (J : List sT) : sO := (R.1, R.2.1, R.2.2.1, R.2.2.2.1, R.2.2.2.2.1, R.2.2.2.2.2, ms, J)
def fileOf (T : sT) (S : List sT) (d : sD) : Option sF := match trOf T S (d_t d) with
  | none => none
  | some Tr => Tr (d_p d)
/-- a message of a fid whose file is f, in the tree Tr -/
noncomputable def spFid (L : List Int32) (e : Nat) (T Tr : sT) (J : List sT) (fm : sM) (fc gv : Nat) (tm : Int32) (ms : Nat) (x : Int32) (d : sD) (f : sF) : sO :=
  if tp L 4 = 110 then wrp (spWalk T Tr fm fc gv x (val (tp L) (at0 (sB e (tp L 4))) 4).toInt32 d (nms L e (tl (tp L) (at0 (qn e 4 (sB e (tp L 4))))) (qn e 2 (qn e 4 (sB e (tp L 4)))))) ms J
  else if tp L 4 = 112 then wrp (spOpen T fm fc gv tm x d f (val (tp L) (at0 (sB e (tp L 4))) 1).toInt32) ms (jn J T (spOpen T fm fc gv tm x d f (val (tp L) (at0 (sB e (tp L 4))) 1).toInt32).2.2.1)
  else if tp L 4 = 114 then wrp (spCre T fm fc gv tm x d f (txt L (sB e (tp L 4))) (val (tp L) (at0 (qt (tp L) e (sB e (tp L 4)))) 4).toInt32 (val (tp L) (at0 (qn e 4 (qt (tp L) e (sB e (tp L 4))))) 1).toInt32) ms (jn J T (spCre T fm fc gv tm x d f (txt L (sB e (tp L 4))) (val (tp L) (at0 (qt (tp L) e (sB e (tp L 4)))) 4).toInt32 (val (tp L) (at0 (qn e 4 (qt (tp L) e (sB e (tp L 4))))) 1).toInt32).2.2.1)
  else if tp L 4 = 116 then wrp (spRead T Tr fm fc gv ms x d f (val (tp L) (at0 (sB e (tp L 4))) 8) (c4 (tp L) (at0 (qn e 8 (sB e (tp L 4)))))) ms J
  else if tp L 4 = 118 then wrp (spWri T fm fc gv tm d f (val (tp L) (at0 (sB e (tp L 4))) 8) (slc L (at0 (qn e 8 (sB e (tp L 4))) + 4) (c4 (tp L) (at0 (qn e 8 (sB e (tp L 4))))))) ms (jn J T (spWri T fm fc gv tm d f (val (tp L) (at0 (sB e (tp L 4))) 8) (slc L (at0 (qn e 8 (sB e (tp L 4))) + 4) (c4 (tp L) (at0 (qn e 8 (sB e (tp L 4))))))).2.2.1)
  else if tp L 4 = 124 then wrp (spStat T fm fc gv d f) ms J
  else wrp (spWst T fm fc gv tm d f (txt L (st7 e (sB e (tp L 4)))) (val (tp L) (at0 (st3 e (sB e (tp L 4)))) 4).toInt32 (val (tp L) (at0 (st5 e (sB e (tp L 4)))) 4).toInt32 (val (tp L) (at0 (st6 e (sB e (tp L 4)))) 8) (restO (tp L) e (sB e (tp L 4)))) ms
    (jw J T (spWst T fm fc gv tm d f (txt L (st7 e (sB e (tp L 4)))) (val (tp L) (at0 (st3 e (sB e (tp L 4)))) 4).toInt32 (val (tp L) (at0 (st5 e (sB e (tp L 4)))) 4).toInt32 (val (tp L) (at0 (st6 e (sB e (tp L 4)))) 8) (restO (tp L) e (sB e (tp L 4)))) (askN (txt L (st7 e (sB e (tp L 4)))) (val (tp L) (at0 (st3 e (sB e (tp L 4)))) 4).toInt32 (val (tp L) (at0 (st5 e (sB e (tp L 4)))) 4).toInt32 (val (tp L) (at0 (st6 e (sB e (tp L 4)))) 8)))
noncomputable def spDo (L : List Int32) (e : Nat) (T : sT) (S J : List sT) (fm : sM) (fc gv : Nat) (tm : Int32) (ms : Nat) : sO :=
  if tp L 4 = 100 then ((spVer (c4 (tp L) 7) (txt L (qn e 4 (some 7)))).1, (spVer (c4 (tp L) 7) (txt L (qn e 4 (some 7)))).2.1, T, (fun _ => none), 0, gv, (spVer (c4 (tp L) 7) (txt L (qn e 4 (some 7)))).2.2, J)
  else if ms = 0 then (1, [], T, fm, fc, gv, ms, J)
  else if tp L 4 = 102 then (3, [], T, fm, fc, gv, ms, J)
  else if tp L 4 = 108 then (0, [], T, fm, fc, gv, ms, J)
  else if tp L 4 = 104 then wrp (spAtt T S fm fc gv (val (tp L) 7 4).toInt32 (val (tp L) (at0 (sB e (tp L 4))) 4).toInt32 (txt L (qt (tp L) e (qn e 4 (sB e (tp L 4)))))) ms J
  else match fm (val (tp L) 7 4).toInt32 with
    | none => (2, [], T, fm, fc, gv, ms, J)
    | some d =>
      if tp L 4 = 122 then wrp (spRem T fm fc gv tm (val (tp L) 7 4).toInt32 d (fileOf T S d)) ms (jn J T (spRem T fm fc gv tm (val (tp L) 7 4).toInt32 d (fileOf T S d)).2.2.1)
      else if tp L 4 = 120 then wrp (spClu T fm fc gv tm (val (tp L) 7 4).toInt32 d (fileOf T S d)) ms (jn J T (spClu T fm fc gv tm (val (tp L) 7 4).toInt32 d (fileOf T S d)).2.2.1)
      else match trOf T S (d_t d) with
        | none => (4, [], T, fm, fc, gv, ms, J)
        | some Tr => match Tr (d_p d) with
          | none => (4, [], T, fm, fc, gv, ms, J)
          | some f => spFid L e T Tr J fm fc gv tm ms (val (tp L) 7 4).toInt32 d f
/-- what a tree is -/
def wfT (T : sT) (gv : Nat) : Prop := gv ≤ 60 ∧ (∃ f, T 0 = some f ∧ f_in f = 0 ∧ ¬ 0 ≤ f_md f) ∧ ∀ p f, T p = some f → p < gv ∧ okF f ∧ (¬ p = 0 → ∃ q f', q < p ∧ f_in f = nI q ∧ T q = some f' ∧ ¬ 0 ≤ f_md f')
def Fok (T : sT) (S : List sT) (d : sD) : Prop := d_p d < 60 ∧ d_t d ≤ S.length ∧ d_l d < 60 ∧ (0 < d_t d → ∃ Tr f, S[d_t d - 1]? = some Tr ∧ Tr (d_p d) = some f) ∧ (¬ (¬ 0 ≤ d_m d ∨ d_m d &&& 3 = 0) → d_t d = 0 ∧ ∀ f, T (d_p d) = some f → 0 ≤ f_md f)
def Iv (T : sT) (S J : List sT) (fm : sM) (fc gv ms : Nat) : Prop := wfT T gv ∧ (∀ Tr ∈ S, wfT Tr gv) ∧ (∀ Tr ∈ J, wfT Tr gv) ∧ (∀ x d, fm x = some d → Fok T S d) ∧ (ms = 0 ∨ (64 ≤ ms ∧ ms ≤ 1000)) ∧ S.length ≤ 6 ∧ fc ≤ 24
theorem wfT_wk {Tr : sT} {gv : Nat} (h : wfT Tr gv) : wkT Tr := by
  intro p f hf
  obtain ⟨h1, h2, h3⟩ := h.2.2 p f hf
  have hg := h.1
  refine ⟨by omega, ?_⟩
  by_cases e : p = 0
  · subst e
    obtain ⟨f0, q1, q2, q3⟩ := h.2.1
    rw [hf] at q1
    cases q1
    exact ⟨0, f, by omega, q2, hf⟩
  · obtain ⟨q, f', q1, q2, q3, _⟩ := h3 e
    exact ⟨q, f', by omega, q2, q3⟩
theorem trOf_wf {T : sT} {S : List sT} {gv t : Nat} {Tr : sT} (h1 : wfT T gv) (h2 : ∀ Tr ∈ S, wfT Tr gv) (h : trOf T S t = some Tr) : wfT Tr gv := by
  unfold trOf at h
  split at h
  · cases h; exact h1
  · exact h2 Tr (List.mem_of_getElem? h)
theorem trOf_some {T : sT} {S : List sT} {t : Nat} (h : t ≤ S.length) : ∃ Tr, trOf T S t = some Tr := by
  unfold trOf
  by_cases e : t = 0
  · exact ⟨T, if_pos e⟩
  · rw [if_neg e]
    exact ⟨_, List.getElem?_eq_getElem (by omega)⟩
theorem Fth_of {T : sT} {S J : List sT} {fm : sM} {fc gv ms : Nat} (h : Iv T S J fm fc gv ms) {x : Int32} {d : sD} (hd : fm x = some d) : Fth T S d (fileOf T S d) := by
  obtain ⟨h1, h2, _, h4, _⟩ := h
  obtain ⟨f1, f2, f3, f4, f5⟩ := h4 x d hd
  obtain ⟨Tr, hTr⟩ := trOf_some (T := T) f2
  refine ⟨f1, f2, fun Tr' h' => ?_, fun f hf hp => ?_⟩
  · unfold fileOf
    rw [h']
  · have hw := trOf_wf h1 h2 hTr
    unfold fileOf at hf
    rw [hTr] at hf
    obtain ⟨q1, _, q3⟩ := hw.2.2 _ f hf
    obtain ⟨q, f', y1, y2, _⟩ := q3 hp
    exact ⟨q, by omega, by omega, y2⟩
section HA
variable {ge : Nat → Nat} {ax : Nat} {κ0 κ : cS} {g : mm_M} {L A : List Int32} {T : sT} {S J : List sT} {fm : sM} {fc gv : Nat} {tm : Int32} {ms : Nat}
set_option maxHeartbeats 2000000 in
theorem cq_att (hM : CM ax g) (hK : CK ge ax g) (hC : CC ax κ0 κ g L A T S J fm fc gv tm ms) (hA : A.length = 7) (hI : Iv T S J fm fc gv ms) {x other : Int32} {X : List Int32} (hx : κ.1 5 7 = x) (ho : κ.1 5 8 = other) (hX : Ctx κ L X) (Z : Int32 → mm_M → Prop)
    (hZ : ∀ κ' g', Pst ax κ0 g L A S J tm ms (spAtt T S fm fc gv x other X) κ' g' → Z (spAtt T S fm fc gv x other X).1 (c_em ax κ' g')) : wq_Server_attach ge ax (c_em ax κ g) Z := by
  have hg := hK.1
  obtain ⟨m0, m1⟩ := CM_0 hM
  have hb3 := CM_b3 hM
  have er : ∀ (k : Int32), spAtt T S fm fc gv x other X = (k, [], T, fm, fc, gv) → ¬ k = 0 → Z k (c_em ax κ g) := by
    intro k hk nk
    rw [hk] at hZ
    exact hZ κ g ⟨ext_rf g, A, fun z => absurd z nk, hC⟩
  have hS6 := hI.2.2.2.2.2.1
  unfold wq_Server_attach wq_Server_attach_0
  simp only [m0, m1, (CM_q hM).1, (CM_f hM).1, ck, cP0, cI ax 5 (by decide), hx, ho, true_and, Option.some.injEq, exists_eq_left']
  refine ⟨fun q => ?_, fun q => er 3 (cif_y q) (by decide)⟩
  have n3 : ¬ ¬ other = -1 := fun z => z q
  refine cq_find hM κ hC.2.2.2.2.2.1 _ _ (fun j d' _ _ _ hfo _ => ⟨fun y => absurd y (by simp), fun a10 _ => er 5 ((cif_n n3).trans (cif_y (by rw [hfo]; simp))) (by decide)⟩) (fun hfo => ⟨fun _ => ?_, fun a10 y => absurd y (by simp)⟩)
  have n5 : ¬ ¬ fm x = none := fun z => z hfo
  simp only [m0, m1, (CM_q hM).1, ck, cP0, true_and, Option.some.injEq, exists_eq_left']
  refine cq_ask hM hC.1 hX _ ⟨m0, ?_⟩
  have p6 : trNo S X = none → wq_Server_attach_59 ge ax (askT X) none (c_em ax κ g) Z := by
    intro hno
    unfold wq_Server_attach_59
    refine ⟨fun a1 y => absurd y (by simp), fun _ => er 6 ((cif_n n3).trans ((cif_n n5).trans ?_)) (by decide)⟩
    rw [hno]
  -- a tree is found
  have fin : ∀ (b t : Nat) (Tr : sT), tre ax κ g b Tr → trNo S X = some t → trOf T S t = some Tr → t ≤ S.length → askT X = nI t - 1 → (∀ a20, some b = some a20 → ∃ a21, some b = some a21 ∧ mm_k (c_em ax κ g) a21 = kd_Tree ∧ wq_Tree_at ge a21 0 (c_em ax κ g) (fun r25 h24 => wq_Server_attach_59 ge ax (askT X) r25 h24 Z)) ∧ (some b = none → wq_Server_attach_59 ge ax (askT X) none (c_em ax κ g) Z) := by
    intro b t Tr htr hno hto htl hask
    have hw := trOf_wf hI.1 hI.2.1 hto
    obtain ⟨f0, hf0, _, _⟩ := hw.2.1
    refine ⟨fun a20 _ => ⟨b, rfl, htr.1, cq_tat htr _ _ (fun p a f hp e hf hn => ?_) (fun hnone => ?_)⟩, fun y => absurd y (by simp)⟩
    · have hp0 : p = 0 := ((nI_eq (a := 0) (by decide) (by omega)).mp e).symm
      subst hp0
      unfold wq_Server_attach_59
      refine ⟨fun a1 _ => ?_, fun y => absurd y (by simp)⟩
      simp only [m0, m1, (CM_q hM).1, (CM_f hM).1, ck, cP0, cI ax 5 (by decide), hx, true_and, Option.some.injEq, exists_eq_left']
      refine cq_make hM hg κ _ _ _ _ (fun j hj hu => ⟨fun _ => ?_, fun y => absurd y (by decide)⟩) (fun hc => ⟨fun y => absurd rfl y, fun _ => er 7 ((cif_n n3).trans ((cif_n n5).trans ?_)) (by decide)⟩)
      · have hfc : ¬ fc = 24 := by
          intro y
          have h4 := hC.2.2.2.2.2.1.2.2.2
          rw [y] at h4
          have hall : ∀ (n : Nat), n ≤ 24 → cnt (usd κ) n = n := by
            intro n hn
            have : cnt (usd κ) 24 ≤ cnt (usd κ) n + (24 - n) := by
              have gen : ∀ m, cnt (usd κ) (n + m) ≤ cnt (usd κ) n + m := by
                intro m
                induction m with
                | zero => exact Nat.le_refl _
                | succ m ih =>
                  by_cases h : usd κ (n + m)
                  · have : cnt (usd κ) (n + (m + 1)) = cnt (usd κ) (n + m) + 1 := cnt_y h
                    omega
                  · have : cnt (usd κ) (n + (m + 1)) = cnt (usd κ) (n + m) := cnt_n h
                    omega
              have := gen (24 - n)
              rw [show n + (24 - n) = 24 by omega] at this
              exact this
            have := cnt_le (usd κ) n
            omega
          have h1 := hall (j + 1) (by omega)
          have h2 := hall j (by omega)
          rw [cnt_n hu] at h1
          omega
        have hs : spAtt T S fm fc gv x other X = (0, qidL 0 f, T, fset fm x (some (t, 0, -1, 0, 0)), fc + 1, gv) := by
          refine (cif_n n3).trans ((cif_n n5).trans ?_)
          rw [hno]
          simp only [hto, hf]
          exact cif_n hfc
        rw [hs] at hZ
        simp only [m0, m1, hb3.1, ck, cP0, true_and, Option.some.injEq, exists_eq_left']
        have ek : ∀ o k, ¬ o = 8 + j → (c_mk κ j x (askT X) 0).1 o k = κ.1 o k := fun o k h => by
          unfold c_mk
          simp only [cu1, h, false_and, if_false]
        have C1 : CC ax κ0 (c_mk κ j x (askT X) 0) g L A T S J (fset fm x (some (t, 0, -1, 0, 0))) (fc + 1) gv tm ms := by
          refine CC_fd (fun o k h => ek o k (by omega)) rfl hC (Cfd_add hC.2.2.2.2.2.1 hj hu hfo (fun o k _ _ h => ek o k h) ?_ ?_ ?_)
          · unfold usd c_mk; simp [cu1]
          · unfold c_mk; simp [cu1]
          · unfold crow c_mk
            simp only [cu1]
            refine ⟨?_, ?_, Or.inl ⟨?_, rfl, ?_, rfl, rfl⟩, ?_, ?_⟩
            · simp; exact hask
            · simp; rfl
            · simp
            · simp
            · simp; rfl
            · simp; rfl
        refine cq_putQid hb3 hg (by decide) rfl (by decide) _ C1.2.1.1.1 hn (by omega) _ ?_
        exact hZ _ g ⟨ext_rf g, _, fun _ => rfl, CC_ap (B := qidL 0 f) C1 (by rw [qidL_len]; omega)⟩
      · rw [hno]
        simp only
        refine cif_y ?_
        rw [← hC.2.2.2.2.2.1.2.2.2]
        exact hc
    · rw [hnone 0 (by omega) rfl] at hf0; cases hf0
  refine cq_treeOf hM hC.2.2.1 hC.2.2.2.2.1 _ _ (fun e => ?_) (fun k b T' ne e hk hs => ?_) (fun ne hn => ?_)
  · exact fin _ 0 T (tre_live hM hC.2.2.1) (cif_y e) (by unfold trOf; rw [if_pos rfl]) (by omega) (by rw [e]; decide)
  · have hkl : k < S.length := (List.getElem?_eq_some_iff.mp hk).1
    refine fin b (k + 1) T' (tre_s hs κ) ?_ (by unfold trOf; rw [if_neg (by omega)]; exact hk) (by omega) (by rw [e, nI_m1])
    unfold trNo
    rw [cif_n ne, e, nI_clamp (by omega)]
    exact cif_y ⟨nI_pos (by omega), hkl⟩
  · refine ⟨fun a20 y => absurd y (by simp), fun _ => p6 ?_⟩
    unfold trNo
    rw [cif_n ne]
    refine cif_n (fun y => ?_)
    obtain ⟨k, hk, ek⟩ := nI_of y.1
    rw [ek, nI_clamp hk] at y
    exact hn k y.2 ek
set_option maxHeartbeats 2000000 in
theorem cq_ver (hM : CM ax g) (hK : CK ge ax g) (hC : CC ax κ0 κ g L A T S J fm fc gv tm ms) (hA : A.length = 7) {c : Nat} {X : List Int32} (hc : κ.1 5 8 = nI c) (hc2 : c < 2 ^ 32) (hX : Ctx κ L X) (Z : Int32 → mm_M → Prop)
    (hZ : ∀ κ' A', ((spVer c X).1 = 0 → A' = A ++ (spVer c X).2.1) → CC ax κ0 κ' g L A' T S J (fun _ => none) 0 gv tm (spVer c X).2.2 → Z (spVer c X).1 (c_em ax κ' g)) : wq_Server_agreeOnVersion ge ax (c_em ax κ g) Z := by
  have hg := hK.1
  obtain ⟨m0, m1⟩ := CM_0 hM
  have hb3 := CM_b3 hM
  unfold wq_Server_agreeOnVersion wq_Server_agreeOnVersion_0
  simp only [m0, m1, (CM_f hM).1, ck, cP0, true_and, Option.some.injEq, exists_eq_left']
  refine cq_fclear hM hg κ _ ?_
  have e1 : ∀ o j, ¬ (8 ≤ o ∧ o < 32) → (c_nf κ 24).1 o j = κ.1 o j := fun o j h => if_neg (by omega)
  have C1 : CC ax κ0 (c_nf κ 24) g L A T S J (fun _ => none) 0 gv tm ms := CC_fd e1 rfl hC (Cfd_0 (fun i hi => if_pos ⟨by omega, by omega, rfl⟩))
  simp only [m0, m1, (CM_q hM).1, ck, cP0, cU0, cI ax 5 (by decide), hg, true_and, Option.some.injEq, exists_eq_left', forall_eq]
  have C2 := CC_ms C1 0
  obtain ⟨κ2, e2⟩ : ∃ κ2, κ2 = c_u (c_nf κ 24) 0 10 0 := ⟨_, rfl⟩
  have e20 : c_u (c_nf κ 24) 0 10 (nI 0) = κ2 := e2.symm
  rw [e20] at C2
  rw [← e2]
  have i2 : ∀ j, κ2.1 5 j = κ.1 5 j := fun j => by rw [e2, cu1, if_neg (by simp), e1 _ _ (by omega)]
  rw [i2 8, hc, m32 hc2]
  have hX2 : Ctx κ2 L X := Ctx_CC (i2 14) (i2 15) hX
  simp only [lg_cmp_ge]
  have c64 : ((64 : Int64) ≤ lN c) ↔ 64 ≤ c := by
    rw [show (64 : Int64) = lN 64 from rfl, ← Int64.not_lt, lN_lt' (by omega) (by omega)]
    omega
  refine ⟨fun q => ?_, fun q => ?_⟩
  · have hc64 := c64.mp q
    have hmin : Int64.toInt32 (if (1000 : Int64) < lN c then 1000 else lN c) = nI (min c 1000) := by
      by_cases z : 1000 < c
      · rw [if_pos (by rw [show (1000 : Int64) = lN 1000 from rfl]; exact (lN_lt' (by omega) (by omega)).mpr z), Nat.min_eq_right (by omega)]; decide
      · rw [if_neg (by rw [show (1000 : Int64) = lN 1000 from rfl]; exact fun y => z ((lN_lt' (by omega) (by omega)).mp y)), Nat.min_eq_left (by omega), lN_t32 (by omega)]
    rw [hmin]
    obtain ⟨h0, ⟨h1, h2, h3, h4⟩, b1, b2, b3, b4⟩ := hK
    have kB : allB KNOWN := by
      intro x hx
      simp only [KNOWN, List.mem_cons, List.not_mem_nil, or_false] at hx
      rcases hx with h | h | h | h | h | h <;> rw [h] <;> (show _ &&& _ = _) <;> decide
    have uB : allB UNKN := by
      intro x hx
      simp only [UNKN, List.mem_cons, List.not_mem_nil, or_false] at hx
      rcases hx with h | h | h | h | h | h | h <;> rw [h] <;> (show _ &&& _ = _) <;> decide
    have last : ∀ (r : Int32) (ad : Nat) (V : List Int32), (r = 0 ∨ r = 1) → fz ax ad → bA g ad V → allB V → V.length ≤ 7 → (spVer c X) = (0, le 4 (nI (min c 1000)).toInt64 ++ (le 2 (nI V.length).toInt64 ++ V), if r = 0 then 0 else min c 1000) → ∀ κ3 : cS, CC ax κ0 κ3 g L (A ++ le 4 (nI (min c 1000)).toInt64) T S J (fun _ => none) 0 gv tm 0 → wq_Server_agreeOnVersion_84 ge ax (nI (min c 1000)) r (some (ax + 3)) (some ad) (c_em ax κ3 g) Z := by
      intro r ad V hr hz hV hB hl hs κ3 C3
      rw [hs] at hZ
      unfold wq_Server_agreeOnVersion_84 wq_Server_agreeOnVersion_97
      simp only [hb3.1, ck, true_and, Option.some.injEq, exists_eq_left']
      refine cq_putText hb3 hg (by decide) rfl (by decide) _ C3.2.1.1.1 hz hV hB (by omega) (by rw [List.length_append, le_len]; omega) _ ?_
      have C4 := CC_ap (B := le 2 (nI V.length).toInt64 ++ V) C3 (by simp only [List.length_append, le_len]; omega)
      rw [List.append_assoc] at C4
      refine ⟨fun z => ?_, fun z => ?_⟩
      · rw [if_pos z] at hZ
        exact hZ _ _ (fun _ => rfl) C4
      · rw [if_neg z] at hZ
        simp only [m0, ck, cU0, hg, true_and, forall_eq]
        exact hZ _ _ (fun _ => rfl) (CC_ms C4 _)
    refine cq_tbeg hM C2.1 hX2 (b := ge 3) (by omega) b3 kB (by decide) _ (fun hk => ?_) (fun hk => ?_)
    · have hs : spVer c X = (0, le 4 (nI (min c 1000)).toInt64 ++ (le 2 (nI KNOWN.length).toInt64 ++ KNOWN), if (1 : Int32) = 0 then 0 else min c 1000) := by
        rw [if_neg (by decide)]
        exact (cif_n (by omega)).trans (cif_y hk)
      simp only [m0, m1, hb3.1, ck, cP0, true_and, Option.some.injEq, exists_eq_left']
      refine cq_put (n := 4) hb3 hg (by decide) rfl (by decide) _ C2.2.1.1.1 (by omega) _ _ ?_
      have C3 := CC_ap (B := le 4 (nI (min c 1000)).toInt64) C2 (by rw [le_len]; omega)
      simp only [m0, m1, ck, cP0, true_and]
      exact ⟨fun z => absurd z (by decide), fun _ => last 1 (ge 3) KNOWN (Or.inr rfl) (by omega) b3 kB (by decide) hs _ C3⟩
    · have hs : spVer c X = (0, le 4 (nI (min c 1000)).toInt64 ++ (le 2 (nI UNKN.length).toInt64 ++ UNKN), if (0 : Int32) = 0 then 0 else min c 1000) := by
        rw [if_pos rfl]
        exact (cif_n (by omega)).trans (cif_n hk)
      simp only [m0, m1, hb3.1, ck, cP0, true_and, Option.some.injEq, exists_eq_left']
      refine cq_put (n := 4) hb3 hg (by decide) rfl (by decide) _ C2.2.1.1.1 (by omega) _ _ ?_
      have C3 := CC_ap (B := le 4 (nI (min c 1000)).toInt64) C2 (by rw [le_len]; omega)
      simp only [m0, m1, ck, cP0, true_and]
      exact ⟨fun _ => last 0 (ge 4) UNKN (Or.inl rfl) (by omega) b4 uB (by decide) hs _ C3, fun z => absurd trivial z⟩
  · have hs : spVer c X = (3, [], 0) := cif_y (Nat.lt_of_not_le (fun z => q (c64.mpr z)))
    rw [hs] at hZ
    exact hZ _ A (fun z => absurd z (by show ¬ (3 : Int32) = 0; decide)) C2
end HA
