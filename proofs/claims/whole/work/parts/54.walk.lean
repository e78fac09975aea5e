/-! the class: walk -/
theorem qts_s (t : Nat → Int32) (e : Nat) : ∀ (k : Nat) (x : Option Nat), qts t e (k + 1) x = qt t e (qts t e k x)
  | 0, _ => rfl
  | k + 1, x => qts_s t e k (qt t e x)
theorem qts_add (t : Nat → Int32) (e : Nat) : ∀ (k m : Nat) (x : Option Nat), qts t e (k + m) x = qts t e m (qts t e k x)
  | 0, m, x => by rw [Nat.zero_add]; rfl
  | k + 1, m, x => by rw [show k + 1 + m = (k + m) + 1 by omega]; exact qts_add t e k m (qt t e x)
theorem qts_back {t : Nat → Int32} {e : Nat} : ∀ {m : Nat} {x : Option Nat} {b : Nat}, qts t e m x = some b → ∃ c, x = some c
  | 0, x, b, h => ⟨b, h⟩
  | m + 1, x, b, h => by
    cases x with
    | some c => exact ⟨c, rfl⟩
    | none => rw [qts_none] at h; cases h
theorem nms_cons (L : List Int32) (e m : Nat) (x : Option Nat) : nms L e (m + 1) x = txt L x :: nms L e m (qt (tp L) e x) := rfl
theorem wk_le (Tr : sT) : ∀ (N : List (List Int32)) (p : Nat), (wk Tr N p).2.2 ≤ N.length
  | [], _ => Nat.le_refl _
  | nm :: r, p => by
    unfold wk
    cases nxt Tr p nm with
    | none => simp
    | some q =>
      have := wk_le Tr r q
      simp only [List.length_cons]
      omega
section HK
variable {ge : Nat → Nat} {ax : Nat} {κ0 κ : cS} {g : mm_M} {L A : List Int32} {T : sT} {S J : List sT} {fm : sM} {fc gv : Nat} {tm : Int32} {ms : Nat}
/-- what a tree must be for walking: a directory's parent is there -/
def wkT (Tr : sT) : Prop := ∀ p f, Tr p = some f → p < 60 ∧ ∃ q f', q < 60 ∧ f_in f = nI q ∧ Tr q = some f'
theorem cq_step (hM : CM ax g) {b : Nat} {Tr : sT} (ht : tre ax κ g b Tr) (hw : wkT Tr) (hTp : Ctp κ L) {X : List Int32} (hX : Ctx κ L X) {p a : Nat} {f : sF} (hf : Tr p = some f) (hn : nd ax g a p f) (Z : Option Nat → mm_M → Prop)
    (h1 : ∀ (q a' : Nat) (f' : sF), nxt Tr p X = some q → Tr q = some f' → nd ax g a' q f' → Z (some a') (c_em ax κ g)) (h0 : nxt Tr p X = none → Z none (c_em ax κ g)) : wq_Server_step ge ax (some b) (some a) (c_em ax κ g) Z := by
  obtain ⟨m0, m1⟩ := CM_0 hM
  obtain ⟨an, ad, fa, f1, f2, hN⟩ := nd_H hn
  have hk : mm_k g a = kd_Node := (hN κ).1
  unfold wq_Server_step wq_Server_step_0 wq_Server_step_42
  refine ⟨a, rfl, hk, nq_isDir (hN κ) _ ?_⟩
  have hnx : nxt Tr p X = cif (0 ≤ f_md f) none (cif (X = [46, 46]) (some (f_in f).toNatClampNeg) (chl Tr (nI p) X)) := by
    unfold nxt
    rw [hf]
  by_cases hd : 0 ≤ f_md f
  · rw [if_pos hd]
    exact ⟨fun z => absurd rfl z, fun _ => h0 (hnx.trans (cif_y hd))⟩
  · rw [if_neg hd]
    refine ⟨fun _ => ?_, fun z => absurd z (by decide)⟩
    simp only [m0, m1, (CM_q hM).1, ck, cP0, true_and, Option.some.injEq, exists_eq_left']
    refine cq_dd hM hTp hX _ (fun hdd => ⟨fun z => absurd z (by decide), fun _ => ?_⟩) (fun hdd => ⟨fun _ => ?_, fun z => absurd rfl z⟩)
    · obtain ⟨_, q, f', hq, hin, hf'⟩ := hw p f hf
      simp only [hk, ht.1, ck, (hN κ).2.2.1, hin, true_and, Option.some.injEq, exists_eq_left']
      refine cq_tat ht _ _ (fun p' a' f'' hp' e hf'' hn' => ?_) (fun hnone => ?_)
      · have := (nI_eq (by omega) (by omega)).mp e
        subst this
        exact h1 q a' f'' (by rw [hnx, cif_n hd, cif_y hdd, hin, nI_clamp (by omega)]) hf'' hn'
      · rw [hnone q hq rfl] at hf'; cases hf'
    · simp only [hk, m0, m1, ht.1, ck, cP0, (hN κ).2.1, true_and, Option.some.injEq, exists_eq_left']
      exact cq_named hM hTp hX ht _ _ (fun p' a' f'' hc hf'' hn' => h1 p' a' f'' (by rw [hnx, cif_n hd, cif_n hdd]; exact hc) hf'' hn') (fun hc => h0 (by rw [hnx, cif_n hd, cif_n hdd]; exact hc))
/-- settle: the fid, or a new one, is at a file -/
theorem cq_settle (hM : CM ax g) (hg : ge 0 ≤ ax) (hC : CC ax κ0 κ g L A T S J fm fc gv tm ms) {i : Nat} {x other : Int32} {d : sD} (hr : rw_ κ fm i x d) (hcl : ¬ 0 ≤ d_m d) (ho : κ.1 5 8 = other) (hfree : ¬ other = x → fm other = none ∧ ¬ fc = 24) {q : Nat} (sm : Int32) (hsm : ¬ sm = 0 ↔ other = x) (Z : mm_M → Prop)
    (hZ : ∀ κ', CC ax κ0 κ' g L A T S J (fset fm other (some (d_t d, q, -1, 0, 0))) (cif (fm other = none) (fc + 1) fc) gv tm ms → Z (c_em ax κ' g)) : wq_Server_settle ge ax (some (ax + (8 + i))) sm (nI q) (c_em ax κ g) Z := by
  obtain ⟨r1, r2, r3, r4, r5⟩ := hr
  have mf := ((CM_f hM).2 i r1).2
  obtain ⟨m0, m1⟩ := CM_0 hM
  have hclosed : κ.1 (8 + i) 4 = 0 ∧ d_m d = -1 ∧ κ.1 (8 + i) 5 = 0 ∧ d_o d = 0 ∧ d_l d = 0 := by
    rcases r5.2.2.1 with z | z
    · exact z
    · exact absurd z.2.1 hcl
  unfold wq_Server_settle wq_Server_settle_0 wq_Server_settle_32
  refine ⟨fun z => ?_, fun z => ?_⟩
  · have hne : ¬ other = x := fun y => absurd z (hsm.mpr y)
    obtain ⟨hfo, hfc⟩ := hfree hne
    simp only [m0, m1, (CM_q hM).1, mf, (CM_f hM).1, ck, cP0, cI ax 5 (by decide), cI ax (8 + i) (by omega), ho, true_and, Option.some.injEq, exists_eq_left']
    refine cq_make hM hg κ _ _ _ _ (fun j hj hu => hZ _ ?_) (fun hc => absurd (hC.2.2.2.2.2.1.2.2.2 ▸ hc) hfc)
    rw [cif_y hfo]
    have ek : ∀ o k, ¬ o = 8 + j → (c_mk κ j other (κ.1 (8 + i) 2) (nI q)).1 o k = κ.1 o k := fun o k h => by
      unfold c_mk
      simp only [cu1, h, false_and, if_false]
    refine CC_fd (fun o k h => ek o k (by omega)) rfl hC (Cfd_add hC.2.2.2.2.2.1 hj hu hfo (fun o k _ _ h => ek o k h) ?_ ?_ ?_)
    · unfold usd c_mk; simp [cu1]
    · unfold c_mk; simp [cu1]
    · unfold crow c_mk
      simp only [cu1]
      refine ⟨?_, ?_, Or.inl ⟨?_, rfl, ?_, rfl, rfl⟩, ?_, ?_⟩
      · simp; exact r5.1
      · simp; rfl
      · simp
      · simp
      · simp; rfl
      · simp; rfl
  · have heq := hsm.mp z
    simp only [mf, ck, cU ax (8 + i) (by omega), geo hg, true_and, Option.some.injEq, exists_eq_left', forall_eq]
    refine hZ _ ?_
    rw [heq, cif_n (by rw [r4]; simp)]
    refine CC_fd (κ := κ) (fun o k h => by rw [cu1, if_neg (by omega)]) rfl hC ?_
    rw [← r3]
    refine Cfd_set (κ := κ) hC.2.2.2.2.2.1 r1 r2 (fun o k _ _ h => by rw [cu1, if_neg (by omega)]) ⟨?_, ?_, Or.inl ⟨?_, rfl, ?_, rfl, rfl⟩, ?_, ?_⟩
    · rw [cu1, if_neg (by simp)]; exact r5.1
    · rw [cu1, if_pos ⟨rfl, rfl⟩]; rfl
    · rw [cu1, if_neg (by simp)]; exact hclosed.1
    · rw [cu1, if_neg (by simp)]; exact hclosed.2.2.1
    · rw [cu1, if_neg (by simp), r5.2.2.2.1]; exact hclosed.2.2.2.1
    · rw [cu1, if_neg (by simp), r5.2.2.2.2, hclosed.2.2.2.2]; rfl
set_option maxHeartbeats 4000000 in
theorem cq_wlk (hM : CM ax g) (hK : CK ge ax g) (hC : CC ax κ0 κ g L A T S J fm fc gv tm ms) (hA : A.length = 7) {i : Nat} {x : Int32} {d : sD} (hr : rw_ κ fm i x d) {b : Nat} {Tr : sT} (ht : ∀ κ, nr ax g (κ.2.2 33) T → tre ax κ g b Tr) (hwk : wkT Tr) {f : sF} (hf : Tr (d_p d) = some f) {a : Nat} (hn : nd ax g a (d_p d) f) {other : Int32} (hx7 : κ.1 5 7 = x) (ho : κ.1 5 8 = other) {e many : Nat} {s0 : Option Nat} (he : e ≤ L.length) (hmany : κ.1 5 9 = nI many) (hm16 : many < 65536) (hR : RC κ e (some e)) (h4 : κ.1 5 4 = nI (at0 s0)) (hq : qts (tp L) e many s0 = some e) (hs0 : ∀ c, s0 = some c → c ≤ e) (Z : Int32 → mm_M → Prop)
    (hZ : ∀ κ' g', Pst ax κ0 g L A S J tm ms (spWalk T Tr fm fc gv x other d (nms L e many s0)) κ' g' → Z (spWalk T Tr fm fc gv x other d (nms L e many s0)).1 (c_em ax κ' g')) : wq_Server_walk ge ax (some (ax + (8 + i))) (some b) (some a) (c_em ax κ g) Z := by
  have hg := hK.1
  have hr0 := hr
  obtain ⟨r1, r2, r3, r4, r5⟩ := hr
  have mf := ((CM_f hM).2 i r1).2
  obtain ⟨m0, m1⟩ := CM_0 hM
  have hb3 := CM_b3 hM
  obtain ⟨co1, co2⟩ := crow_open r5
  have hNl : (nms L e many s0).length = many := nms_len L e many s0
  have er : ∀ (k : Int32), spWalk T Tr fm fc gv x other d (nms L e many s0) = (k, [], T, fm, fc, gv) → ¬ k = 0 → ∀ (κ' : cS) (A' : List Int32), CC ax κ0 κ' g L A' T S J fm fc gv tm ms → Z k (c_em ax κ' g) := by
    intro k hk nk κ' A' C'
    rw [hk] at hZ
    exact hZ κ' g ⟨ext_rf g, A', fun z => absurd z nk, C'⟩
  have p22 : ∀ sm : Int32, (¬ sm = 0 ↔ other = x) → wq_Server_walk_22 ge ax (some (ax + (8 + i))) (some b) (some a) sm (c_em ax κ g) Z := by
    intro sm hsm
    unfold wq_Server_walk_22
    simp only [mf, ck, cI ax (8 + i) (by omega), true_and, Option.some.injEq, exists_eq_left']
    refine ⟨fun q => ?_, fun q => er 3 (cif_y (Decidable.not_not.mp (fun z => q (co1.mpr z)))) (by decide) κ A hC⟩
    have n3 : ¬ 0 ≤ d_m d := co1.mp q
    have p57 : ¬ (¬ other = x ∧ ¬ fm other = none) → wq_Server_walk_57 ge ax (some (ax + (8 + i))) (some b) (some a) sm (c_em ax κ g) Z := by
      intro n5
      unfold wq_Server_walk_57
      simp only [m0, m1, (CM_q hM).1, (CM_f hM).1, ck, cP0, cI ax 5 (by decide), hmany, true_and, Option.some.injEq, exists_eq_left']
      have c16 : (nI many ≤ 16) ↔ many ≤ 16 := nI_leI (b := 16) (by omega) (by decide)
      refine ⟨fun z => ?_, fun z => er 6 ((cif_n n3).trans ((cif_n n5).trans (cif_y (by rw [hNl]; have : ¬ many ≤ 16 := fun y => z (c16.mpr y); omega)))) (by decide) κ A hC⟩
      have hm := c16.mp z
      have n6 : ¬ 16 < (nms L e many s0).length := by rw [hNl]; omega
      -- the names
      have p92 : ¬ (fm other = none ∧ fc = 24) → wq_Server_walk_92 ge ax (some (ax + (8 + i))) (some b) (some a) sm (c_em ax κ g) Z := by
        intro n7
        unfold wq_Server_walk_92
        simp only [m0, m1, hb3.1, ck, cP0, true_and, Option.some.injEq, exists_eq_left']
        refine cq_put (n := 2) hb3 hg (by decide) rfl (by decide) _ hC.2.1.1.1 (by omega) _ _ ?_
        have C1 := CC_ap (B := le 2 0) hC (by rw [le_len]; omega)
        have e1 : ∀ o j, ¬ o = 3 → ¬ o = 4 → (c_ap κ 3 (le 2 0)).1 o j = κ.1 o j := fun o j h1 h2 => c_ap_o (Or.inl h1) h2 _ _
        have q4 : (c_ap κ 3 (le 2 0)).1 5 4 = nI (at0 s0) := (e1 _ _ (by decide) (by decide)).trans h4
        unfold wq_Request_toFirstName wq_Request_toFirstName_0
        simp only [m0, m1, (CM_q hM).1, ck, cP0, cI ax 5 (by decide), cU ax 5 (by decide), q4, geo hg, true_and, Option.some.injEq, exists_eq_left', forall_eq]
        obtain ⟨κ2, e2⟩ : ∃ κ2, κ2 = c_u (c_ap κ 3 (le 2 0)) 5 2 (nI (at0 s0)) := ⟨_, rfl⟩
        rw [← e2]
        have f2 : fr5 (c_ap κ 3 (le 2 0)) κ2 [2] := by rw [e2]; exact fr5_u _ _ _
        have C2 := CC_5 (by decide) f2 C1
        obtain ⟨c0, hc0⟩ := qts_back hq
        have hc0e := hs0 c0 hc0
        have R2 : RC κ2 e s0 := by
          rw [hc0]
          refine ⟨?_, ?_, c0, hc0e, ?_, fun b hb => by cases hb; rfl⟩
          · rw [fr5_i f2 (by decide), e1 _ _ (by decide) (by decide)]; exact hR.1
          · rw [fr5_i f2 (by decide), e1 _ _ (by decide) (by decide)]; exact hR.2.1
          · rw [e2, cu1, if_pos ⟨rfl, rfl⟩, hc0]; rfl
        have row2 : ∀ o j, ¬ o = 3 → ¬ o = 4 → ¬ o = 5 → κ2.1 o j = κ.1 o j := fun o j h1 h2 h3 => by rw [f2.2.1 o j (fun y => h3 y.1), e1 _ _ h1 h2]
        -- what stands fixed while walking
        have fx : ∀ κ' : cS, fr5 κ2 κ' [2, 3, 14, 15] → κ'.1 5 9 = nI many ∧ κ'.1 5 8 = other := fun κ' f' => ⟨by rw [fr5_i f' (by decide), fr5_i f2 (by decide), e1 _ _ (by decide) (by decide)]; exact hmany, by rw [fr5_i f' (by decide), fr5_i f2 (by decide), e1 _ _ (by decide) (by decide)]; exact ho⟩
        -- the end, with c names gone
        have p175 : ∀ (κ' : cS) (B : List Int32) (c q aq : Nat) (fq : sF), CC ax κ0 κ' g L (A ++ le 2 0 ++ B) T S J fm fc gv tm ms → rw_ κ' fm i x d → κ'.1 5 9 = nI many → κ'.1 5 8 = other → c ≤ many → B.length ≤ 13 * c → wk Tr (nms L e many s0) (d_p d) = (B, q, c) → nd ax g aq q fq → q < 60 → wq_Server_walk_175 ge ax (some (ax + (8 + i))) sm (some aq) (nI c) (c_em ax κ' g) Z := by
          intro κ' B c q aq fq C' rw' h9 h8 hcm hBl hwkr nq hq60
          have hc0' : (nI c = 0) ↔ c = 0 := nI_eq (b := 0) (by omega) (by decide)
          have hm0' : (nI many ≤ 0) ↔ many = 0 := by rw [show (0 : Int32) = nI 0 from rfl, nI_leI (by omega) (by decide)]; omega
          obtain ⟨an, ad, fa, f1, f2', hNq⟩ := nd_H nq
          have hkq : mm_k g aq = kd_Node := (hNq κ').1
          have p193 : ¬ (c = 0 ∧ 0 < many) → wq_Server_walk_193 ge ax (some (ax + (8 + i))) sm (some aq) (nI c) (c_em ax κ' g) Z := by
            intro n8
            have hs : spWalk T Tr fm fc gv x other d (nms L e many s0) = (0, le 2 (nI c).toInt64 ++ B, T, cif (c = many) (fset fm other (some (d_t d, q, -1, 0, 0))) fm, cif (c = many ∧ fm other = none) (fc + 1) fc, gv) := by
              refine (cif_n n3).trans ((cif_n n5).trans ((cif_n n6).trans ((cif_n n7).trans ?_)))
              rw [hwkr, hNl]
              exact cif_n n8
            rw [hs] at hZ
            unfold wq_Server_walk_193 wq_Server_walk_229
            simp only [m0, m1, hb3.1, ck, cP0, true_and, Option.some.injEq, exists_eq_left']
            refine cq_set (i := 7) (n := 2) hb3 hg (by decide) rfl (by decide) _ C'.2.1.1.1 C'.2.1.2 (by simp only [List.length_append, le_len]; omega) _ _ ?_
            have C3 := CC_st (v := nI c) C' (le_len 2 0) (by decide)
            rw [hA, List.append_assoc] at C3
            have e3 : ∀ o j, ¬ o = 4 → (c_st 3 7 (nI c) 0 2 κ').1 o j = κ'.1 o j := fun o j ho => by rw [c_st_1, if_neg (fun y => ho y.1)]
            obtain ⟨κ4, e4⟩ : ∃ κ4, κ4 = c_st 3 7 (nI c) 0 2 κ' := ⟨_, rfl⟩
            rw [← e4] at C3 e3 ⊢
            have g9 : κ4.1 5 9 = nI many := (e3 _ _ (by decide)).trans h9
            have g8 : κ4.1 5 8 = other := (e3 _ _ (by decide)).trans h8
            simp only [m0, m1, (CM_q hM).1, hkq, ck, cP0, cI ax 5 (by decide), g9, (hNq κ4).2.1, true_and, Option.some.injEq, exists_eq_left', nI_eq (show c < 2 ^ 31 by omega) (show many < 2 ^ 31 by omega)]
            refine ⟨fun y => ?_, fun y => ?_⟩
            · rw [cif_n y, cif_n (fun w => y w.1)] at hZ
              exact hZ _ g ⟨ext_rf g, _, fun _ => rfl, C3⟩
            · obtain ⟨w1, w2, w3, w4, w5⟩ := rw'
              have rw4 : rw_ κ4 fm i x d := ⟨w1, by unfold usd; rw [e3 _ _ (by omega)]; exact w2, (e3 _ _ (by omega)).trans w3, w4, crow_of (fun j => e3 _ _ (by omega)) w5⟩
              refine cq_settle hM hg C3 rw4 n3 g8 (fun hne => ⟨Classical.byContradiction (fun w => n5 ⟨hne, w⟩), fun w => n7 ⟨Classical.byContradiction (fun v => n5 ⟨hne, v⟩), w⟩⟩) sm hsm _ (fun κ5 C5 => ?_)
              rw [cif_y y] at hZ
              have ec : cif (c = many ∧ fm other = none) (fc + 1) fc = cif (fm other = none) (fc + 1) fc := by
                by_cases w : fm other = none
                · rw [cif_y ⟨y, w⟩, cif_y w]
                · rw [cif_n (fun v => w v.2), cif_n w]
              rw [ec] at hZ
              exact hZ _ g ⟨ext_rf g, _, fun _ => rfl, C5⟩
          unfold wq_Server_walk_175
          refine ⟨fun y => p193 (fun w => y (hc0'.mpr w.1)), fun y => ?_⟩
          simp only [m0, m1, (CM_q hM).1, ck, cP0, cI ax 5 (by decide), h9, true_and, Option.some.injEq, exists_eq_left']
          refine ⟨fun w => p193 (fun v => absurd (hm0'.mp w) (by omega)), fun w => er 8 ?_ (by decide) κ' _ C'⟩
          refine (cif_n n3).trans ((cif_n n5).trans ((cif_n n6).trans ((cif_n n7).trans ?_)))
          rw [hwkr, hNl]
          exact cif_y ⟨hc0'.mp y, Nat.pos_of_ne_zero (fun v => w (hm0'.mpr v))⟩
        unfold lp_Server_walk_117
        intro X hX
        have key : ∀ (m c : Nat) (κ' : cS) (B : List Int32) (q aq : Nat) (fq : sF), c + m = many → fr5 κ2 (κ2.1, κ2.2) [] → CC ax κ0 κ' g L (A ++ le 2 0 ++ B) T S J fm fc gv tm ms → rw_ κ' fm i x d → κ'.1 5 9 = nI many → κ'.1 5 8 = other → RC κ' e (qts (tp L) e c s0) → B.length ≤ 13 * c → wk Tr (nms L e many s0) (d_p d) = (B ++ (wk Tr (nms L e m (qts (tp L) e c s0)) q).1, (wk Tr (nms L e m (qts (tp L) e c s0)) q).2.1, c + (wk Tr (nms L e m (qts (tp L) e c s0)) q).2.2) → Tr q = some fq → nd ax g aq q fq → X ax (some (ax + (8 + i))) (some b) sm (some aq) (nI c) (nI c) (c_em ax κ' g) := by
          intro m
          induction m with
          | zero =>
            intro c κ' B q aq fq hcm _ C' rw' h9 h8 R' hBl hwkr hTq nq
            refine hX _ _ _ _ _ _ _ _ ?_
            unfold wq_Server_walk_117
            simp only [m0, m1, (CM_q hM).1, ck, cP0, cI ax 5 (by decide), h9, true_and, Option.some.injEq, exists_eq_left']
            refine ⟨fun _ => p175 κ' B c q aq fq C' rw' h9 h8 (by omega) hBl ?_ nq (hwk q fq hTq).1, fun y => absurd (nI_le (by omega) (by omega)) y⟩
            rw [hwkr]
            show (B ++ [], q, c + 0) = _
            rw [List.append_nil, Nat.add_zero]
          | succ m ih =>
            intro c κ' B q aq fq hcm fr0 C' rw' h9 h8 R' hBl hwkr hTq nq
            refine hX _ _ _ _ _ _ _ _ ?_
            unfold wq_Server_walk_117
            simp only [m0, m1, (CM_q hM).1, ck, cP0, cI ax 5 (by decide), h9, true_and, Option.some.injEq, exists_eq_left']
            refine ⟨fun y => absurd y (nI_ge (by omega) (by omega)), fun _ => ?_⟩
            have hcm' : many = c + (m + 1) := by omega
            have hq1 : qts (tp L) e (m + 1) (qts (tp L) e c s0) = some e := by rw [← qts_add, ← hcm']; exact hq
            obtain ⟨c1, hc1⟩ : ∃ c1, qt (tp L) e (qts (tp L) e c s0) = some c1 := qts_back (m := m) hq1
            refine cq_T hM hg C'.1 he R' _ (fun κ3 f3 T3 R3 V3 => ⟨m0, ?_⟩)
            have C3 := CC_5 (by decide) f3 C'
            obtain ⟨hX3, _, _⟩ := V3 c1 hc1
            have rw3 : rw_ κ3 fm i x d := by
              obtain ⟨w1, w2, w3, w4, w5⟩ := rw'
              have e3 : ∀ j, κ3.1 (8 + i) j = κ'.1 (8 + i) j := fun j => f3.2.1 _ _ (fun y => absurd y.1 (by omega))
              exact ⟨w1, by unfold usd; rw [e3]; exact w2, (e3 1).trans w3, w4, crow_of e3 w5⟩
            have g9 : κ3.1 5 9 = nI many := (fr5_i f3 (by decide)).trans h9
            have g8 : κ3.1 5 8 = other := (fr5_i f3 (by decide)).trans h8
            have hcons : nms L e (m + 1) (qts (tp L) e c s0) = txt L (qts (tp L) e c s0) :: nms L e m (qt (tp L) e (qts (tp L) e c s0)) := rfl
            rw [hcons] at hwkr
            refine cq_step hM (ht κ3 C3.2.2.1) hwk C3.1 hX3 hTq nq _ (fun q' a' f' hnx hf' hn' => ?_) (fun hnx => ?_)
            · refine ⟨fun a10 _ => ?_, fun y => absurd y (by simp)⟩
              have hw1 : wk Tr (txt L (qts (tp L) e c s0) :: nms L e m (qt (tp L) e (qts (tp L) e c s0))) q = (qidL q' f' ++ (wk Tr (nms L e m (qt (tp L) e (qts (tp L) e c s0))) q').1, (wk Tr (nms L e m (qt (tp L) e (qts (tp L) e c s0))) q').2.1, (wk Tr (nms L e m (qt (tp L) e (qts (tp L) e c s0))) q').2.2 + 1) := by
                conv => lhs; unfold wk
                rw [hnx]
                simp only [qidT, hf']
              rw [hw1] at hwkr
              simp only [m0, m1, hb3.1, ck, cP0, true_and, Option.some.injEq, exists_eq_left']
              refine cq_putQid hb3 hg (by decide) rfl (by decide) _ C3.2.1.1.1 hn' (by simp only [List.length_append, le_len]; omega) _ ?_
              have C4 := CC_ap (B := qidL q' f') C3 (by simp only [List.length_append, le_len, qidL_len]; omega)
              rw [List.append_assoc] at C4
              have e4 : ∀ o j, ¬ o = 3 → ¬ o = 4 → (c_ap κ3 3 (qidL q' f')).1 o j = κ3.1 o j := fun o j h1 h2 => c_ap_o (Or.inl h1) h2 _ _
              have rw4 : rw_ (c_ap κ3 3 (qidL q' f')) fm i x d := by
                obtain ⟨w1, w2, w3, w4, w5⟩ := rw3
                exact ⟨w1, by unfold usd; rw [e4 _ _ (by omega) (by omega)]; exact w2, (e4 _ _ (by omega) (by omega)).trans w3, w4, crow_of (fun j => e4 _ _ (by omega) (by omega)) w5⟩
              have R4 : RC (c_ap κ3 3 (qidL q' f')) e (qts (tp L) e (c + 1) s0) := by
                rw [qts_s]
                obtain ⟨y1, y2, a5, y3, y4, y5⟩ := R3
                exact ⟨(e4 _ _ (by decide) (by decide)).trans y1, (e4 _ _ (by decide) (by decide)).trans y2, a5, y3, (e4 _ _ (by decide) (by decide)).trans y4, y5⟩
              rw [← nI_succ]
              refine ih (c + 1) _ (B ++ qidL q' f') q' a' f' (by omega) fr0 C4 rw4 ((e4 _ _ (by decide) (by decide)).trans g9) ((e4 _ _ (by decide) (by decide)).trans g8) R4 (by rw [List.length_append, qidL_len]; omega) ?_ hf' hn'
              rw [hwkr, qts_s, List.append_assoc]
              refine Prod.ext rfl (Prod.ext rfl ?_)
              show c + ((wk Tr (nms L e m (qt (tp L) e (qts (tp L) e c s0))) q').2.2 + 1) = c + 1 + (wk Tr (nms L e m (qt (tp L) e (qts (tp L) e c s0))) q').2.2
              omega
            · refine ⟨fun a10 y => absurd y (by simp), fun _ => ?_⟩
              have hw1 : wk Tr (txt L (qts (tp L) e c s0) :: nms L e m (qt (tp L) e (qts (tp L) e c s0))) q = ([], q, 0) := by
                conv => lhs; unfold wk
                rw [hnx]
              rw [hw1, List.append_nil, Nat.add_zero] at hwkr
              exact p175 κ3 B c q aq fq C3 rw3 g9 g8 (by omega) hBl hwkr nq (hwk q fq hTq).1
        obtain ⟨f9, f8⟩ := fx κ2 (fr5_mono (fr5_rf κ2) (by decide))
        have rw2 : rw_ κ2 fm i x d := ⟨r1, by unfold usd; rw [row2 _ _ (by omega) (by omega) (by omega)]; exact r2, (row2 _ _ (by omega) (by omega) (by omega)).trans r3, r4, crow_of (fun j => row2 _ _ (by omega) (by omega) (by omega)) r5⟩
        have C2' : CC ax κ0 κ2 g L (A ++ le 2 0 ++ []) T S J fm fc gv tm ms := by rw [List.append_nil]; exact C2
        refine key many 0 κ2 [] (d_p d) a f (by omega) (fr5_rf κ2) C2' rw2 f9 f8 R2 (by simp) ?_ hf hn
        rw [List.nil_append, Nat.zero_add]
        rfl
      refine ⟨fun y => p92 (fun w => ?_), fun y => ?_⟩
      · have := hsm.mp y
        rw [this, r4] at w
        cases w.1
      · have hne : ¬ other = x := fun w => absurd y (hsm.mpr w)
        have hfo : fm other = none := Classical.byContradiction (fun w => n5 ⟨hne, w⟩)
        refine cq_fsize hM κ _ ?_
        rw [hC.2.2.2.2.2.1.2.2.2]
        have hfc24 : fc ≤ 24 := by rw [← hC.2.2.2.2.2.1.2.2.2]; exact cnt_le _ 24
        have c24 : (nI fc < 24) ↔ fc < 24 := nI_ltI (b := 24) (by omega) (by decide)
        refine ⟨fun w => p92 (fun v => by have := c24.mp w; omega), fun w => er 7 ((cif_n n3).trans ((cif_n n5).trans ((cif_n n6).trans (cif_y ⟨hfo, ?_⟩)))) (by decide) κ A hC⟩
        have : ¬ fc < 24 := fun v => w (c24.mpr v)
        omega
    refine ⟨fun z => p57 (fun y => y.1 (hsm.mp z)), fun z => ?_⟩
    have hne : ¬ other = x := fun w => absurd z (hsm.mpr w)
    simp only [m0, m1, (CM_q hM).1, (CM_f hM).1, ck, cP0, cI ax 5 (by decide), ho, true_and, Option.some.injEq, exists_eq_left']
    refine cq_find hM κ hC.2.2.2.2.2.1 _ _ (fun j d' _ _ _ hfo _ => ⟨fun y => absurd y (by simp), fun a13 _ => er 5 ((cif_n n3).trans (cif_y ⟨hne, by rw [hfo]; simp⟩)) (by decide) κ A hC⟩) (fun hfo => ⟨fun _ => p57 (fun y => y.2 hfo), fun a13 y => absurd y (by simp)⟩)
  unfold wq_Server_walk wq_Server_walk_0
  simp only [m0, m1, (CM_q hM).1, ck, cP0, cI ax 5 (by decide), ho, hx7, true_and, Option.some.injEq, exists_eq_left']
  exact ⟨fun z => p22 0 ⟨fun y => absurd rfl y, fun y => absurd y z⟩, fun z => p22 1 ⟨fun _ => z, fun _ => by decide⟩⟩
end HK
