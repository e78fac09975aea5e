/-! the class: feed, bend, answer, word, file, fid -/
def wv (t : Nat → Int32) (j : Nat) : Int32 := ((((((0 : Int32) <<< ((8 : Int32) &&& 31)) ||| t (j + 3)) <<< ((8 : Int32) &&& 31) ||| t (j + 2)) <<< ((8 : Int32) &&& 31) ||| t (j + 1)) <<< ((8 : Int32) &&& 31)) ||| t (j + 0)
theorem isB_max {x : Int32} (h : isB x) : (if (0 : Int32) < x then x else 0) = x := by
  by_cases z : (0 : Int32) < x
  · rw [if_pos z]
  · rw [if_neg z]
    have hx : ¬ x < 0 := fun y => by
      have h2 := (lt0_bt x).mp y
      rw [isB_bt h (by decide)] at h2
      exact absurd h2 (by decide)
    obtain ⟨n, hn, rfl⟩ := nI_of hx
    by_cases hn0 : n = 0
    · rw [hn0]; rfl
    · exact absurd (nI_lt (a := 0) (by omega) hn) z
section PB
variable {ge : Nat → Nat} {ax : Nat} {κ0 κ : cS} {g : mm_M} {L A : List Int32} {T : sT} {S J : List sT} {fm : sM} {fc gv : Nat} {tm : Int32} {ms : Nat}
theorem be4_len (v : Int32) : (be4 v).length = 4 := rfl
theorem be4_B (v : Int32) : allB (be4 v) := allB_cons (isB_and _) (allB_cons (isB_and _) (allB_cons (isB_and _) (allB_cons (isB_and _) allB_nil)))
theorem CC_tap {B : List Int32} (h : CC ax κ0 κ g L A T S J fm fc gv tm ms) (hB : allB B) (hl : L.length + B.length ≤ 1400) : CC ax κ0 (c_ap κ 1 B) g (L ++ B) A T S J fm fc gv tm ms := by
  obtain ⟨h1, h2, h3, h4, h5, h6, ⟨h7, h8, h9⟩, h10, h11, h12⟩ := h
  have e : ∀ o j, ¬ o = 1 → ¬ o = 2 → (c_ap κ 1 B).1 o j = κ.1 o j := fun o j a b => c_ap_o (Or.inl a) b B κ
  have e22 : (c_ap κ 1 B).2.2 = κ.2.2 := by rw [c_ap_2]
  refine ⟨⟨c_L_ap B h1.1 (by omega), allB_app h1.2.1 hB, by rw [List.length_append]; exact hl⟩, ⟨c_L_of (fun j => e _ _ (by decide) (by decide)) (e _ _ (by decide) (by decide)) h2.1, h2.2⟩, by rw [e22]; exact h3, Cjn_of (e _ _ (by decide) (by decide)) (e _ _ (by decide) (by decide)) (fun i j _ => by rw [e22]) h4, Csn_of (e _ _ (by decide) (by decide)) (fun j => by rw [e22]) h5, Cfd_of (fun o j a b => e _ _ (by omega) (by omega)) h6, ⟨?_, ?_, ?_⟩, ?_, ?_, fun o j ho => (e _ _ (by omega) (by omega)).trans (h12 o j ho)⟩
  all_goals (rw [e _ _ (by decide) (by decide)]; assumption)
theorem cq_feed (hM : CM ax g) (hg : ge 0 ≤ ax) (hC : CC ax κ0 κ g L A T S J fm fc gv tm ms) (a b c d e : Int32) (Z : Int32 → mm_M → Prop)
    (h1 : L.length + 20 ≤ 1400 → ∀ κ', CC ax κ0 κ' g (L ++ (be4 a ++ be4 b ++ be4 c ++ be4 d ++ be4 e)) A T S J fm fc gv tm ms → Z (nI (L.length + 20)) (c_em ax κ' g)) (h0 : ¬ L.length + 20 ≤ 1400 → Z (-1) (c_em ax κ g)) : wq_Server_feed ge ax a b c d e (c_em ax κ g) Z := by
  obtain ⟨m0, m1⟩ := CM_0 hM
  have hb1 := CM_b1 hM
  have hL14 := hC.1.2.2
  unfold wq_Server_feed wq_Server_feed_0
  simp only [m0, m1, hb1.1, ck, cP0, true_and, Option.some.injEq, exists_eq_left']
  refine cq_room hb1 (by decide) rfl κ _ ?_
  rw [hC.1.1.1, nI_sub hL14, show (20 : Int32) = nI 20 from rfl, nI_leI (by decide) (by omega)]
  refine ⟨fun q => ?_, fun q => h0 (by omega)⟩
  have q : L.length + 20 ≤ 1400 := by omega
  simp only [m0, m1, hb1.1, ck, cP0, true_and, Option.some.injEq, exists_eq_left']
  have C1 := CC_tap (B := be4 a) hC (be4_B a) (by rw [be4_len]; omega)
  have C2 := CC_tap (B := be4 b) C1 (be4_B b) (by simp only [List.length_append, be4_len]; omega)
  have C3 := CC_tap (B := be4 c) C2 (be4_B c) (by simp only [List.length_append, be4_len]; omega)
  have C4 := CC_tap (B := be4 d) C3 (be4_B d) (by simp only [List.length_append, be4_len]; omega)
  have C5 := CC_tap (B := be4 e) C4 (be4_B e) (by simp only [List.length_append, be4_len]; omega)
  refine cq_putHigh hb1 hg (by decide) rfl (by decide) _ hC.1.1.1 (by omega) _ _ ?_
  simp only [m0, m1, hb1.1, ck, cP0, true_and, Option.some.injEq, exists_eq_left']
  refine cq_putHigh hb1 hg (by decide) rfl (by decide) _ C1.1.1.1 (by simp only [List.length_append, be4_len]; omega) _ _ ?_
  simp only [m0, m1, hb1.1, ck, cP0, true_and, Option.some.injEq, exists_eq_left']
  refine cq_putHigh hb1 hg (by decide) rfl (by decide) _ C2.1.1.1 (by simp only [List.length_append, be4_len]; omega) _ _ ?_
  simp only [m0, m1, hb1.1, ck, cP0, true_and, Option.some.injEq, exists_eq_left']
  refine cq_putHigh hb1 hg (by decide) rfl (by decide) _ C3.1.1.1 (by simp only [List.length_append, be4_len]; omega) _ _ ?_
  simp only [m0, m1, hb1.1, ck, cP0, true_and, Option.some.injEq, exists_eq_left']
  refine cq_putHigh hb1 hg (by decide) rfl (by decide) _ C4.1.1.1 (by simp only [List.length_append, be4_len]; omega) _ _ ?_
  simp only [m0, m1, hb1.1, ck, cP0, true_and, Option.some.injEq, exists_eq_left']
  refine cq_size hb1 (by decide) _ _ ?_
  have e5 := C5.1.1.1
  simp only [List.length_append, be4_len] at e5
  rw [e5, show L.length + 4 + 4 + 4 + 4 + 4 = L.length + 20 by omega]
  refine h1 q _ ?_
  simp only [List.append_assoc] at C5 ⊢
  exact C5
theorem cq_bend (hM : CM ax g) (hg : ge 0 ≤ ax) (hC : CC ax κ0 κ g L A T S J fm fc gv tm ms) (i v : Int32) (Z : Int32 → mm_M → Prop)
    (h1 : ∀ (j : Nat) (x : Int32), i = nI j → L[j]? = some x → ∀ κ', CC ax κ0 κ' g (L.set j (v &&& 255)) A T S J fm fc gv tm ms → Z x (c_em ax κ' g)) (h0 : (∀ j : Nat, j < L.length → ¬ i = nI j) → Z (-1) (c_em ax κ g)) : wq_Server_bend ge ax i v (c_em ax κ g) Z := by
  obtain ⟨m0, m1⟩ := CM_0 hM
  have hb1 := CM_b1 hM
  have hL14 := hC.1.2.2
  unfold wq_Server_bend wq_Server_bend_0
  simp only [m0, m1, hb1.1, ck, cP0, true_and, Option.some.injEq, exists_eq_left']
  refine cq_at hb1 (by decide) rfl (by decide) κ hC.1.1 hC.1.2.1 hL14 _ _ (fun j x ej hj => ?_) (fun hn => ?_)
  · have hjl : j < L.length := (List.getElem?_eq_some_iff.mp hj).1
    simp only [m0, m1, hb1.1, ck, cP0, true_and, Option.some.injEq, exists_eq_left']
    rw [ej]
    refine cq_set (i := j) (n := 1) hb1 hg (by decide) rfl (by decide) _ hC.1.1.1 hL14 (by omega) _ _ ?_
    refine h1 j x ej hj _ ?_
    have ev : v >>> ((8 : Int32) * nI 0 &&& 31) &&& 255 = v &&& 255 := by rw [← b8_i v (by decide), b8_0]
    obtain ⟨g1, g2, g3, g4, g5, g6, ⟨g7, g8, g9⟩, g10, g11, g12⟩ := hC
    have e : ∀ o k, ¬ o = 2 → (c_st 1 j v 0 1 κ).1 o k = κ.1 o k := fun o k ho => by rw [c_st_1, if_neg (fun z => ho z.1)]
    have e22 : (c_st 1 j v 0 1 κ).2.2 = κ.2.2 := by rw [c_st_2]
    refine ⟨⟨⟨by rw [e _ _ (by decide), List.length_set]; exact g1.1.1, fun k y hk => ?_⟩, fun y hy => ?_, by rw [List.length_set]; exact g1.2.2⟩, ⟨c_L_of (fun k => e _ _ (by decide)) (e _ _ (by decide)) g2.1, g2.2⟩, by rw [e22]; exact g3, Cjn_of (e _ _ (by decide)) (e _ _ (by decide)) (fun i j _ => by rw [e22]) g4, Csn_of (e _ _ (by decide)) (fun j => by rw [e22]) g5, Cfd_of (fun o k a b => e _ _ (by omega)) g6, ⟨?_, ?_, ?_⟩, ?_, ?_, fun o k ho => (e _ _ (by omega)).trans (g12 o k ho)⟩
    · rw [c_st_1]
      by_cases ek : k = j
      · subst ek
        rw [if_pos ⟨rfl, by omega, by omega⟩, Nat.sub_self, ev]
        rw [List.getElem?_set_self hjl] at hk
        rw [Option.some.inj hk]
      · rw [if_neg (by omega)]
        rw [List.getElem?_set_ne (fun z => ek z.symm)] at hk
        exact g1.1.2 k y hk
    · rcases List.mem_or_eq_of_mem_set hy with z | z
      · exact g1.2.1 y z
      · rw [z]; exact isB_and v
    all_goals (rw [e _ _ (by decide)]; assumption)
  · simp only [m0, m1, hb1.1, ck, cP0, true_and, Option.some.injEq, exists_eq_left']
    exact cq_set1_no hb1 (by decide) κ hC.1.1.1 (by omega) i v hn _ (h0 hn)
theorem cq_ans (hM : CM ax g) (hC : CC ax κ0 κ g L A T S J fm fc gv tm ms) (hB : allB A) (i : Int32) (Z : Int32 → mm_M → Prop)
    (h1 : ∀ (j : Nat) (x : Int32), i = nI j → A[j]? = some x → Z x (c_em ax κ g)) (h0 : (∀ j : Nat, j < A.length → ¬ i = nI j) → Z (-1) (c_em ax κ g)) : wq_Server_answer ge ax i (c_em ax κ g) Z := by
  obtain ⟨m0, m1⟩ := CM_0 hM
  have hb3 := CM_b3 hM
  unfold wq_Server_answer wq_Server_answer_0
  simp only [m0, m1, hb3.1, ck, cP0, true_and, Option.some.injEq, exists_eq_left']
  exact cq_at hb3 (by decide) rfl (by decide) κ hC.2.1.1 hB hC.2.1.2 _ _ h1 h0
theorem cq_word (hM : CM ax g) (hC : CC ax κ0 κ g L A T S J fm fc gv tm ms) (hB : allB A) (i : Int32) (Z : Int32 → mm_M → Prop)
    (h1 : ∀ j : Nat, j < 2 ^ 31 → i = nI j → Z (wv (tp A) j) (c_em ax κ g)) (h0 : i < 0 → Z 0 (c_em ax κ g)) : wq_Server_word ge ax i (c_em ax κ g) Z := by
  obtain ⟨m0, m1⟩ := CM_0 hM
  have hb3 := CM_b3 hM
  have hA1 := hC.2.1.2
  unfold wq_Server_word wq_Server_word_0 wq_Server_word_15
  refine ⟨h0, fun q => ?_⟩
  obtain ⟨j, hj, rfl⟩ := nI_of q
  have hz := h1 j hj rfl
  simp only [m0, m1, hb3.1, ck, cP0, true_and, Option.some.injEq, exists_eq_left']
  refine cq_size hb3 (by decide) κ _ ?_
  rw [hC.2.1.1.1, nI_ltI hj (by omega)]
  have t0 : ∀ k, A.length ≤ k → tp A k = 0 := fun k hk => by
    unfold tp
    rw [List.getD_eq_getElem?_getD, List.getElem?_eq_none hk]
    rfl
  refine ⟨fun hjl => ?_, fun hjl => ?_⟩
  · unfold lp_Server_word_21
    intro X hX
    have step : ∀ (k : Nat) (v : Int32), k < 4 → X ax (nI j) ((v <<< ((8 : Int32) &&& 31)) ||| tp A (j + k)) (nI k + (-1)) (c_em ax κ g) → X ax (nI j) v (nI k) (c_em ax κ g) := by
      intro k v hk hx
      refine hX _ _ _ _ _ ?_
      unfold wq_Server_word_21
      refine ⟨fun z => absurd z (nI_pos (by omega)), fun _ => ?_⟩
      simp only [m0, m1, hb3.1, ck, cP0, true_and, Option.some.injEq, exists_eq_left', nI_add]
      refine cq_at hb3 (by decide) rfl (by decide) κ hC.2.1.1 hB hA1 _ _ (fun l x el hl => ?_) (fun hn => ?_)
      · have hll := (List.getElem?_eq_some_iff.mp hl).1
        have := (nI_eq (by omega) (by omega)).mp el
        subst this
        rw [isB_max (hB x (List.mem_of_getElem? hl)), ← tp_some hl]
        exact hx
      · have hk2 : A.length ≤ j + k := Nat.le_of_not_lt (fun z => hn (j + k) z rfl)
        rw [t0 _ hk2] at hx
        rw [if_neg (by decide)]
        exact hx
    have last : ∀ v : Int32, Z v (c_em ax κ g) → X ax (nI j) v (-1) (c_em ax κ g) := fun v hv => by
      refine hX _ _ _ _ _ ?_
      unfold wq_Server_word_21
      exact ⟨fun _ => hv, fun z => absurd (by decide) z⟩
    exact step 3 0 (by decide) (step 2 _ (by decide) (step 1 _ (by decide) (step 0 _ (by decide) (last _ hz))))
  · have : wv (tp A) j = 0 := by
      unfold wv
      rw [t0 _ (by omega), t0 _ (by omega), t0 _ (by omega), t0 _ (by omega)]
      decide
    rw [this] at hz
    exact hz
/-- what file tells -/
noncomputable def filV (Tr : sT) (p : Nat) (f : sF) (what : Int32) : Int32 := if what = 0 then f_in f else if what = 1 then f_vs f else if what = 2 then f_md f else if what = 3 then f_mt f else if what = 4 then cif (0 ≤ f_md f) (nI (f_dt f).length) (nI (cnt (inD Tr (nI p)) 60)) else if what = 5 then nI (f_nm f).length else -9
theorem cq_file (hM : CM ax g) (hC : CC ax κ0 κ g L A T S J fm fc gv tm ms) (tree path what : Int32) (Z : Int32 → mm_M → Prop)
    (h1 : ∀ (t p : Nat) (Tr : sT) (f : sF), t ≤ S.length → p < 60 → tree = nI t - 1 → path = nI p → trOf T S t = some Tr → Tr p = some f → Z (filV Tr p f what) (c_em ax κ g)) (h0 : (∀ (t p : Nat) (Tr : sT), t ≤ S.length → p < 60 → tree = nI t - 1 → path = nI p → trOf T S t = some Tr → Tr p = none) → Z (-9) (c_em ax κ g)) : wq_Server_file ge ax tree path what (c_em ax κ g) Z := by
  obtain ⟨m0, m1⟩ := CM_0 hM
  have hS6 := hC.2.2.2.2.1.1
  have none_ : ∀ v4 : Option Nat, (∀ (t p : Nat) (Tr : sT), t ≤ S.length → p < 60 → tree = nI t - 1 → path = nI p → trOf T S t = some Tr → Tr p = none) → wq_Server_file_22 ge path what v4 none (c_em ax κ g) Z := fun v4 h => by
    unfold wq_Server_file_22
    exact ⟨fun a y => absurd y (by simp), fun _ => h0 h⟩
  have fin : ∀ (b t : Nat) (Tr : sT), tre ax κ g b Tr → t ≤ S.length → tree = nI t - 1 → trOf T S t = some Tr → (∀ a4, some b = some a4 → ∃ a5, some b = some a5 ∧ mm_k (c_em ax κ g) a5 = kd_Tree ∧ wq_Tree_at ge a5 path (c_em ax κ g) (fun r9 h8 => wq_Server_file_22 ge path what (some b) r9 h8 Z)) ∧ (some b = none → wq_Server_file_22 ge path what (some b) none (c_em ax κ g) Z) := by
    intro b t Tr htr htl het hto
    have tu : ∀ t', t' ≤ S.length → tree = nI t' - 1 → t' = t := fun t' ht' e => by
      have e2 : nI t' = nI t := by
        have h3 : nI t' - 1 + 1 = nI t - 1 + 1 := by rw [← e, ← het]
        rw [Int32.sub_add_cancel, Int32.sub_add_cancel] at h3
        exact h3
      exact (nI_eq (by omega) (by omega)).mp e2
    refine ⟨fun a4 _ => ⟨b, rfl, htr.1, cq_tat htr _ _ (fun p a f hp e hf hn => ?_) (fun hn => none_ _ (fun t' p' Tr' ht' hp' het' hep' hto' => ?_))⟩, fun y => absurd y (by simp)⟩
    · obtain ⟨hok, haz, an, ad, hz1, hz2, k1, k2, k3, k4, k5, k6, k7, k8, k9, k10⟩ := hn
      have hN : ndH (c_em ax κ g) a p f an ad := ndH_em haz.1 hz1.1 hz2.1.1 ⟨k1, k2, k3, k4, k5, k6, k7, k8, k9, k10⟩ κ
      have hz := h1 t p Tr f htl hp het e hto hf
      unfold wq_Server_file_22 wq_Server_file_119
      unfold filV at hz
      refine ⟨fun a1 _ => ?_, fun y => absurd y (by simp)⟩
      simp only [k1, k4, k8, k9.1, k9.2.1, k10.1, k10.2.1, ck, cn, toI, cIf haz.1, cPf haz.1, k3, k5, k6, k7, true_and, Option.some.injEq, exists_eq_left']
      refine ⟨fun q => ?_, fun q => ?_, fun q => ?_, fun q => ?_, fun q => ?_, fun q => ?_, fun q => ?_⟩
      · rw [if_pos q] at hz; exact hz
      · rw [if_neg (by rw [q]; decide), if_pos q] at hz; exact hz
      · rw [if_neg (by rw [q]; decide), if_neg (by rw [q]; decide), if_pos q] at hz; exact hz
      · rw [if_neg (by rw [q]; decide), if_neg (by rw [q]; decide), if_neg (by rw [q]; decide), if_pos q] at hz; exact hz
      · rw [if_neg (by rw [q]; decide), if_neg (by rw [q]; decide), if_neg (by rw [q]; decide), if_neg (by rw [q]; decide), if_pos q] at hz
        refine nq_isDir hN _ ?_
        by_cases hd : 0 ≤ f_md f
        · rw [if_pos hd]
          rw [cif_y hd] at hz
          refine ⟨fun _ => ?_, fun y => absurd rfl y⟩
          simp only [k1, k8, k10.1, k10.2.1, ck, cn, cPf haz.1, true_and, Option.some.injEq, exists_eq_left']
          exact hz
        · rw [if_neg hd]
          rw [cif_n hd] at hz
          refine ⟨fun y => absurd y (by decide), fun _ => ⟨htr.1, ?_⟩⟩
          rw [e]
          exact cq_tsizeOf htr _ _ hz
      · rw [if_neg (by rw [q]; decide), if_neg (by rw [q]; decide), if_neg (by rw [q]; decide), if_neg (by rw [q]; decide), if_neg (by rw [q]; decide), if_pos q] at hz; exact hz
      · obtain ⟨q0, q1, q2, q3, q4, q5⟩ := q
        rw [if_neg q0, if_neg q1, if_neg q2, if_neg q3, if_neg q4, if_neg q5] at hz; exact hz
    · have := tu t' ht' het'
      subst this
      rw [hto] at hto'
      cases hto'
      exact hn p' hp' hep'
  unfold wq_Server_file wq_Server_file_0
  refine ⟨m0, cq_treeOf hM hC.2.2.1 hC.2.2.2.2.1 _ _ (fun e => ?_) (fun k b T' ne e hk hs => ?_) (fun ne hn => ?_)⟩
  · exact fin _ 0 T (tre_live hM hC.2.2.1) (by omega) (by rw [e]; decide) (by unfold trOf; rw [if_pos rfl])
  · have hkl : k < S.length := (List.getElem?_eq_some_iff.mp hk).1
    exact fin b (k + 1) T' (tre_s hs κ) (by omega) (by rw [e, nI_m1]) (by unfold trOf; rw [if_neg (by omega)]; exact hk)
  · refine ⟨fun a4 y => absurd y (by simp), fun _ => none_ _ (fun t p Tr ht hp het hep hto => ?_)⟩
    exfalso
    by_cases z : t = 0
    · rw [z] at het; exact ne (by rw [het]; decide)
    · obtain ⟨j, ej⟩ : ∃ j, t = j + 1 := ⟨t - 1, by omega⟩
      exact hn j (by omega) (by rw [het, ej, nI_m1])
/-- what fid tells -/
noncomputable def fidV (T : sT) (S : List sT) (d : sD) (what : Int32) : Int32 := if what = 0 then nI (d_t d) - 1 else if what = 1 then nI (d_p d) else if what = 2 then cif (0 ≤ d_m d) 1 0 else if what = 3 then cif (0 ≤ d_m d) (d_m d) 0 else if what = 4 then cif (fileOf T S d = none) 1 0 else -9
theorem cq_fid (hM : CM ax g) (hC : CC ax κ0 κ g L A T S J fm fc gv tm ms) (hI : Iv T S J fm fc gv ms) (number what : Int32) (Z : Int32 → mm_M → Prop)
    (h1 : ∀ d, fm number = some d → Z (fidV T S d what) (c_em ax κ g)) (h0 : fm number = none → Z (-9) (c_em ax κ g)) : wq_Server_fid ge ax number what (c_em ax κ g) Z := by
  obtain ⟨m0, m1⟩ := CM_0 hM
  unfold wq_Server_fid wq_Server_fid_0 wq_Server_fid_74 wq_Server_fid_93
  simp only [m0, m1, (CM_f hM).1, ck, cP0, true_and, Option.some.injEq, exists_eq_left']
  refine cq_find hM κ hC.2.2.2.2.2.1 _ _ (fun i d hi hu hx hfo hcr => ⟨fun a7 _ => ?_, fun y => absurd y (by simp)⟩) (fun hfo => ⟨fun a7 y => absurd y (by simp), fun _ => h0 hfo⟩)
  have hz := h1 d hfo
  have mf := ((CM_f hM).2 i hi).2
  obtain ⟨co1, co2⟩ := crow_open hcr
  obtain ⟨f1, f2, f3, f4, f5⟩ := hI.2.2.2.1 _ d hfo
  simp only [mf, ck, cI ax (8 + i) (by omega), true_and, Option.some.injEq, exists_eq_left']
  unfold fidV at hz
  refine ⟨fun q => ?_, fun q => ?_, fun q => ?_, fun q => ?_, fun q => ?_, fun q => ?_⟩
  · rw [if_pos q] at hz; rw [hcr.1]; exact hz
  · rw [if_neg (by rw [q]; decide), if_pos q] at hz; rw [hcr.2.1]; exact hz
  · rw [if_neg (by rw [q]; decide), if_neg (by rw [q]; decide), if_pos q] at hz
    refine ⟨fun y => ?_, fun y => ?_⟩
    · rw [cif_n (co1.mp y)] at hz; exact hz
    · rw [cif_y (Decidable.not_not.mp (fun w => y (co1.mpr w)))] at hz; exact hz
  · rw [if_neg (by rw [q]; decide), if_neg (by rw [q]; decide), if_neg (by rw [q]; decide), if_pos q] at hz
    rcases hcr.2.2.1 with y | y
    · rw [cif_n (by rw [y.2.1]; decide)] at hz; rw [y.2.2.1]; exact hz
    · rw [cif_y y.2.1] at hz; rw [y.2.2]; exact hz
  · rw [if_neg (by rw [q]; decide), if_neg (by rw [q]; decide), if_neg (by rw [q]; decide), if_neg (by rw [q]; decide), if_pos q] at hz
    refine ⟨m0, cq_nodeOf hM hC.2.2.1 hC.2.2.2.2.1 hi hcr f1 f2 _ (fun a f Tr hTr hf hn => ⟨fun a23 _ => ?_, fun y => absurd y (by simp)⟩) (fun hn => ⟨fun a23 y => absurd y (by simp), fun _ => ?_⟩)⟩
    · rw [cif_n (by unfold fileOf; rw [hTr]; simp only; rw [hf]; simp)] at hz; exact hz
    · obtain ⟨Tr, hTr⟩ := trOf_some (T := T) f2
      rw [cif_y (by unfold fileOf; rw [hTr]; exact hn Tr hTr)] at hz; exact hz
  · obtain ⟨q0, q1, q2, q3, q4⟩ := q
    rw [if_neg q0, if_neg q1, if_neg q2, if_neg q3, if_neg q4] at hz; exact hz
end PB
