/-! the class: message -/
def ansL (ty tag : Int32) (B : List Int32) : List Int32 := le 4 (nI (7 + B.length)).toInt64 ++ (le 1 ty.toInt64 ++ le 2 tag.toInt64 ++ B)
def headL (ty tag : Int32) : List Int32 := le 4 0 ++ (le 1 ty.toInt64 ++ le 2 tag.toInt64)
theorem headL_len (ty tag : Int32) : (headL ty tag).length = 7 := by simp [headL, le_len]
theorem ansL_len (ty tag : Int32) (B : List Int32) : (ansL ty tag B).length = 7 + B.length := by simp [ansL, le_len]; omega
def errL (k : Int32) : List Int32 := le 2 1 ++ le 1 ((48 : Int32) + k).toInt64
theorem errL_len (k : Int32) : (errL k).length = 3 := by simp [errL, le_len]
section HM
variable {ge : Nat → Nat} {ax : Nat} {κ0 κ : cS} {g : mm_M} {L A : List Int32} {T : sT} {S J : List sT} {fm : sM} {fc gv : Nat} {tm : Int32} {ms : Nat}
theorem CC_clr (h : CC ax κ0 κ g L A T S J fm fc gv tm ms) : CC ax κ0 (c_u κ 3 1 0) g L [] T S J fm fc gv tm ms := by
  obtain ⟨h1, h2, h3, h4, h5, h6, ⟨h7, h8, h9⟩, h10, h11, h12⟩ := h
  have e : ∀ o j, ¬ o = 3 → (c_u κ 3 1 0).1 o j = κ.1 o j := fun o j ho => by rw [cu1, if_neg (fun z => ho z.1)]
  refine ⟨⟨c_L_of (fun j => e _ _ (by decide)) (e _ _ (by decide)) h1.1, h1.2⟩, ⟨⟨by rw [cu1, if_pos ⟨rfl, rfl⟩]; rfl, fun j x hj => by simp at hj⟩, by simp⟩, h3, Cjn_of (κ := κ) (e _ _ (by decide)) (e _ _ (by decide)) (fun i j _ => rfl) h4, Csn_of (κ := κ) (e _ _ (by decide)) (fun j => rfl) h5, Cfd_of (fun o j a b => e _ _ (by omega)) h6, ⟨?_, ?_, ?_⟩, ?_, ?_, fun o j ho => (e _ _ (by omega)).trans (h12 o j ho)⟩
  all_goals (rw [e _ _ (by decide)]; assumption)
theorem CC_tape (h : CC ax κ0 κ g L A T S J fm fc gv tm ms) : CC ax κ0 (c_u κ 1 1 0) g [] A T S J fm fc gv tm ms := by
  obtain ⟨h1, h2, h3, h4, h5, h6, ⟨h7, h8, h9⟩, h10, h11, h12⟩ := h
  have e : ∀ o j, ¬ o = 1 → (c_u κ 1 1 0).1 o j = κ.1 o j := fun o j ho => by rw [cu1, if_neg (fun z => ho z.1)]
  refine ⟨⟨⟨by rw [cu1, if_pos ⟨rfl, rfl⟩]; rfl, fun j x hj => by simp at hj⟩, allB_nil, by simp⟩, ⟨c_L_of (fun j => e _ _ (by decide)) (e _ _ (by decide)) h2.1, h2.2⟩, h3, Cjn_of (κ := κ) (e _ _ (by decide)) (e _ _ (by decide)) (fun i j _ => rfl) h4, Csn_of (κ := κ) (e _ _ (by decide)) (fun j => rfl) h5, Cfd_of (fun o j a b => e _ _ (by omega)) h6, ⟨?_, ?_, ?_⟩, ?_, ?_, fun o j ho => (e _ _ (by omega)).trans (h12 o j ho)⟩
  all_goals (rw [e _ _ (by decide)]; assumption)
/-- another start -/
theorem CC_re {κ1 : cS} (h : CC ax κ0 κ g L A T S J fm fc gv tm ms) (hr : rst κ1 κ) : CC ax κ1 κ g L A T S J fm fc gv tm ms := by
  obtain ⟨h1, h2, h3, h4, h5, h6, h7, h8⟩ := h
  exact ⟨h1, h2, h3, h4, h5, h6, h7, hr⟩
theorem rst_rf (κ : cS) : rst κ κ := ⟨rfl, rfl, fun _ _ _ => rfl⟩
/-- a counter of the server -/
theorem CC_ct {k : Nat} {v : Int32} (hk : ¬ k = 8 ∧ ¬ k = 9 ∧ ¬ k = 10) (h : CC ax κ0 κ g L A T S J fm fc gv tm ms) : CC ax (c_u κ 0 k v) (c_u κ 0 k v) g L A T S J fm fc gv tm ms := by
  obtain ⟨h1, h2, h3, h4, h5, h6, ⟨h7, h8, h9⟩, _⟩ := h
  have e : ∀ o j, (¬ o = 0 ∨ ¬ j = k) → (c_u κ 0 k v).1 o j = κ.1 o j := fun o j ho => by rw [cu1, if_neg (fun z => ho.elim (fun q => q z.1) (fun q => q z.2))]
  exact ⟨⟨c_L_of (fun j => e _ _ (by simp)) (e _ _ (by simp)) h1.1, h1.2⟩, ⟨c_L_of (fun j => e _ _ (by simp)) (e _ _ (by simp)) h2.1, h2.2⟩, h3, Cjn_of (κ := κ) (e _ _ (by simp)) (e _ _ (by simp)) (fun i j _ => rfl) h4, Csn_of (κ := κ) (e _ _ (by simp)) (fun j => rfl) h5, Cfd_of (fun o j a b => e _ _ (Or.inl (by omega))) h6, ⟨(e _ _ (Or.inr (fun z => hk.1 z.symm))).trans h7, (e _ _ (Or.inr (fun z => hk.2.1 z.symm))).trans h8, (e _ _ (Or.inr (fun z => hk.2.2 z.symm))).trans h9⟩, rst_rf _⟩
theorem CC_tm {v : Int32} (h : CC ax κ0 κ g L A T S J fm fc gv tm ms) : CC ax (c_u κ 0 9 v) (c_u κ 0 9 v) g L A T S J fm fc gv v ms := by
  obtain ⟨h1, h2, h3, h4, h5, h6, ⟨h7, h8, h9⟩, _⟩ := h
  have e : ∀ o j, (¬ o = 0 ∨ ¬ j = 9) → (c_u κ 0 9 v).1 o j = κ.1 o j := fun o j ho => by rw [cu1, if_neg (fun z => ho.elim (fun q => q z.1) (fun q => q z.2))]
  exact ⟨⟨c_L_of (fun j => e _ _ (by simp)) (e _ _ (by simp)) h1.1, h1.2⟩, ⟨c_L_of (fun j => e _ _ (by simp)) (e _ _ (by simp)) h2.1, h2.2⟩, h3, Cjn_of (κ := κ) (e _ _ (by simp)) (e _ _ (by simp)) (fun i j _ => rfl) h4, Csn_of (κ := κ) (e _ _ (by simp)) (fun j => rfl) h5, Cfd_of (fun o j a b => e _ _ (Or.inl (by omega))) h6, ⟨(e _ _ (by simp)).trans h7, by rw [cu1, if_pos ⟨rfl, rfl⟩], (e _ _ (by simp)).trans h9⟩, rst_rf _⟩
theorem cq_start (hM : CM ax g) (hg : ge 0 ≤ ax) (hC : CC ax κ0 κ g L A T S J fm fc gv tm ms) (ty : Int32) {tag : Int32} (htag : κ.1 5 6 = tag) (Z : mm_M → Prop) (hZ : ∀ κ', CC ax κ0 κ' g L (headL ty tag) T S J fm fc gv tm ms → (∀ j, κ'.1 5 j = κ.1 5 j) → κ'.2.1 = κ.2.1 → Z (c_em ax κ' g)) : wq_Server_startReply ge ax ty (c_em ax κ g) Z := by
  obtain ⟨m0, m1⟩ := CM_0 hM
  have hb3 := CM_b3 hM
  unfold wq_Server_startReply wq_Server_startReply_0
  simp only [m0, m1, hb3.1, ck, cP0, true_and, Option.some.injEq, exists_eq_left']
  refine cq_clear hb3 hg (by decide) κ _ ?_
  have C1 := CC_clr hC
  simp only [m0, m1, hb3.1, ck, cP0, true_and, Option.some.injEq, exists_eq_left']
  refine cq_put (n := 4) hb3 hg (by decide) rfl (by decide) _ C1.2.1.1.1 (by simp) _ _ ?_
  have C2 := CC_ap (B := le 4 0) C1 (by rw [le_len]; simp)
  simp only [m0, m1, hb3.1, ck, cP0, true_and, Option.some.injEq, exists_eq_left']
  refine cq_put (n := 1) hb3 hg (by decide) rfl (by decide) _ C2.2.1.1.1 (by simp [le_len]) _ _ ?_
  have C3 := CC_ap (B := le 1 ty.toInt64) C2 (by simp [le_len])
  have e3 : ∀ j, (c_ap (c_ap (c_u κ 3 1 0) 3 (le 4 0)) 3 (le 1 ty.toInt64)).1 5 j = κ.1 5 j := fun j => by
    rw [c_ap_o (Or.inl (by decide)) (by decide), c_ap_o (Or.inl (by decide)) (by decide), cu1, if_neg (by simp)]
  simp only [m0, m1, (CM_q hM).1, hb3.1, ck, cP0, cI ax 5 (by decide), e3, htag, true_and, Option.some.injEq, exists_eq_left']
  refine cq_put (n := 2) hb3 hg (by decide) rfl (by decide) _ C3.2.1.1.1 (by simp [le_len]) _ _ ?_
  have C4 := CC_ap (B := le 2 tag.toInt64) C3 (by simp [le_len])
  refine hZ _ ?_ (fun j => by rw [c_ap_o (Or.inl (by decide)) (by decide)]; exact e3 j) (by rw [c_ap_2, c_ap_2, c_ap_2]; rfl)
  unfold headL
  rw [List.nil_append, List.append_assoc] at C4
  exact C4
/-- the end of an answer: its length is set, the tape is empty -/
theorem cq_mend (hM : CM ax g) (hg : ge 0 ≤ ax) {ty tag : Int32} {B : List Int32} (hC : CC ax κ0 κ g L (headL ty tag ++ B) T S J fm fc gv tm ms) (r : Int32) (hr : ¬ r = 0) (Z : Int32 → mm_M → Prop) (hZ : ∀ κ', CC ax κ0 κ' g [] (ansL ty tag B) T S J fm fc gv tm ms → Z (nI (7 + B.length)) (c_em ax κ' g)) : wq_Server_message_101 ge ax r (c_em ax κ g) Z := by
  obtain ⟨m0, m1⟩ := CM_0 hM
  have hb3 := CM_b3 hM
  have hb1 := CM_b1 hM
  have hl : (headL ty tag ++ B).length = 7 + B.length := by rw [List.length_append, headL_len]
  have hA1 := hC.2.1.2
  rw [hl] at hA1
  unfold wq_Server_message_101
  simp only [m0, m1, hb3.1, ck, cP0, true_and, Option.some.injEq, exists_eq_left']
  refine cq_size hb3 (by decide) κ _ ?_
  have hlen := hC.2.1.1.1
  rw [hl] at hlen
  rw [hlen]
  simp only [hb3.1, ck, true_and]
  refine cq_set (i := 0) (n := 4) hb3 hg (by decide) rfl (by decide) _ hlen (by omega) (by omega) _ _ ?_
  have hC' : CC ax κ0 κ g L ([] ++ le 4 0 ++ (le 1 ty.toInt64 ++ le 2 tag.toInt64 ++ B)) T S J fm fc gv tm ms := by
    have : [] ++ le 4 0 ++ (le 1 ty.toInt64 ++ le 2 tag.toInt64 ++ B) = headL ty tag ++ B := by
      unfold headL
      simp only [List.nil_append, List.append_assoc]
    rw [this]
    exact hC
  have C1 := CC_st (v := nI (7 + B.length)) hC' (le_len 4 0) (by decide)
  obtain ⟨κ1, e1⟩ : ∃ κ1, κ1 = c_st 3 0 (nI (7 + B.length)) 0 4 κ := ⟨_, rfl⟩
  have C1' : CC ax κ0 κ1 g L (ansL ty tag B) T S J fm fc gv tm ms := by rw [e1]; exact C1
  rw [← e1]
  unfold wq_Server_message_130 wq_Server_message_152
  simp only [m0, m1, hb1.1, ck, cP0, true_and, Option.some.injEq, exists_eq_left']
  refine cq_clear hb1 hg (by decide) κ1 _ ?_
  have C2 := CC_tape C1'
  refine ⟨fun z => absurd z hr, fun _ => ?_⟩
  simp only [m0, m1, hb3.1, ck, cP0, true_and, Option.some.injEq, exists_eq_left']
  refine cq_size hb3 (by decide) _ _ ?_
  have hl2 := C2.2.1.1.1
  rw [ansL_len] at hl2
  rw [hl2]
  exact hZ _ C2
theorem CC_5r {κ' : cS} {F : List Nat} (f : fr5 κ κ' F) (h : CC ax κ0 κ g L A T S J fm fc gv tm ms) : CC ax κ' κ' g L A T S J fm fc gv tm ms := by
  obtain ⟨h1, h2, h3, h4, h5, h6, ⟨h7, h8, h9⟩, _⟩ := h
  have e : ∀ o j, ¬ o = 5 → κ'.1 o j = κ.1 o j := fun o j ho => f.2.1 o j (fun z => ho z.1)
  have e22 : κ'.2.2 = κ.2.2 := f.1
  refine ⟨⟨c_L_of (fun j => e _ _ (by decide)) (e _ _ (by decide)) h1.1, h1.2⟩, ⟨c_L_of (fun j => e _ _ (by decide)) (e _ _ (by decide)) h2.1, h2.2⟩, by rw [e22]; exact h3, Cjn_of (e _ _ (by decide)) (e _ _ (by decide)) (fun i j _ => by rw [e22]) h4, Csn_of (e _ _ (by decide)) (fun j => by rw [e22]) h5, Cfd_of (fun o j a b => e _ _ (by omega)) h6, ⟨?_, ?_, ?_⟩, rst_rf _⟩
  all_goals (rw [e _ _ (by decide)]; assumption)
theorem RC_eq {κ κ' : cS} {e : Nat} {st : Option Nat} (i : ∀ j, κ'.1 5 j = κ.1 5 j) (h : RC κ e st) : RC κ' e st := by
  obtain ⟨r1, r2, a, r3, r4, r5⟩ := h
  exact ⟨(i 1).trans r1, (i 3).trans r2, a, r3, (i 2).trans r4, r5⟩
theorem Cms_eq {κ κ' : cS} {e : Nat} {ty : Int32} {s : Option Nat} (i : ∀ j, κ'.1 5 j = κ.1 5 j) (l : κ'.2.1 5 13 = κ.2.1 5 13) (h : Cms κ L e ty s) : Cms κ' L e ty s := by
  obtain ⟨a1, a2, a3, a4, a5, a6, a7, a8⟩ := h
  have cx : ∀ X, Ctx κ L X → Ctx κ' L X := fun X hX => Ctx_CC (i 14) (i 15) hX
  unfold Cms
  simp only [i, l]
  exact ⟨fun q => ⟨(a1 q).1, cx _ (a1 q).2⟩, fun q => ⟨(a2 q).1, cx _ (a2 q).2⟩, a3, a4, fun q => ⟨cx _ (a5 q).1, (a5 q).2⟩, a6, fun q => ⟨(a7 q).1, (a7 q).2.1, cx _ (a7 q).2.2⟩, fun q => ⟨(a8 q).1, (a8 q).2.1, (a8 q).2.2.1, cx _ (a8 q).2.2.2.1, (a8 q).2.2.2.2⟩⟩
set_option maxHeartbeats 2000000 in
theorem cq_msg (hM : CM ax g) (hK : CK ge ax g) (hC : CC ax κ κ g L A T S J fm fc gv tm ms) (hI : Iv T S J fm fc gv ms) (n : Int32) (hbody : ∀ e, e ≤ L.length → msg_ok L e → (spDo L e T S J fm fc gv (tm + 1) ms).2.1.length ≤ 993) (Z : Int32 → mm_M → Prop)
    (h2 : (∀ e : Nat, e ≤ L.length → ¬ n = nI e) → Z (-2) (c_em ax κ g))
    (h1 : ∀ (e : Nat) κ', e ≤ L.length → n = nI e → ¬ msg_ok L e → CC ax κ' κ' g [] A T S J fm fc gv tm ms → κ'.1 0 11 = κ.1 0 11 + 1 → κ'.1 0 12 = κ.1 0 12 → (∀ o j, 77 ≤ o → κ'.1 o j = κ.1 o j) → Z (-1) (c_em ax κ' g))
    (h0 : ∀ (e : Nat) κ' g', e ≤ L.length → n = nI e → msg_ok L e → ext g g' → CC ax κ' κ' g' [] (if (spDo L e T S J fm fc gv (tm + 1) ms).1 = 0 then ansL (tp L 4 + 1) (val (tp L) 5 2).toInt32 (spDo L e T S J fm fc gv (tm + 1) ms).2.1 else ansL 107 (val (tp L) 5 2).toInt32 (errL (spDo L e T S J fm fc gv (tm + 1) ms).1)) (spDo L e T S J fm fc gv (tm + 1) ms).2.2.1 S (spDo L e T S J fm fc gv (tm + 1) ms).2.2.2.2.2.2.2 (spDo L e T S J fm fc gv (tm + 1) ms).2.2.2.1 (spDo L e T S J fm fc gv (tm + 1) ms).2.2.2.2.1 (spDo L e T S J fm fc gv (tm + 1) ms).2.2.2.2.2.1 (tm + 1) (spDo L e T S J fm fc gv (tm + 1) ms).2.2.2.2.2.2.1 → κ'.1 0 11 = κ.1 0 11 → κ'.1 0 12 = (if (spDo L e T S J fm fc gv (tm + 1) ms).1 = 0 then κ.1 0 12 else κ.1 0 12 + 1) → (∀ o j, 77 ≤ o → κ'.1 o j = κ.1 o j) → Z (if (spDo L e T S J fm fc gv (tm + 1) ms).1 = 0 then nI (7 + (spDo L e T S J fm fc gv (tm + 1) ms).2.1.length) else nI 10) (c_em ax κ' g')) : wq_Server_message ge ax n (c_em ax κ g) Z := by
  have hg := hK.1
  obtain ⟨m0, m1⟩ := CM_0 hM
  have hb1 := CM_b1 hM
  have hb3 := CM_b3 hM
  have hL14 := hC.1.2.2
  unfold wq_Server_message wq_Server_message_0 wq_Server_message_15
  refine ⟨fun q => h2 (fun e he z => ?_), fun q => ?_⟩
  · rw [z] at q; exact absurd q (nI_pos (by omega))
  obtain ⟨e, he31, rfl⟩ := nI_of q
  simp only [m0, m1, hb1.1, ck, cP0, true_and, Option.some.injEq, exists_eq_left']
  refine cq_size hb1 (by decide) κ _ ?_
  rw [hC.1.1.1]
  simp only [m0, m1, (CM_q hM).1, ck, cP0, true_and, Option.some.injEq, exists_eq_left', nI_leI he31 (show L.length < 2 ^ 31 by omega)]
  refine ⟨fun he => ?_, fun he => h2 (fun e' he' z => he (by have := (nI_eq he31 (by omega)).mp z; omega))⟩
  refine cq_parse hM hg hC.1 he _ (fun κ1 f1 T1 hok g5 g6 g7 gR gm => ⟨fun z => absurd z (by decide), fun _ => ?_⟩) (fun κ1 f1 hno => ⟨fun _ => ?_, fun z => absurd rfl z⟩)
  · have C1 := CC_5r f1 hC
    have e1 : ∀ o j, ¬ o = 5 → κ1.1 o j = κ.1 o j := fun o j ho => f1.2.1 o j (fun z => ho z.1)
    have ptm : κ1.1 0 9 = tm := C1.2.2.2.2.2.2.1.2.1
    simp only [m0, m1, (CM_q hM).1, ck, cP0, cI0, cU0, hg, ptm, true_and, Option.some.injEq, exists_eq_left', forall_eq]
    have C2 := CC_tm (v := tm + 1) C1
    obtain ⟨κ2, e2⟩ : ∃ κ2, κ2 = c_u κ1 0 9 (tm + 1) := ⟨_, rfl⟩
    rw [← e2] at C2 ⊢
    have i2 : ∀ o j, ¬ o = 0 → κ2.1 o j = κ1.1 o j := fun o j ho => by rw [e2, cu1, if_neg (fun z => ho z.1)]
    have l2 : κ2.2.1 = κ1.2.1 := by rw [e2]; rfl
    have t6 : κ2.1 5 6 = (val (tp L) 5 2).toInt32 := (i2 _ _ (by decide)).trans g6
    have t5 : κ2.1 5 5 = tp L 4 := (i2 _ _ (by decide)).trans g5
    simp only [cI ax 5 (by decide), t5]
    refine cq_start hM hg C2 _ t6 _ (fun κ3 C3 i3 l3 => ⟨m0, ?_⟩)
    have j3 : ∀ j, κ3.1 5 j = κ1.1 5 j := fun j => (i3 j).trans (i2 _ _ (by decide))
    have k3 : κ3.2.1 5 13 = κ1.2.1 5 13 := by rw [l3, l2]
    refine cq_serve hM hK C3 (headL_len _ _) hI he hok ((j3 5).trans g5) (fun hn => (j3 7).trans (g7 hn)) (RC_eq j3 gR) (Cms_eq j3 k3 gm) _ (fun κ4 g4 hO => ?_)
    obtain ⟨x4, A4, hA4, C4⟩ := hO
    have hM4 := CM_ext hM x4
    obtain ⟨w0, w1⟩ := CM_0 hM4
    have hb4 := CM_b3 hM4
    have base : ∀ o j, (77 ≤ o ∨ (o = 0 ∧ (j = 11 ∨ j = 12))) → κ2.1 o j = κ.1 o j := fun o j ho => by
      rw [e2, cu1, if_neg (by omega), e1 _ _ (by omega)]
    have hh := h0 e
    generalize spDo L e T S J fm fc gv (tm + 1) ms = R at hh hA4 C4 hbody ⊢
    have hb9 := hbody e he hok
    refine ⟨fun z => ?_, fun z => ?_⟩
    · rw [hA4 z] at C4
      refine cq_mend hM4 hg C4 1 (by decide) _ (fun κ' C' => ?_)
      have := hh κ' g4 he rfl hok x4
      rw [if_pos z, if_pos z, if_pos z] at this
      exact this (CC_re C' (rst_rf _)) (C'.2.2.2.2.2.2.2.1.trans (base _ _ (by simp))) (C'.2.2.2.2.2.2.2.2.1.trans (base _ _ (by simp))) (fun o j ho => (C'.2.2.2.2.2.2.2.2.2 o j (Or.inl ho)).trans (base _ _ (Or.inl ho)))
    · have p12 : κ4.1 0 12 = κ.1 0 12 := C4.2.2.2.2.2.2.2.2.1.trans (base _ _ (by simp))
      have p11 : κ4.1 0 11 = κ.1 0 11 := C4.2.2.2.2.2.2.2.1.trans (base _ _ (by simp))
      have p56 : κ4.1 5 6 = (val (tp L) 5 2).toInt32 := (C4.2.2.2.2.2.2.2.2.2 5 6 (Or.inr ⟨rfl, rfl⟩)).trans t6
      simp only [w0, ck, cI0, cU0, hg, p12, true_and, forall_eq]
      have C5 := CC_ct (k := 12) (v := κ.1 0 12 + 1) (by decide) C4
      obtain ⟨κ5, e5⟩ : ∃ κ5, κ5 = c_u κ4 0 12 (κ.1 0 12 + 1) := ⟨_, rfl⟩
      rw [← e5] at C5 ⊢
      have i5 : ∀ o j, (¬ o = 0 ∨ ¬ j = 12) → κ5.1 o j = κ4.1 o j := fun o j ho => by rw [e5, cu1, if_neg (fun z => ho.elim (fun q => q z.1) (fun q => q z.2))]
      refine cq_start hM4 hg C5 _ ((i5 _ _ (by simp)).trans p56) _ (fun κ6 C6 i6 l6 => ?_)
      simp only [w0, w1, hb4.1, ck, cP0, true_and, Option.some.injEq, exists_eq_left']
      refine cq_put (n := 2) hb4 hg (by decide) rfl (by decide) _ C6.2.1.1.1 (by rw [headL_len]; decide) _ _ ?_
      have C7 := CC_ap (B := le 2 1) C6 (by rw [headL_len, le_len]; decide)
      simp only [w0, w1, hb4.1, ck, cP0, true_and, Option.some.injEq, exists_eq_left']
      refine cq_put (n := 1) hb4 hg (by decide) rfl (by decide) _ C7.2.1.1.1 (by rw [List.length_append, headL_len, le_len]; decide) _ _ ?_
      have C8 := CC_ap (B := le 1 ((48 : Int32) + R.1).toInt64) C7 (by rw [List.length_append, headL_len, le_len, le_len]; decide)
      rw [List.append_assoc] at C8
      refine cq_mend (B := errL R.1) hM4 hg C8 1 (by decide) _ (fun κ' C' => ?_)
      have := hh κ' g4 he rfl hok x4
      rw [if_neg z, if_neg z, if_neg z] at this
      rw [errL_len]
      refine this (CC_re C' (rst_rf _)) (C'.2.2.2.2.2.2.2.1.trans ((i5 _ _ (by simp)).trans p11)) (C'.2.2.2.2.2.2.2.2.1.trans (by rw [e5, cu1, if_pos ⟨rfl, rfl⟩])) (fun o j ho => ?_)
      rw [C'.2.2.2.2.2.2.2.2.2 o j (Or.inl ho), i5 _ _ (Or.inl (by omega)), C4.2.2.2.2.2.2.2.2.2 o j (Or.inl ho), base _ _ (Or.inl ho)]
  · have C1 := CC_5r f1 hC
    have e1 : ∀ o j, ¬ o = 5 → κ1.1 o j = κ.1 o j := fun o j ho => f1.2.1 o j (fun z => ho z.1)
    simp only [m0, ck, cI0, cU0, hg, true_and, forall_eq]
    have C2 := CC_ct (k := 11) (v := κ1.1 0 11 + 1) (by decide) C1
    unfold wq_Server_message_130 wq_Server_message_152
    simp only [m0, m1, hb1.1, ck, cP0, true_and, Option.some.injEq, exists_eq_left']
    refine cq_clear hb1 hg (by decide) _ _ ⟨fun _ => ?_, fun z => absurd trivial z⟩
    have C3 := CC_tape C2
    refine h1 e _ he rfl hno (CC_re C3 (rst_rf _)) ?_ ?_ (fun o j ho => ?_)
    · rw [cu1, if_neg (by simp), cu1, if_pos ⟨rfl, rfl⟩, e1 _ _ (by decide)]
    · rw [cu1, if_neg (by simp), cu1, if_neg (by simp), e1 _ _ (by decide)]
    · rw [cu1, if_neg (by omega), cu1, if_neg (by omega), e1 _ _ (by omega)]
end HM
