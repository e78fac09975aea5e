/-! the class reads a message: by its type -/
noncomputable def bd2 (t : Nat → Int32) (e : Nat) (ty : Int32) (s : Option Nat) : Option Nat :=
  if ty = 100 then qt t e (qn e 4 s)
  else if ty = 102 then qt t e (qt t e (qn e 4 s))
  else if ty = 104 then qt t e (qt t e (qn e 4 s))
  else if ty = 108 then qn e 2 s
  else if ty = 110 then qts t e (tl t (at0 (qn e 4 s))) (qn e 2 (qn e 4 s))
  else if ty = 112 then qn e 1 s
  else if ty = 114 then qn e 1 (qn e 4 (qt t e s))
  else if ty = 116 then qn e 4 (qn e 8 s)
  else if ty = 118 then qd t e (qn e 8 s)
  else if ty = 120 then s
  else if ty = 122 then s
  else if ty = 124 then s
  else if ty = 126 then qst t e s
  else none
def known (ty : Int32) : Prop := ty = 100 ∨ ty = 102 ∨ ty = 104 ∨ ty = 108 ∨ ty = 110 ∨ ty = 112 ∨ ty = 114 ∨ ty = 116 ∨ ty = 118 ∨ ty = 120 ∨ ty = 122 ∨ ty = 124 ∨ ty = 126
/-- the fields of the request, by type -/
def Cms (κ : cS) (L : List Int32) (e : Nat) (ty : Int32) (s : Option Nat) : Prop :=
  (ty = 100 → κ.1 5 8 = (val (tp L) (at0 s) 4).toInt32 ∧ Ctx κ L (txt L (qn e 4 s))) ∧
  (ty = 104 → κ.1 5 8 = (val (tp L) (at0 s) 4).toInt32 ∧ Ctx κ L (txt L (qt (tp L) e (qn e 4 s)))) ∧
  (ty = 110 → κ.1 5 8 = (val (tp L) (at0 s) 4).toInt32 ∧ κ.1 5 9 = nI (tl (tp L) (at0 (qn e 4 s))) ∧ κ.1 5 4 = nI (at0 (qn e 2 (qn e 4 s)))) ∧
  (ty = 112 → κ.1 5 10 = (val (tp L) (at0 s) 1).toInt32) ∧
  (ty = 114 → Ctx κ L (txt L s) ∧ κ.1 5 11 = (val (tp L) (at0 (qt (tp L) e s)) 4).toInt32 ∧ κ.1 5 10 = (val (tp L) (at0 (qn e 4 (qt (tp L) e s))) 1).toInt32) ∧
  (ty = 116 → κ.2.1 5 13 = val (tp L) (at0 s) 8 ∧ κ.1 5 9 = nI (c4 (tp L) (at0 (qn e 8 s)))) ∧
  (ty = 118 → κ.2.1 5 13 = val (tp L) (at0 s) 8 ∧ κ.1 5 9 = nI (c4 (tp L) (at0 (qn e 8 s))) ∧ Ctx κ L (slc L (at0 (qn e 8 s) + 4) (c4 (tp L) (at0 (qn e 8 s))))) ∧
  (ty = 126 → κ.1 5 11 = (val (tp L) (at0 (st3 e s)) 4).toInt32 ∧ κ.1 5 12 = (val (tp L) (at0 (st5 e s)) 4).toInt32 ∧ κ.2.1 5 13 = val (tp L) (at0 (st6 e s)) 8 ∧ Ctx κ L (txt L (st7 e s)) ∧ (¬ κ.1 5 16 = 0 ↔ restO (tp L) e s))
theorem Cms_no (κ : cS) (L : List Int32) (e : Nat) {ty : Int32} (s : Option Nat) (h : ty = 102 ∨ ty = 108 ∨ ty = 120 ∨ ty = 122 ∨ ty = 124) : Cms κ L e ty s := by
  rcases h with h | h | h | h | h <;> subst h <;> refine ⟨fun z => absurd z (by decide), fun z => absurd z (by decide), fun z => absurd z (by decide), fun z => absurd z (by decide), fun z => absurd z (by decide), fun z => absurd z (by decide), fun z => absurd z (by decide), fun z => absurd z (by decide)⟩
abbrev S16 : List Nat := [2, 3, 4, 7, 8, 9, 10, 11, 12, 13, 14, 15, 16]
section RQ4
variable {ge : Nat → Nat} {ax : Nat} {g : mm_M}
set_option maxHeartbeats 4000000 in
theorem cq_body (hM : CM ax g) (hg : ge 0 ≤ ax) {κ : cS} {L : List Int32} (hT : Ctp κ L) {e : Nat} {s : Option Nat} (he : e ≤ L.length) (hR : RC κ e s) (x : Int32) {ty : Int32} (hty : κ.1 5 5 = ty) (Z : Int32 → mm_M → Prop)
    (h1 : ∀ κ', fr5 κ κ' S16 → Ctp κ' L → RC κ' e (bd2 (tp L) e ty s) → κ'.1 5 7 = x → (∀ b, bd2 (tp L) e ty s = some b → Cms κ' L e ty s) → known ty → Z 1 (c_em ax κ' g))
    (h0 : ∀ κ', fr5 κ κ' S16 → ¬ known ty → Z 0 (c_em ax κ' g)) : wq_Request_parseBody_37 ge (ax + 5) (some (ax + 5)) x (c_em ax κ g) Z := by
  have m1 := (CM_q hM).1
  unfold wq_Request_parseBody_37 wq_Request_parseBody_319
  simp only [m1, ck, cI ax 5 (by decide), cU ax 5 (by decide), geo hg, true_and, Option.some.injEq, exists_eq_left', forall_eq]
  obtain ⟨κ0, e0⟩ : ∃ κ0, κ0 = c_u κ 5 7 x := ⟨_, rfl⟩
  rw [← e0]
  have f0 : fr5 κ κ0 [7] := by rw [e0]; exact fr5_u _ _ _
  have R0 : RC κ0 e s := by rw [e0]; exact RC_u hR (by decide) (by decide) (by decide) _
  have T0 : Ctp κ0 L := Ctp_5 f0 hT
  have t0 : κ0.1 5 5 = ty := by rw [fr5_i f0 (by decide)]; exact hty
  have p7 : κ0.1 5 7 = x := by rw [e0, cu1, if_pos ⟨rfl, rfl⟩]
  rw [t0]
  refine ⟨fun q => ?_, fun q => ?_, fun q => ?_, fun q => ?_, fun q => ?_, fun q => ?_, fun q => ?_, fun q => ?_, fun q => ?_, fun q => ?_, fun q => ?_, fun q => ?_, fun q => ?_, fun q => ?_⟩
  · -- 100
    subst q
    have hb : bd2 (tp L) e 100 s = qt (tp L) e (qn e 4 s) := rfl
    rw [hb] at h1
    refine cq_N hM hg T0 he R0 4 (by decide) (by decide) _ (fun κ1 v1 f1 T1 R1 V1 => ?_)
    simp only [m1, ck, cU ax 5 (by decide), geo hg, true_and, forall_eq]
    have f1u := fr5_tr f1 (fr5_u κ1 8 v1)
    refine cq_T hM hg (Ctp_5 f1u T0) he (RC_u R1 (by decide) (by decide) (by decide) v1) _ (fun κ2 f2 T2 R2 V2 => ?_)
    refine h1 κ2 (fr5_mono (fr5_tr f0 (fr5_tr f1u f2)) (by decide)) T2 R2 (by rw [fr5_i f2 (by decide), fr5_i f1u (by decide), p7]) (fun b hb => ?_) (Or.inl rfl)
    refine ⟨fun _ => ⟨?_, (V2 b hb).1⟩, fun z => absurd z (by decide), fun z => absurd z (by decide), fun z => absurd z (by decide), fun z => absurd z (by decide), fun z => absurd z (by decide), fun z => absurd z (by decide), fun z => absurd z (by decide)⟩
    rw [fr5_i f2 (by decide), cu1, if_pos ⟨rfl, rfl⟩, V1 _ (qt_some hb).1]
  · -- 102
    subst q
    have hb : bd2 (tp L) e 102 s = qt (tp L) e (qt (tp L) e (qn e 4 s)) := rfl
    rw [hb] at h1
    refine cq_N hM hg T0 he R0 4 (by decide) (by decide) _ (fun κ1 v1 f1 T1 R1 V1 => ?_)
    simp only [m1, ck, cU ax 5 (by decide), geo hg, true_and, forall_eq]
    have f1u := fr5_tr f1 (fr5_u κ1 8 v1)
    refine cq_T hM hg (Ctp_5 f1u T0) he (RC_u R1 (by decide) (by decide) (by decide) v1) _ (fun κ2 f2 T2 R2 V2 => ⟨m1, ?_⟩)
    refine cq_T hM hg T2 he R2 _ (fun κ3 f3 T3 R3 V3 => ?_)
    exact h1 κ3 (fr5_mono (fr5_tr f0 (fr5_tr f1u (fr5_tr f2 f3))) (by decide)) T3 R3 (by rw [fr5_i f3 (by decide), fr5_i f2 (by decide), fr5_i f1u (by decide), p7]) (fun b hb => Cms_no _ _ _ _ (by simp)) (by unfold known; simp)
  · -- 104
    subst q
    have hb : bd2 (tp L) e 104 s = qt (tp L) e (qt (tp L) e (qn e 4 s)) := rfl
    rw [hb] at h1
    refine cq_N hM hg T0 he R0 4 (by decide) (by decide) _ (fun κ1 v1 f1 T1 R1 V1 => ?_)
    simp only [m1, ck, cU ax 5 (by decide), geo hg, true_and, forall_eq]
    have f1u := fr5_tr f1 (fr5_u κ1 8 v1)
    refine cq_T hM hg (Ctp_5 f1u T0) he (RC_u R1 (by decide) (by decide) (by decide) v1) _ (fun κ2 f2 T2 R2 V2 => ⟨m1, ?_⟩)
    refine cq_T hM hg T2 he R2 _ (fun κ3 f3 T3 R3 V3 => ?_)
    refine h1 κ3 (fr5_mono (fr5_tr f0 (fr5_tr f1u (fr5_tr f2 f3))) (by decide)) T3 R3 (by rw [fr5_i f3 (by decide), fr5_i f2 (by decide), fr5_i f1u (by decide), p7]) (fun b hb => ?_) (by unfold known; simp)
    refine ⟨fun z => absurd z (by decide), fun _ => ⟨?_, (V3 b hb).1⟩, fun z => absurd z (by decide), fun z => absurd z (by decide), fun z => absurd z (by decide), fun z => absurd z (by decide), fun z => absurd z (by decide), fun z => absurd z (by decide)⟩
    rw [fr5_i f3 (by decide), fr5_i f2 (by decide), cu1, if_pos ⟨rfl, rfl⟩, V1 _ (qt_some (qt_some hb).1).1]
  · -- 108
    subst q
    have hb : bd2 (tp L) e 108 s = qn e 2 s := rfl
    rw [hb] at h1
    refine cq_N hM hg T0 he R0 2 (by decide) (by decide) _ (fun κ1 v1 f1 T1 R1 V1 => ?_)
    simp only [m1, ck, cU ax 5 (by decide), geo hg, true_and, forall_eq]
    have f1u := fr5_tr f1 (fr5_u κ1 8 v1)
    exact h1 _ (fr5_mono (fr5_tr f0 f1u) (by decide)) (Ctp_5 f1u T0) (RC_u R1 (by decide) (by decide) (by decide) v1) (by rw [fr5_i f1u (by decide), p7]) (fun b hb => Cms_no _ _ _ _ (by simp)) (by unfold known; simp)
  · -- 110
    subst q
    have hb : bd2 (tp L) e 110 s = qts (tp L) e (tl (tp L) (at0 (qn e 4 s))) (qn e 2 (qn e 4 s)) := rfl
    rw [hb] at h1
    refine cq_N hM hg T0 he R0 4 (by decide) (by decide) _ (fun κ1 v1 f1 T1 R1 V1 => ?_)
    simp only [m1, ck, cU ax 5 (by decide), geo hg, true_and, forall_eq]
    have f1u := fr5_tr f1 (fr5_u κ1 8 v1)
    refine cq_Ts hM hg (Ctp_5 f1u T0) he (RC_u R1 (by decide) (by decide) (by decide) v1) _ (fun κ2 f2 T2 R2 V2 => ?_)
    refine h1 κ2 (fr5_mono (fr5_tr f0 (fr5_tr f1u f2)) (by decide)) T2 R2 (by rw [fr5_i f2 (by decide), fr5_i f1u (by decide), p7]) (fun b hb => ?_) (by unfold known; simp)
    have hq : ∃ b1, qn e 2 (qn e 4 s) = some b1 := by
      cases hz : qn e 2 (qn e 4 s) with
      | none => rw [hz, qts_none] at hb; cases hb
      | some b1 => exact ⟨b1, rfl⟩
    obtain ⟨b1, hb1⟩ := hq
    refine ⟨fun z => absurd z (by decide), fun z => absurd z (by decide), fun _ => ⟨?_, (V2 b1 hb1).1, ?_⟩, fun z => absurd z (by decide), fun z => absurd z (by decide), fun z => absurd z (by decide), fun z => absurd z (by decide), fun z => absurd z (by decide)⟩
    · rw [fr5_i f2 (by decide), cu1, if_pos ⟨rfl, rfl⟩, V1 _ (qn_some hb1).1]
    · rw [(V2 b1 hb1).2, hb1]; rfl
  · -- 112
    subst q
    have hb : bd2 (tp L) e 112 s = qn e 1 s := rfl
    rw [hb] at h1
    refine cq_N hM hg T0 he R0 1 (by decide) (by decide) _ (fun κ1 v1 f1 T1 R1 V1 => ?_)
    simp only [m1, ck, cU ax 5 (by decide), geo hg, true_and, forall_eq]
    have f1u := fr5_tr f1 (fr5_u κ1 10 v1)
    refine h1 _ (fr5_mono (fr5_tr f0 f1u) (by decide)) (Ctp_5 f1u T0) (RC_u R1 (by decide) (by decide) (by decide) v1) (by rw [fr5_i f1u (by decide), p7]) (fun b hb => ?_) (by unfold known; simp)
    refine ⟨fun z => absurd z (by decide), fun z => absurd z (by decide), fun z => absurd z (by decide), fun _ => ?_, fun z => absurd z (by decide), fun z => absurd z (by decide), fun z => absurd z (by decide), fun z => absurd z (by decide)⟩
    rw [cu1, if_pos ⟨rfl, rfl⟩, V1 b hb]
  · -- 114
    subst q
    have hb : bd2 (tp L) e 114 s = qn e 1 (qn e 4 (qt (tp L) e s)) := rfl
    rw [hb] at h1
    refine cq_T hM hg T0 he R0 _ (fun κ1 f1 T1 R1 V1 => ⟨m1, ?_⟩)
    refine cq_N hM hg T1 he R1 4 (by decide) (by decide) _ (fun κ2 v2 f2 T2 R2 V2 => ?_)
    simp only [m1, ck, cU ax 5 (by decide), geo hg, true_and, forall_eq]
    have f2u := fr5_tr f2 (fr5_u κ2 11 v2)
    refine cq_N hM hg (Ctp_5 f2u T1) he (RC_u R2 (by decide) (by decide) (by decide) v2) 1 (by decide) (by decide) _ (fun κ3 v3 f3 T3 R3 V3 => ?_)
    simp only [m1, ck, cU ax 5 (by decide), geo hg, true_and, forall_eq]
    have f3u := fr5_tr f3 (fr5_u κ3 10 v3)
    refine h1 _ (fr5_mono (fr5_tr f0 (fr5_tr f1 (fr5_tr f2u f3u))) (by decide)) (Ctp_5 (fr5_tr f2u f3u) T1) (RC_u R3 (by decide) (by decide) (by decide) v3) (by rw [fr5_i f3u (by decide), fr5_i f2u (by decide), fr5_i f1 (by decide), p7]) (fun b hb => ?_) (by unfold known; simp)
    have hb2 := (qn_some hb).1
    have hb1 := (qn_some hb2).1
    refine ⟨fun z => absurd z (by decide), fun z => absurd z (by decide), fun z => absurd z (by decide), fun z => absurd z (by decide), fun _ => ⟨Ctx_5 (fr5_tr f2u f3u) (by decide) (by decide) (V1 _ hb1).1, ?_, ?_⟩, fun z => absurd z (by decide), fun z => absurd z (by decide), fun z => absurd z (by decide)⟩
    · rw [fr5_i f3u (by decide), cu1, if_pos ⟨rfl, rfl⟩, V2 _ hb2]
    · rw [cu1, if_pos ⟨rfl, rfl⟩, V3 _ hb]
  · -- 116
    subst q
    have hb : bd2 (tp L) e 116 s = qn e 4 (qn e 8 s) := rfl
    rw [hb] at h1
    refine cq_NL hM hg T0 he R0 8 (by decide) (by decide) _ (fun κ1 v1 f1 T1 R1 V1 => ?_)
    simp only [m1, ck, cUL ax 5 (by decide), geo hg, true_and, forall_eq]
    have f1u := fr5_tr f1 (fr5_ul κ1 13 v1)
    refine cq_N hM hg (Ctp_5 f1u T0) he (RC_ul R1 13 v1) 4 (by decide) (by decide) _ (fun κ2 v2 f2 T2 R2 V2 => ?_)
    simp only [m1, ck, cU ax 5 (by decide), geo hg, true_and, forall_eq]
    have f2u := fr5_tr f2 (fr5_u κ2 9 v2)
    refine h1 _ (fr5_mono (fr5_tr f0 (fr5_tr f1u f2u)) (by decide)) (Ctp_5 f2u (Ctp_5 f1u T0)) (RC_u R2 (by decide) (by decide) (by decide) v2) (by rw [fr5_i f2u (by decide), fr5_i f1u (by decide), p7]) (fun b hb => ?_) (by unfold known; simp)
    refine ⟨fun z => absurd z (by decide), fun z => absurd z (by decide), fun z => absurd z (by decide), fun z => absurd z (by decide), fun z => absurd z (by decide), fun _ => ⟨?_, ?_⟩, fun z => absurd z (by decide), fun z => absurd z (by decide)⟩
    · rw [fr5_l f2u (by decide), cul2, if_pos ⟨rfl, rfl⟩, V1 _ (qn_some hb).1]
    · rw [cu1, if_pos ⟨rfl, rfl⟩, V2 _ hb, c4_i]
  · -- 118
    subst q
    have hb : bd2 (tp L) e 118 s = qd (tp L) e (qn e 8 s) := rfl
    rw [hb] at h1
    refine cq_NL hM hg T0 he R0 8 (by decide) (by decide) _ (fun κ1 v1 f1 T1 R1 V1 => ?_)
    simp only [m1, ck, cUL ax 5 (by decide), geo hg, true_and, forall_eq]
    have f1u := fr5_tr f1 (fr5_ul κ1 13 v1)
    refine cq_D hM hg (Ctp_5 f1u T0) he (RC_ul R1 13 v1) _ (fun κ2 f2 T2 R2 V2 => ?_)
    refine h1 _ (fr5_mono (fr5_tr f0 (fr5_tr f1u f2)) (by decide)) T2 R2 (by rw [fr5_i f2 (by decide), fr5_i f1u (by decide), p7]) (fun b hb => ?_) (by unfold known; simp)
    refine ⟨fun z => absurd z (by decide), fun z => absurd z (by decide), fun z => absurd z (by decide), fun z => absurd z (by decide), fun z => absurd z (by decide), fun z => absurd z (by decide), fun _ => ⟨?_, (V2 b hb).1, (V2 b hb).2⟩, fun z => absurd z (by decide)⟩
    rw [fr5_l f2 (by decide), cul2, if_pos ⟨rfl, rfl⟩, V1 _ (qn_some (qs_some hb).1).1]
  · subst q
    exact h1 κ0 (fr5_mono f0 (by decide)) T0 R0 p7 (fun b hb => Cms_no _ _ _ _ (by simp)) (by unfold known; simp)
  · subst q
    exact h1 κ0 (fr5_mono f0 (by decide)) T0 R0 p7 (fun b hb => Cms_no _ _ _ _ (by simp)) (by unfold known; simp)
  · subst q
    exact h1 κ0 (fr5_mono f0 (by decide)) T0 R0 p7 (fun b hb => Cms_no _ _ _ _ (by simp)) (by unfold known; simp)
  · -- 126
    subst q
    have hb : bd2 (tp L) e 126 s = qst (tp L) e s := rfl
    rw [hb] at h1
    refine cq_S hM hg T0 he R0 _ (fun κ1 f1 T1 R1 V1 => ?_)
    refine h1 κ1 (fr5_mono (fr5_tr f0 f1) (by decide)) T1 R1 (by rw [fr5_i f1 (by decide), p7]) (fun b hb => ?_) (by unfold known; simp)
    exact ⟨fun z => absurd z (by decide), fun z => absurd z (by decide), fun z => absurd z (by decide), fun z => absurd z (by decide), fun z => absurd z (by decide), fun z => absurd z (by decide), fun z => absurd z (by decide), fun _ => V1 b hb⟩
  · refine h0 κ0 (fr5_mono f0 (by decide)) (fun z => ?_)
    unfold known at z
    obtain ⟨n1, n2, n3, n4, n5, n6, n7, n8, n9, n10, n11, n12, n13⟩ := q
    rcases z with z | z | z | z | z | z | z | z | z | z | z | z | z <;> contradiction
/-- where the body stands behind the fid -/
def sB (e : Nat) (ty : Int32) : Option Nat := if ty = 100 ∨ ty = 102 ∨ ty = 108 then some 7 else qn e 4 (some 7)
/-- the bytes are a message -/
def msg_ok (L : List Int32) (e : Nat) : Prop := 7 ≤ e ∧ (val (tp L) 0 4).toInt32 = nI e ∧ known (tp L 4) ∧ bd2 (tp L) e (tp L 4) (sB e (tp L 4)) = some e
set_option maxHeartbeats 4000000 in
theorem cq_parse (hM : CM ax g) (hg : ge 0 ≤ ax) {κ : cS} {L : List Int32} (hT : Ctp κ L) {e : Nat} (he : e ≤ L.length) (Z : Int32 → mm_M → Prop)
    (h1 : ∀ κ', fr5 κ κ' (1 :: 5 :: 6 :: S16) → Ctp κ' L → msg_ok L e → κ'.1 5 5 = tp L 4 → κ'.1 5 6 = (val (tp L) 5 2).toInt32 → (¬ (tp L 4 = 100 ∨ tp L 4 = 102 ∨ tp L 4 = 108) → κ'.1 5 7 = (val (tp L) 7 4).toInt32) → RC κ' e (some e) → Cms κ' L e (tp L 4) (sB e (tp L 4)) → Z 1 (c_em ax κ' g))
    (h0 : ∀ κ', fr5 κ κ' (1 :: 5 :: 6 :: S16) → ¬ msg_ok L e → Z 0 (c_em ax κ' g)) : wq_Request_parse ge (ax + 5) (nI e) (c_em ax κ g) Z := by
  have m1 := (CM_q hM).1
  have tB := tp_B hT.2.1
  have he14 : e ≤ 1400 := by have := hT.2.2; omega
  unfold wq_Request_parse wq_Request_parse_0 wq_Request_parse_51 wq_Request_parse_82 wq_Request_parse_83
  simp only [m1, ck, cI ax 5 (by decide), cU ax 5 (by decide), geo hg, true_and, forall_eq]
  obtain ⟨κ0, e0⟩ : ∃ κ0, κ0 = c_u (c_u (c_u κ 5 1 (nI e)) 5 2 0) 5 3 1 := ⟨_, rfl⟩
  rw [← e0]
  have f0 : fr5 κ κ0 ([1] ++ [2] ++ [3]) := by rw [e0]; exact fr5_tr (fr5_tr (fr5_u _ _ _) (fr5_u _ _ _)) (fr5_u _ _ _)
  have R0 : RC κ0 e (some 0) := by
    rw [e0]
    exact ⟨by rw [cu1, if_neg (by decide), cu1, if_neg (by decide), cu1, if_pos ⟨rfl, rfl⟩], rfl, 0, by omega, by rw [cu1, if_neg (by decide), cu1, if_pos ⟨rfl, rfl⟩]; rfl, fun b hb => by cases hb; rfl⟩
  refine cq_N hM hg (Ctp_5 f0 hT) he R0 4 (by decide) (by decide) _ (fun κ1 v1 f1 T1 R1 V1 => ⟨m1, ?_⟩)
  refine cq_N hM hg T1 he R1 1 (by decide) (by decide) _ (fun κ2 v2 f2 T2 R2 V2 => ?_)
  simp only [m1, ck, cU ax 5 (by decide), geo hg, true_and, forall_eq]
  have f2u := fr5_tr f2 (fr5_u κ2 5 v2)
  refine cq_N hM hg (Ctp_5 f2u T1) he (RC_u R2 (by decide) (by decide) (by decide) v2) 2 (by decide) (by decide) _ (fun κ3 v3 f3 T3 R3 V3 => ?_)
  simp only [m1, ck, cI ax 5 (by decide), cU ax 5 (by decide), geo hg, true_and, forall_eq]
  obtain ⟨κ4, e4⟩ : ∃ κ4, κ4 = c_u κ3 5 6 v3 := ⟨_, rfl⟩
  rw [← e4]
  have f4 : fr5 κ3 κ4 [6] := by rw [e4]; exact fr5_u _ _ _
  have R4 : RC κ4 e (qn e 2 (qn e 1 (qn e 4 (some 0)))) := by rw [e4]; exact RC_u R3 (by decide) (by decide) (by decide) _
  have ff : fr5 κ κ4 [1, 2, 3, 5, 6] := fr5_mono (fr5_tr f0 (fr5_tr f1 (fr5_tr f2u (fr5_tr f3 f4)))) (by decide)
  have T4 : Ctp κ4 L := Ctp_5 ff hT
  have p5 : κ4.1 5 5 = v2 := by rw [fr5_i f4 (by decide), fr5_i f3 (by decide), cu1, if_pos ⟨rfl, rfl⟩]
  have p6 : κ4.1 5 6 = v3 := by rw [e4, cu1, if_pos ⟨rfl, rfl⟩]
  have p3 := R4.2.1
  rw [qn_add, qn_add] at R4 p3
  rw [p3]
  by_cases h7 : 7 ≤ e
  · have s7 : qn e (4 + 1 + 2) (some 0) = some 7 := qn_to (by omega)
    have s4 : qn e 4 (some 0) = some 4 := qn_to (by omega)
    have s5 : qn e 1 (qn e 4 (some 0)) = some 5 := by rw [qn_add]; exact qn_to (by omega)
    have w1 : v1 = (val (tp L) 0 4).toInt32 := V1 4 s4
    have w2 : v2 = tp L 4 := by
      have := V2 5 s5
      rw [this, val_1 tB, s4]
      rfl
    have w3 : v3 = (val (tp L) 5 2).toInt32 := by
      have := V3 7 (by rw [qn_add, qn_add]; exact s7)
      rw [this, s5]
      rfl
    rw [s7] at R4 ⊢
    refine ⟨fun q => h0 κ4 (fr5_mono ff (by decide)) (fun z => q (by rw [w1]; exact z.2.1)), fun q => ⟨fun _ => ?_, fun z => absurd z (by show ¬ (1 : Int32) = 0; decide)⟩⟩
    have body : ∀ (κa : cS) (s : Option Nat) (x : Int32), fr5 κ4 κa [2, 3] → Ctp κa L → RC κa e s → s = sB e (tp L 4) → (¬ (tp L 4 = 100 ∨ tp L 4 = 102 ∨ tp L 4 = 108) → ∀ b, s = some b → x = (val (tp L) 7 4).toInt32) → wq_Request_parseBody_37 ge (ax + 5) (some (ax + 5)) x (c_em ax κa g) (fun r27 h26 => (r27 = 0 → ((True ∨ (0 : Int32) = 1) ∧ Z 0 h26)) ∧ (¬ r27 = 0 → mm_k h26 (ax + 5) = kd_Request ∧ ((mm_I h26 (ax + 5) 3 = 0 → ((True ∨ (0 : Int32) = 1) ∧ Z 0 h26)) ∧ (¬ mm_I h26 (ax + 5) 3 = 0 → ((¬ mm_I h26 (ax + 5) 2 = mm_I h26 (ax + 5) 1 → ((True ∨ (0 : Int32) = 1) ∧ Z 0 h26)) ∧ (mm_I h26 (ax + 5) 2 = mm_I h26 (ax + 5) 1 → (((1 : Int32) = 0 ∨ True) ∧ Z 1 h26))))))) := by
      intro κa s x fa Ta Ra es hx
      have pa5 : κa.1 5 5 = tp L 4 := by rw [fr5_i fa (by decide), p5, w2]
      refine cq_body hM hg Ta he Ra x pa5 _ (fun κ' f T R c7 cm kn => ?_) (fun κ' f kn => ?_)
      · have f' : fr5 κ κ' (1 :: 5 :: 6 :: S16) := fr5_mono (fr5_tr ff (fr5_tr fa f)) (by decide)
        obtain ⟨r1, r2, a, r3, r4, r5⟩ := R
        simp only [m1, ck, cI ax 5 (by decide), r1, r2, r4, true_and]
        have no : ¬ bd2 (tp L) e (tp L 4) s = some e → Z 0 (c_em ax κ' g) := fun hn => h0 κ' f' (fun z => hn (by rw [es]; exact z.2.2.2))
        refine ⟨fun z => absurd z (by decide), fun _ => ⟨fun z => ⟨Or.inl trivial, no (fun y => ?_)⟩, fun z => ⟨fun y => ⟨Or.inl trivial, no (fun w => y ?_)⟩, fun y => ⟨Or.inr trivial, ?_⟩⟩⟩⟩
        · rw [y] at z; exact absurd z (by show ¬ (1 : Int32) = 0; decide)
        · rw [r5 e w]
        · have hae : a = e := (nI_eq (by omega) (by omega)).mp y
          have hbd : ∃ b, bd2 (tp L) e (tp L 4) s = some b := by
            cases hz : bd2 (tp L) e (tp L 4) s with
            | none => rw [hz] at z; exact absurd rfl z
            | some b => exact ⟨b, rfl⟩
          obtain ⟨b, hb⟩ := hbd
          have hbe : bd2 (tp L) e (tp L 4) s = some e := by rw [hb, r5 b hb, hae]
          have hsome : ¬ (tp L 4 = 100 ∨ tp L 4 = 102 ∨ tp L 4 = 108) → ∃ b, s = some b := by
            intro hn
            cases s with
            | some b => exact ⟨b, rfl⟩
            | none =>
              exfalso
              unfold bd2 at hbe
              simp only [qn_none, qt_none, qts_none, qd, st11, st10, st9, st8, st7, st6, st5, st4, st3, st2, st1, qst, qs] at hbe
              repeat' split at hbe
              all_goals first | cases hbe | exact absurd hbe (by simp)
          refine h1 κ' f' T ⟨h7, by rw [← w1]; exact q, kn, by rw [← es]; exact hbe⟩ ?_ ?_ (fun hn => ?_) ⟨r1, by rw [r2, hbe], a, r3, r4, fun b' hb' => by rw [hae]; cases hb'; rfl⟩ (by rw [← es]; exact cm b hb)
          · rw [fr5_i f (by decide), pa5]
          · rw [fr5_i f (by decide), fr5_i fa (by decide), p6, w3]
          · obtain ⟨b0, hb0⟩ := hsome hn
            rw [c7, hx hn b0 hb0]
      · exact ⟨fun _ => ⟨Or.inl trivial, h0 κ' (fr5_mono (fr5_tr ff (fr5_tr fa f)) (by decide)) (fun z => kn z.2.2.1)⟩, fun z => absurd rfl z⟩
    unfold wq_Request_parseBody wq_Request_parseBody_0 wq_Request_parseBody_28
    simp only [m1, ck, cI ax 5 (by decide), p5, w2, true_and]
    refine ⟨fun z => ?_, fun z1 => ⟨fun z => ?_, fun z2 => ⟨fun z3 => ?_, fun z => ?_⟩⟩⟩
    · exact body κ4 _ 0 (fr5_mono (fr5_rf κ4) (by decide)) T4 R4 (by unfold sB; rw [if_pos (Or.inl z)]) (fun hn => absurd (Or.inl z) hn)
    · exact body κ4 _ 0 (fr5_mono (fr5_rf κ4) (by decide)) T4 R4 (by unfold sB; rw [if_pos (Or.inr (Or.inl z))]) (fun hn => absurd (Or.inr (Or.inl z)) hn)
    · refine cq_N hM hg T4 he R4 4 (by decide) (by decide) _ (fun κ5 v5 f5 T5 R5 V5 => ?_)
      have hn : ¬ (tp L 4 = 100 ∨ tp L 4 = 102 ∨ tp L 4 = 108) := fun y => y.elim z1 (fun y => y.elim z2 z3)
      exact body κ5 _ v5 f5 T5 R5 (by unfold sB; rw [if_neg hn]) (fun _ b hb => V5 b hb)
    · exact body κ4 _ 0 (fr5_mono (fr5_rf κ4) (by decide)) T4 R4 (by unfold sB; rw [if_pos (Or.inr (Or.inr z))]) (fun hn => absurd (Or.inr (Or.inr z)) hn)
  · have s7 : qn e (4 + 1 + 2) (some 0) = none := by
      unfold qn
      simp only [Option.bind_some]
      rw [if_neg (by omega)]
    rw [s7]
    have z := h0 κ4 (fr5_mono ff (by decide)) (fun z => h7 z.1)
    exact ⟨fun _ => z, fun _ => ⟨fun y => absurd rfl y, fun _ => z⟩⟩
end RQ4
