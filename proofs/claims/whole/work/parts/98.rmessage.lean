/-! the reference: message, whole -/
theorem c4_e {t : Nat → Int32} {a e : Nat} (hB : ∀ j, isB (t j)) (he : e ≤ 1400) : (lN (c4 t a) = lN e) ↔ ((val t a 4).toInt32 = nI e) := by
  have h1 := c4_lt (a := a) hB
  rw [c4_i]
  constructor
  · intro z
    have : (lN (c4 t a)).toInt = (lN e).toInt := by rw [z]
    rw [lN_toInt' (by omega), lN_toInt' (by omega)] at this
    have : c4 t a = e := by omega
    rw [this]
  · intro z
    by_cases c : c4 t a < 2 ^ 31
    · rw [(nI_eq c (by omega)).mp z]
    · have := nI_neg (Nat.le_of_not_lt c) h1
      rw [z] at this
      exact absurd this (nI_pos (by omega))
theorem known_B {ty : Int32} (h : known ty) : isB (ty + 1) := by
  unfold isB
  rcases h with rfl | rfl | rfl | rfl | rfl | rfl | rfl | rfl | rfl | rfl | rfl | rfl | rfl <;> decide
section RMS
variable {ge : Nat → Nat} {am : Nat} {h : mm_M} {σ0 σ1 σ σ' : rS} {L A : List Int32} {T T' Tr : sT} {S J J' : List sT} {fm : sM} {fc gv : Nat} {tm : Int32} {ms : Nat} {X : sX}
theorem Rtx_of {W : List Int32} (h1 : ∀ i, 28 ≤ i → i ≤ 51 → σ'.1 i = σ.1 i) (H : Rtx σ L W) : Rtx σ' L W := by
  obtain ⟨a, l, k1, k2, k3, k4⟩ := H
  exact ⟨a, l, (h1 _ (by decide) (by decide)).trans k1, (h1 _ (by decide) (by decide)).trans k2, k3, k4⟩
theorem Rwn_of {N : List (List Int32)} (h1 : ∀ i, 28 ≤ i → i ≤ 51 → σ'.1 i = σ.1 i) (h3 : ∀ o i, 18 ≤ o → o ≤ 19 → σ'.2.2 o i = σ.2.2 o i) (H : Rwn σ L N) : Rwn σ' L N := by
  obtain ⟨k1, k2, k3⟩ := H
  refine ⟨k1, (h1 _ (by decide) (by decide)).trans k2, fun k nm hk => ?_⟩
  obtain ⟨a, l, w1, w2, w3, w4⟩ := k3 k nm hk
  exact ⟨a, l, (h3 _ _ (by decide) (by decide)).trans w1, (h3 _ _ (by decide) (by decide)).trans w2, w3, w4⟩
theorem Rms_of {e : Nat} {ty : Int32} (h1 : ∀ i, 28 ≤ i → i ≤ 51 → σ'.1 i = σ.1 i) (h2 : σ'.2.1 = σ.2.1) (h3 : ∀ o i, 18 ≤ o → o ≤ 19 → σ'.2.2 o i = σ.2.2 o i) (H : Rms σ L e ty) : Rms σ' L e ty := by
  obtain ⟨a, b, c, d, f, g, i, j, k⟩ := H
  refine ⟨fun z => ⟨by rw [h2]; exact (a z).1, Rtx_of h1 (a z).2⟩, fun z => (h1 _ (by decide) (by decide)).trans (b z), fun z => ⟨(h1 _ (by decide) (by decide)).trans (c z).1, Rtx_of h1 (c z).2⟩, fun z => ⟨(h1 _ (by decide) (by decide)).trans (d z).1, Rwn_of h1 h3 (d z).2⟩, fun z => (h1 _ (by decide) (by decide)).trans (f z), fun z => ⟨Rtx_of h1 (g z).1, (h1 _ (by decide) (by decide)).trans (g z).2.1, (h1 _ (by decide) (by decide)).trans (g z).2.2⟩, fun z => ⟨by rw [h2]; exact (i z).1, by rw [h2]; exact (i z).2⟩, fun z => ⟨by rw [h2]; exact (j z).1, by rw [h2]; exact (j z).2.1, (h1 _ (by decide) (by decide)).trans (j z).2.2.1, (j z).2.2.2⟩, fun z => ⟨(h1 _ (by decide) (by decide)).trans (k z).1, (h1 _ (by decide) (by decide)).trans (k z).2.1, by rw [h2]; exact (k z).2.2.1, Rtx_of h1 (k z).2.2.2.1, ?_⟩⟩
  rw [h1 _ (by decide) (by decide)]
  exact (k z).2.2.2.2
theorem RR_27 (hf : ∀ i, rlf i → σ'.1 i = σ.1 i) (hfr : frr (60 * 27) (60 * 27 + 60) σ σ') (H : RR σ0 σ L A T S J fm fc gv tm ms) : RR σ' σ' L A T S J fm fc gv tm ms := by
  obtain ⟨a, ⟨b, b'⟩, c, d, e, f, ⟨g1, g2, g3⟩, i⟩ := H
  have hi : ∀ o j, 10 ≤ o → σ'.2.2 o j = σ.2.2 o j := fun o j ho => hfr o j (fun z => absurd z (by omega)) (fun z => absurd z (by omega)) (fun z => absurd z (by omega))
  have h : ∀ k, rlf k → σ'.1 k = σ.1 k := hf
  exact ⟨Rta_of (fun j => hi _ j (by decide)) a, ⟨Ran_of (fun j => hi _ j (by decide)) (h _ (by unfold rlf; decide)) b, b'⟩, RT_fr hfr (by omega) c, Rsn_of (fun t T _ _ hT => RT_fr hfr (by omega) hT) (h _ (by unfold rlf; decide)) d, Rjn_of (fun t T _ _ hT => RT_fr hfr (by omega) hT) (h _ (by unfold rlf; decide)) (h _ (by unfold rlf; decide)) e, Rfd_of (fun o j _ _ => hi o j (by omega)) (h _ (by unfold rlf; decide)) f, ⟨(h _ (by unfold rlf; decide)).trans g1, (h _ (by unfold rlf; decide)).trans g2, (h _ (by unfold rlf; decide)).trans g3⟩, rrs_rf _⟩
theorem Rst_of {st : List qW} {by_ : Int32} (h1 : σ'.1 F_blocks = σ.1 F_blocks) (h2 : σ'.1 F_blockBytes = σ.1 F_blockBytes) (h3 : ∀ j, σ'.2.2 O_score j = σ.2.2 O_score j) (H : Rst σ st by_) : Rst σ' st by_ := ⟨H.1, h1.trans H.2.1, h2.trans H.2.2.1, fun k q hk i hi => (h3 _).trans (H.2.2.2 k q hk i hi)⟩
/-- seven bytes, whatever they are -/
def seven (σ : rS) : List Int32 := [σ.2.2 11 0, σ.2.2 11 1, σ.2.2 11 2, σ.2.2 11 3, σ.2.2 11 4, σ.2.2 11 5, σ.2.2 11 6]
theorem seven_an (hz : σ.1 F_answerSize = 7) : r_an σ (seven σ) := by
  refine ⟨hz, fun j x hj => ?_⟩
  have hl := (List.getElem?_eq_some_iff.mp hj).1
  have hl : j < 7 := hl
  rcases (by omega : j = 0 ∨ j = 1 ∨ j = 2 ∨ j = 3 ∨ j = 4 ∨ j = 5 ∨ j = 6) with rfl | rfl | rfl | rfl | rfl | rfl | rfl <;> exact Option.some.inj hj
set_option maxHeartbeats 8000000 in
theorem rx_msg (hX : RX ge am σ h X) (hI : IvX X) (n : Int32) (Z : Int32 → mm_M → Prop) (hZ : ∀ σ', RX ge am σ' h (xMsg n X).2 → Z (xMsg n X).1 (r_em am σ' h)) : wq_Model_message ge am n (r_em am σ h) Z := by
  obtain ⟨⟨L, A⟩, ⟨T, S, J⟩, ⟨fm, fc, gv, tm, ms⟩, ⟨il, er⟩, ⟨st, by_⟩⟩ := X
  have hX0 := hX
  obtain ⟨hM, hg, hK, hC, hz, ⟨h1, h2⟩, hB⟩ := hX
  have hI : Iv2 T S J fm fc gv ms := hI
  have hs := hM
  unfold RM at hs
  have hta := hC.1
  have hL := hta.2.2
  have tB := tp_B hta.2.1
  have none_ : ix n (L.length + 1) = none → Z (-2) (r_em am σ h) := by
    intro hn
    have e : xMsg n ((L, A), (T, S, J), (fm, fc, gv, tm, ms), (il, er), (st, by_)) = (-2, ((L, A), (T, S, J), (fm, fc, gv, tm, ms), (il, er), (st, by_))) := by
      unfold xMsg
      simp only [hn]
    rw [e] at hZ
    exact hZ σ hX0
  unfold wq_Model_message wq_Model_message_0 wq_Model_message_12
  refine ⟨fun q => none_ (ix_n (fun j hj e => by rw [e] at q; exact nI_pos (by omega) q)), fun q => ?_⟩
  obtain ⟨e, he31, rfl⟩ := nI_of q
  simp only [hs, rk, rI0, rU0, hz, hg, true_and, forall_eq]
  rw [nI_leI he31 (by omega)]
  refine ⟨fun heL => ?_, fun hno => none_ (ix_n (fun j hj e => by have := (nI_eq he31 (by omega)).mp e; omega))⟩
  have hix : ix (nI e) (L.length + 1) = some e := ix_y (by omega) (by omega)
  obtain ⟨σ1, e1⟩ : ∃ σ1, σ1 = r_f (r_f (r_f σ 28 0) 29 (nI e)) 30 1 := ⟨_, rfl⟩
  rw [← e1]
  have q1 : ∀ i, (i < 28 ∨ 52 ≤ i) → σ1.1 i = σ.1 i := fun i hi => by rw [e1, rf1, if_neg (by omega), rf1, if_neg (by omega), rf1, if_neg (by omega)]
  have b1 : σ1.2 = σ.2 := by rw [e1]; rfl
  have R1 : RD σ1 e 0 (some 0) := ⟨by rw [e1, rf1, if_neg (by decide), rf1, if_pos rfl], 0, by rw [e1, rf1, if_neg (by decide), rf1, if_neg (by decide), rf1, if_pos rfl]; rfl, by omega, Or.inl ⟨rfl, by omega, by rw [e1, rf1, if_pos rfl]⟩⟩
  have T1 : Rta σ1 L := Rta_2 b1 hta
  refine rt_N hM hg T1 heL (by decide) R1 4 (by decide) (by decide) _ (fun σ2 v1 a2 b2 R2 V2 => ?_)
  simp only [hs, rk, true_and]
  refine rt_N hM hg (Rta_2 b2 T1) heL (by decide) R2 1 (by decide) (by decide) _ (fun σ3 v2 a3 b3 R3 V3 => ?_)
  simp only [hs, rk, true_and]
  refine rt_N hM hg (Rta_2 b3 (Rta_2 b2 T1)) heL (by decide) R3 2 (by decide) (by decide) _ (fun σ4 v3 a4 b4 R4 V4 => ?_)
  have B4 : σ4.2 = σ.2 := by rw [b4, b3, b2, b1]
  have Q4 : ∀ i, (i < 28 ∨ 52 ≤ i) → σ4.1 i = σ.1 i := fun i hi => by rw [a4 i (by omega) (by omega), a3 i (by omega) (by omega), a2 i (by omega) (by omega)]; exact q1 i hi
  have T4 : Rta σ4 L := Rta_2 B4 hta
  have bad : ∀ τ : rS, (∀ i, (i < 28 ∨ 52 ≤ i) → τ.1 i = σ.1 i) → (∀ o i, ¬ o = O_wAt → ¬ o = O_wSize → τ.2.2 o i = σ.2.2 o i) → ¬ msg_ok L e → wq_Model_message_92 ge am (r_em am (r_f τ 16 0) h) Z := by
    intro τ t1 t2 hno
    have ex : xMsg (nI e) ((L, A), (T, S, J), (fm, fc, gv, tm, ms), (il, er), (st, by_)) = (-1, (([], A), (T, S, J), (fm, fc, gv, tm, ms), (il + 1, er), (st, by_))) := by
      unfold xMsg
      simp only [hix, cif_n hno]
    rw [ex] at hZ
    unfold wq_Model_message_92
    have i18 : (r_f τ 16 0).1 18 = il := by rw [rf1, if_neg (by decide), t1 _ (by decide)]; exact h1
    simp only [hs, rk, rI0, rU0, i18, hg, true_and, forall_eq]
    refine hZ _ ⟨hM, hg, hK, ?_, ?_, ⟨?_, ?_⟩, ?_⟩
    · have Cτ : RR σ τ L A T S J fm fc gv tm ms := RR_of (fun k hk => t1 k (by unfold rlf at hk; omega)) (fun o j ho => t2 o j (fun z => by rw [z] at ho; revert ho; decide) (fun z => by rw [z] at ho; revert ho; decide)) hC
      exact RR_L (RR_fs (σ := τ) (fun i hi => by rw [rf1, if_neg (by omega), rf1, if_neg (by omega)]) rfl Cτ)
    · rw [rf1, if_neg (by decide), rf1, if_pos rfl]; rfl
    · rw [rf1, if_pos rfl]
    · rw [rf1, if_neg (by decide), rf1, if_neg (by decide), t1 _ (by decide)]; exact h2
    · refine Rst_of ?_ ?_ (fun j => t2 _ _ (by decide) (by decide)) hB
      · rw [rf1, if_neg (by decide), rf1, if_neg (by decide), t1 _ (by decide)]
      · rw [rf1, if_neg (by decide), rf1, if_neg (by decide), t1 _ (by decide)]
  simp only [hs, rk, rI0, true_and]
  refine ⟨fun z => ?_, fun z => ?_⟩
  · -- too short
    have hno : ¬ msg_ok L e := by
      intro w
      have hn := (RD_good R4).mp z
      rw [qn_add, qn_add, qn_to (by show 0 + (4 + 1 + 2) ≤ e; exact w.1)] at hn
      cases hn
    unfold wq_Model_message_65
    have g0 : (r_f σ4 16 0).1 30 = 0 := by rw [rf1, if_neg (by decide)]; exact z
    simp only [hs, rk, rI0, rU0, g0, hg, true_and, forall_eq]
    exact ⟨fun _ => bad σ4 Q4 (fun o i _ _ => by rw [B4]) hno, fun w => absurd trivial w⟩
  · have hst : ¬ qn e 2 (qn e 1 (qn e 4 (some 0))) = none := fun w => z ((RD_good R4).mpr w)
    obtain ⟨b7, hb7⟩ := Option.ne_none_iff_exists'.mp hst
    have hb7' := hb7
    rw [qn_add, qn_add] at hb7'
    obtain ⟨y1, y2⟩ := qn_at hb7'
    obtain ⟨_, _, y3⟩ := qn_some hb7'
    have y1 : b7 = 7 := by rw [y1]; rfl
    subst y1
    obtain ⟨_, x2⟩ := qn_at hb7
    obtain ⟨x3, x4⟩ := qn_at x2
    have x5 := x4
    obtain ⟨x6, _⟩ := qn_at x5
    have x6 : at0 (qn e 4 (some 0)) = 4 := by rw [x6]; rfl
    rw [x6] at x3
    have ev1 : v1 = lN (c4 (tp L) 0) := by rw [V2 _ x5, c4_l]; rfl
    have ev2 : Int64.toInt32 v2 = tp L 4 := by rw [V3 _ x2, x6]; exact val_1 tB
    have ev3 : Int64.toInt32 v3 = nI (tl (tp L) 5) := by rw [V4 _ hb7, x3]; exact (tl_eq tB).1
    have tl16 : tl (tp L) 5 < 65536 := (tl_eq tB).2
    have etag : (val (tp L) 5 2).toInt32 = nI (tl (tp L) 5) := (tl_eq tB).1
    rw [ev2, ev3]
    rw [hb7] at R4
    refine rt_reads hM hg T4 heL R4 (tp L 4) _ (fun τ t1 t2 R5 hms => ?_)
    have Q5 : ∀ i, (i < 28 ∨ 52 ≤ i) → τ.1 i = σ.1 i := fun i hi => (t1 i hi).trans (Q4 i hi)
    have A5 : ∀ o i, ¬ o = O_wAt → ¬ o = O_wSize → τ.2.2 o i = σ.2.2 o i := fun o i w1 w2 => (t2 o i w1 w2).trans (by rw [B4])
    unfold wq_Model_message_65
    have f30 : (r_f τ 16 0).1 30 = τ.1 30 := by rw [rf1, if_neg (by decide)]
    have f28 : (r_f τ 16 0).1 28 = τ.1 28 := by rw [rf1, if_neg (by decide)]
    have f10 : (r_f τ 16 0).1 10 = tm := by rw [rf1, if_neg (by decide), Q5 _ (by decide)]; exact hC.2.2.2.2.2.2.1.2.1
    have ee : (v1 = (nI e).toInt64) ↔ ((val (tp L) 0 4).toInt32 = nI e) := by rw [ev1, nI_l (by omega)]; exact c4_e tB (by omega)
    simp only [hs, rk, rI0, rU0, f30, f28, f10, lg_cmp_eq, ee, hg, true_and, forall_eq]
    refine ⟨fun w => bad τ Q5 A5 (fun k => ?_), fun w => ⟨fun w2 => bad τ Q5 A5 (fun k => w2 k.2.1), fun w2 => ⟨fun w3 => ?_, fun w3 => bad τ Q5 A5 (fun k => ?_)⟩⟩⟩
    · have hn := (RD_good R5).mp w
      rw [k.2.2.2] at hn
      cases hn
    rotate_left
    · have hR := R5
      rw [k.2.2.2] at hR
      exact w3 (RD_some hR).1
    -- a message
    have hsome : ∃ b, bd2 (tp L) e (tp L 4) (sB e (tp L 4)) = some b := Option.ne_none_iff_exists'.mp (fun k => w ((RD_good R5).mpr k))
    obtain ⟨b, hb⟩ := hsome
    have hbe : b = e := by
      have hR := R5
      rw [hb] at hR
      obtain ⟨r1, r2⟩ := RD_some hR
      have r1 : τ.1 28 = nI b := r1
      rw [r1] at w3
      exact (nI_eq (by omega) (by omega)).mp w3
    subst hbe
    have hkn : known (tp L 4) := Classical.byContradiction (fun k => by rw [bd2_no k] at hb; cases hb)
    have hok : msg_ok L b := ⟨y3, w2, hkn, hb⟩
    have hRms := hms b hb
    have Cτ : RR σ τ L A T S J fm fc gv tm ms := RR_of (fun k hk => Q5 k (by unfold rlf at hk; omega)) (fun o j ho => A5 o j (fun z => by rw [z] at ho; revert ho; decide) (fun z => by rw [z] at ho; revert ho; decide)) hC
    have C6 : RR (r_f τ 16 0) (r_f τ 16 0) L A T S J fm fc gv tm ms := RR_fs (σ := τ) (fun i hi => by rw [rf1, if_neg (by omega)]) rfl Cτ
    have C7 := RR_tm (tm + 1) C6
    refine rt_copy (f := 0) (g := 27) hM hg _ (by decide) (by decide) (by decide) C7.2.2.1 _ (fun π hcp => ?_)
    obtain ⟨p1, p2, p3, p4⟩ := hcp
    have C8 : RR π π L A T S J fm fc gv (tm + 1) ms := RR_27 (fun i _ => by rw [p1]) p4 C7
    simp only [hs, rk, rU0, hg, true_and, forall_eq]
    obtain ⟨σ7, e7⟩ : ∃ σ7, σ7 = r_f (r_f (r_f π 17 7) 53 0) 52 0 := ⟨_, rfl⟩
    rw [← e7]
    have k7 : ∀ i, ¬ i = 17 → ¬ i = 53 → ¬ i = 52 → σ7.1 i = π.1 i := fun i z1 z2 z3 => by rw [e7, rf1, if_neg z3, rf1, if_neg z2, rf1, if_neg z1]
    have l7 : σ7.2 = π.2 := by rw [e7]; rfl
    have p1' : ∀ i, ¬ i = 10 → ¬ i = 16 → π.1 i = τ.1 i := fun i z1 z2 => by rw [p1, rf1, if_neg z1, rf1, if_neg z2]
    have C9 : RR σ7 σ7 L (seven π) T S J fm fc gv (tm + 1) ms := by
      have hA7 : r_an (r_f π 17 7) (seven π) := seven_an (σ := r_f π 17 7) (by rw [rf1, if_pos rfl])
      have Ca : RR π (r_f π 17 7) L (seven π) T S J fm fc gv (tm + 1) ms := RR_an (σ := π) (fun k hk => by rw [rf1, if_neg hk]) (fun _ _ _ => rfl) hA7 (show 7 ≤ 1400 by decide) C8
      have Cb := RR_f (k := 53) 0 (by unfold rlf; decide) Ca
      have Cc := RR_f (k := 52) 0 (by unfold rlf; decide) Cb
      rw [← e7] at Cc
      exact RR_base (rrs_rf _) Cc
    have W7 : RT σ7 27 T := RT_of (fun o j _ => by rw [l7]) p3
    have m7 : Rms σ7 L b (tp L 4) := by
      refine Rms_of (σ := τ) (fun i i1 i2 => by rw [k7 i (by omega) (by omega) (by omega)]; exact p1' i (by omega) (by omega)) ?_ (fun o i o1 o2 => ?_) hRms
      · rw [l7, p2]; rfl
      · rw [l7]
        exact p4 o i (fun z => absurd z (by omega)) (fun z => absurd z (by omega)) (fun z => absurd z (by omega))
    refine rt_does hM hg hK C9 rfl hI hkn m7 (by rw [e7, rf1, if_neg (by decide), rf1, if_pos rfl]) (by rw [e7, rf1, if_pos rfl]) _ (fun σ8 sy hsy hP hJ => ?_)
    obtain ⟨O, eO⟩ : ∃ O, O = spDo L b T S J fm fc gv (tm + 1) ms := ⟨_, rfl⟩
    rw [← eO] at hP hJ
    obtain ⟨x8, s8, A', hA', C10⟩ := hP
    have x8 : σ8.1 53 = O.1 := x8
    have C10 : RR σ7 σ8 L A' O.2.2.1 S J O.2.2.2.1 O.2.2.2.2.1 O.2.2.2.2.2.1 (tm + 1) O.2.2.2.2.2.2.1 := C10
    obtain ⟨⟨n1, n2, n3, n4, n5⟩, n6, n7⟩ := C10.2.2.2.2.2.2.2
    have W8 : RT σ8 27 T := n7 T W7
    have z7 : ∀ i, ¬ i = 10 → ¬ i = 16 → ¬ i = 17 → ¬ i = 53 → ¬ i = 52 → (i < 28 ∨ 52 ≤ i) → σ7.1 i = σ.1 i := fun i z1 z2 z3 z4 z5 z6 => by rw [k7 i z3 z4 z5, p1' i z1 z2]; exact Q5 i z6
    have t8 : σ8.1 16 = 0 := by
      have : σ8.1 16 = σ7.1 16 := n1
      rw [this, k7 _ (by decide) (by decide) (by decide), p1, rf1, if_neg (by decide), rf1, if_pos rfl]
    have i8 : σ8.1 18 = il := by
      have : σ8.1 18 = σ7.1 18 := n2
      rw [this, z7 _ (by decide) (by decide) (by decide) (by decide) (by decide) (by decide)]; exact h1
    have r8 : σ8.1 19 = er := by
      have : σ8.1 19 = σ7.1 19 := n3
      rw [this, z7 _ (by decide) (by decide) (by decide) (by decide) (by decide) (by decide)]; exact h2
    have B8 : Rst σ8 st by_ := by
      refine Rst_of (σ := σ) ?_ ?_ (fun j => ?_) hB
      · rw [n4, z7 _ (by decide) (by decide) (by decide) (by decide) (by decide) (by decide)]
      · rw [n5, z7 _ (by decide) (by decide) (by decide) (by decide) (by decide) (by decide)]
      · rw [n6, l7, p4 _ _ (fun z => absurd z (by decide)) (fun z => absurd z (by decide)) (fun z => absurd z (by decide))]
        exact A5 _ _ (by decide) (by decide)
    have ex : xMsg (nI b) ((L, A), (T, S, J), (fm, fc, gv, tm, ms), (il, er), (st, by_)) = (if O.1 = 0 then nI (7 + O.2.1.length) else nI 10, (([], aftA O (tp L 4) (nI (tl (tp L) 5))), (O.2.2.1, S, O.2.2.2.2.2.2.2), (O.2.2.2.1, O.2.2.2.2.1, O.2.2.2.2.2.1, tm + 1, O.2.2.2.2.2.2.1), (il, if O.1 = 0 then er else er + 1), (st, by_))) := by
      rw [eO, ← etag]
      unfold xMsg
      simp only [hix, cif_y hok]
    rw [ex] at hZ
    simp only [hs, rk, rI0, rU0, x8, r8, hg, true_and, forall_eq]
    refine ⟨fun c0 => ?_, fun c0 => ?_⟩
    · -- it went well
      rw [if_pos c0, if_pos c0] at hZ
      have hA'' := hA' c0
      have hA'' : A' = seven π ++ O.2.1 := hA''
      rw [hA''] at C10
      refine rt_m189 hM hg C10 rfl W8 (known_B hkn) tl16 s8 Z (fun σ9 f9 sc9 C11 => ?_)
      refine hZ σ9 ⟨hM, hg, hK, ?_, ?_, ⟨?_, ?_⟩, ?_⟩
      · have ea : aftA O (tp L 4) (nI (tl (tp L) 5)) = ansL (tp L 4 + 1) (nI (tl (tp L) 5)) O.2.1 := if_pos c0
        rw [ea, hJ]
        exact RR_L C11
      · rw [f9 _ (by decide) (by decide)]; exact t8
      · rw [f9 _ (by decide) (by decide)]; exact i8
      · rw [f9 _ (by decide) (by decide)]; exact r8
      · exact Rst_of (f9 _ (by decide) (by decide)) (f9 _ (by decide) (by decide)) sc9 B8
    · -- an error
      rw [if_neg c0, if_neg c0] at hZ
      obtain ⟨ρ, eρ⟩ : ∃ ρ, ρ = r_f (r_f σ8 19 (er + 1)) 17 7 := ⟨_, rfl⟩
      rw [← eρ]
      have kρ : ∀ i, ¬ i = 19 → ¬ i = 17 → ρ.1 i = σ8.1 i := fun i z1 z2 => by rw [eρ, rf1, if_neg z2, rf1, if_neg z1]
      have lρ : ρ.2 = σ8.2 := by rw [eρ]; rfl
      have D1 : RR (r_f σ8 19 (er + 1)) (r_f σ8 19 (er + 1)) L A' O.2.2.1 S J O.2.2.2.1 O.2.2.2.2.1 O.2.2.2.2.2.1 (tm + 1) O.2.2.2.2.2.2.1 := RR_fs (σ := σ8) (fun i hi => by rw [rf1, if_neg (by omega)]) rfl C10
      have D2 : RR (r_f σ8 19 (er + 1)) ρ L (seven σ8) O.2.2.1 S J O.2.2.2.1 O.2.2.2.2.1 O.2.2.2.2.2.1 (tm + 1) O.2.2.2.2.2.2.1 := by
        rw [eρ]
        exact RR_an (σ := r_f σ8 19 (er + 1)) (fun k hk => by rw [rf1, if_neg hk]) (fun _ _ _ => rfl) (seven_an (σ := r_f (r_f σ8 19 (er + 1)) 17 7) (by rw [rf1, if_pos rfl])) (show 7 ≤ 1400 by decide) D1
      refine rp_put (n := 2) hM hg ρ D2.2.1.1.1 (show 7 + 2 ≤ 1500 by decide) _ _ ?_
      have D3 := RR_ap (le 2 1) (by rw [le_len]; exact (show 7 + 2 ≤ 1400 by decide)) D2
      have x53 : (r_ap ρ (le 2 1)).1 53 = O.1 := by rw [ap_fd _ _ (by decide), kρ _ (by decide) (by decide)]; exact x8
      simp only [hs, rk, rI0, x53, true_and]
      refine rp_put (n := 1) hM hg _ D3.2.1.1.1 (by rw [List.length_append, le_len]; exact (show 7 + 2 + 1 ≤ 1500 by decide)) _ _ ?_
      have D4 := RR_ap (le 1 ((48 : Int32) + O.1).toInt64) (by rw [List.length_append, le_len, le_len]; exact (show 7 + 2 + 1 ≤ 1400 by decide)) D3
      rw [List.append_assoc] at D4
      have hE : le 2 1 ++ le 1 ((48 : Int32) + O.1).toInt64 = errL O.1 := rfl
      rw [hE] at D4
      obtain ⟨υ, eυ⟩ : ∃ υ, υ = r_ap (r_ap ρ (le 2 1)) (le 1 ((48 : Int32) + O.1).toInt64) := ⟨_, rfl⟩
      rw [← eυ] at D4 ⊢
      have kυ : ∀ i, ¬ i = 17 → υ.1 i = ρ.1 i := fun i z => by rw [eυ, ap_fd _ _ z, ap_fd _ _ z]
      have aυ : ∀ o i, ¬ o = O_answer → υ.2.2 o i = σ8.2.2 o i := fun o i z => by rw [eυ, r_ap_o z, r_ap_o z, lρ]
      have Wυ : RT υ 27 T := RT_of (fun o j ho => aυ o j (by show ¬ o = 11; omega)) W8
      have sυ : υ.1 52 = sy := by rw [kυ _ (by decide), kρ _ (by decide) (by decide)]; exact s8
      refine rt_m189 (ty := 106) hM hg D4 rfl Wυ (by unfold isB; decide) tl16 sυ Z (fun σ9 f9 sc9 C11 => ?_)
      have e10 : nI (7 + (errL O.1).length) = nI 10 := by
        unfold errL
        rw [List.length_append, le_len, le_len]
      rw [e10]
      refine hZ σ9 ⟨hM, hg, hK, ?_, ?_, ⟨?_, ?_⟩, ?_⟩
      · have ea : aftA O (tp L 4) (nI (tl (tp L) 5)) = ansL 107 (nI (tl (tp L) 5)) (errL O.1) := if_neg c0
        rw [ea, hJ]
        exact RR_L C11
      · rw [f9 _ (by decide) (by decide), kυ _ (by decide), kρ _ (by decide) (by decide)]; exact t8
      · rw [f9 _ (by decide) (by decide), kυ _ (by decide), kρ _ (by decide) (by decide)]; exact i8
      · rw [f9 _ (by decide) (by decide), kυ _ (by decide), eρ, rf1, if_neg (by decide), rf1, if_pos rfl]
      · refine Rst_of ?_ ?_ (fun j => (sc9 j).trans (aυ _ _ (by decide))) B8
        · rw [f9 _ (by decide) (by decide), kυ _ (by decide), kρ _ (by decide) (by decide)]
        · rw [f9 _ (by decide) (by decide), kυ _ (by decide), kρ _ (by decide) (by decide)]
end RMS
