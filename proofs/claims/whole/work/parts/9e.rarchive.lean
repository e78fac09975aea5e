/-! the reference: archive, score -/
def lastR (σ : rS) (p : Nat) : qW := (σ.2.2 25 (5 * p), σ.2.2 25 (5 * p + 1), σ.2.2 25 (5 * p + 2), σ.2.2 25 (5 * p + 3), σ.2.2 25 (5 * p + 4))
theorem Rla_lastR (σ : rS) : Rla σ (lastR σ) := by
  intro p i _ hi
  rcases (by omega : i = 0 ∨ i = 1 ∨ i = 2 ∨ i = 3 ∨ i = 4) with rfl | rfl | rfl | rfl | rfl <;> rfl
section RAR
variable {ge : Nat → Nat} {am : Nat} {h : mm_M} {σ0 σ σ' : rS} {L A : List Int32} {T Tr : sT} {S J : List sT} {fm : sM} {fc gv : Nat} {tm : Int32} {ms : Nat} {X : sX}
theorem RR_Q (h1 : ∀ i, ((9 ≤ i ∧ i ≤ 13) ∨ i = 17 ∨ i = 20 ∨ i = 27) → σ'.1 i = σ.1 i) (h2 : ∀ o j, o < 21 → (o = 11 → j < 1400) → σ'.2.2 o j = σ.2.2 o j) (H : RR σ0 σ L A T S J fm fc gv tm ms) : RR σ' σ' L A T S J fm fc gv tm ms := by
  obtain ⟨a, ⟨b, b'⟩, c, d, e, f, ⟨g1, g2, g3⟩, i⟩ := H
  have ht : ∀ t T, RT σ t T → RT σ' t T := fun t T hT => RT_of (fun o j ho => h2 o j (by omega) (fun z => by omega)) hT
  exact ⟨Rta_of (fun j => h2 _ _ (by decide) (fun z => absurd z (by decide))) a, ⟨⟨(h1 17 (by omega)).trans b.1, fun j x hj => (h2 _ _ (by decide) (fun _ => by have := (List.getElem?_eq_some_iff.mp hj).1; omega)).trans (b.2 j x hj)⟩, b'⟩, ht _ _ c, Rsn_of (fun t T _ _ => ht t T) (h1 11 (by omega)) d, Rjn_of (fun t T _ _ => ht t T) (h1 13 (by omega)) (h1 12 (by omega)) e, Rfd_of (fun o j o1 o2 => h2 _ _ (by omega) (fun z => by omega)) (h1 27 (by omega)) f, ⟨(h1 9 (by omega)).trans g1, (h1 10 (by omega)).trans g2, (h1 20 (by omega)).trans g3⟩, rrs_rf _⟩
set_option maxHeartbeats 1000000 in
/-- the scores of a snapshot -/
theorem rt_snapSc (hM : RM am h) (hg : ge 0 ≤ am) {t : Nat} (ht : t < 28) (hw : wfT Tr gv) {k : Bool} {s1 : sB_} (hT : RT σ t Tr) (hA : Rar σ k s1) (Z : mm_M → Prop)
    (hZ : ∀ σ', frQ σ σ' → Rar σ' k (goV k Tr (s1, lastR σ)).1 → hds σ' = sc Tr 0 → Z (r_em am σ' h)) : wq_Model_scores ge am (nI t) 0 (r_em am σ h) Z := by
  obtain ⟨f, hf, _, hd⟩ := hw.2.1
  have hdir : isDirAt Tr 0 := ⟨f, hf, hd⟩
  unfold wq_Model_scores
  refine rt_scores hM hg ht hw 62 0 4000 f σ (s1, lastR σ) Z hf (by decide) (by decide) hT hA (Rla_lastR σ) (fun σ' a1 a2 a3 a4 => ?_)
  rw [cif_y hdir] at a2 a4
  refine hZ σ' a1 a2 ?_
  rw [a4]
  exact goV_root hw _
set_option maxHeartbeats 1000000 in
theorem rx_arc (hX : RX ge am σ h X) (hI : IvX X) (k : Int32) (Z : Int32 → mm_M → Prop) (hZ : ∀ σ', RX ge am σ' h (xArc k X).2 → Z (xArc k X).1 (r_em am σ' h)) : wq_Model_archive ge am k (r_em am σ h) Z := by
  obtain ⟨⟨L, A⟩, ⟨T, S, J⟩, ⟨fm, fc, gv, tm, ms⟩, ⟨il, er⟩, ⟨st, by_⟩⟩ := X
  have hX0 := hX
  obtain ⟨hM, hg, hK, hC, hz, ⟨h1, h2⟩, hB⟩ := hX
  have hI : Iv2 T S J fm fc gv ms := hI
  have hs := hM
  unfold RM at hs
  obtain ⟨s6, s2, s3⟩ := hC.2.2.2.1
  obtain ⟨b1, b2, b3, b4⟩ := hB
  have b2' : σ.1 59 = nI st.length := b2
  have b3' : σ.1 60 = by_ := b3
  unfold wq_Model_archive wq_Model_archive_0
  simp only [hs, rk, rI0, s2, true_and]
  refine rq_isIn _ _ _ _ _ ?_
  by_cases c : 0 ≤ k ∧ k < nI S.length
  rotate_left
  · have hn : ix k S.length = none := ix_n (fun j hj e => c ⟨by rw [e]; exact nI_pos' (by omega), by rw [e]; exact nI_lt hj (by omega)⟩)
    have e1 : ∀ P F G, xArc k (P, (T, S, J), F, G, (st, by_)) = (-1, (P, (T, S, J), F, G, (st, by_))) := fun P F G => by
      unfold xArc
      simp only [hn]
    rw [e1] at hZ
    rw [if_neg c]
    exact ⟨fun w => absurd rfl w, fun _ => hZ σ hX0⟩
  obtain ⟨j, hj31, rfl⟩ := nI_of (Int32.not_lt.mpr c.1)
  have hj : j < S.length := (nI_ltI hj31 (by omega)).mp c.2
  obtain ⟨Tr, hTr⟩ : ∃ Tr, S[j]? = some Tr := ⟨_, List.getElem?_eq_getElem hj⟩
  have hw : wfT Tr gv := hI.1.2.1 Tr (List.mem_of_getElem? hTr)
  have e1 : ∀ P F G, xArc (nI j) (P, (T, S, J), F, G, (st, by_)) = ((arcS st by_ Tr).1, (P, (T, S, J), F, G, ((arcS st by_ Tr).2.1, (arcS st by_ Tr).2.2))) := fun P F G => by
    unfold xArc
    simp only [ix_y hj (show S.length ≤ 2 ^ 31 by omega), hTr]
  rw [e1] at hZ
  rw [if_pos c]
  refine ⟨fun _ => ?_, fun w => absurd w (by decide)⟩
  simp only [hs, rk, rI0, rU0, hg, true_and, forall_eq]
  obtain ⟨τ, eτ⟩ : ∃ τ, τ = r_f (r_f σ 64 1) 63 0 := ⟨_, rfl⟩
  rw [← eτ]
  have fτ : ∀ i, ¬ i = 64 → ¬ i = 63 → τ.1 i = σ.1 i := fun i z1 z2 => by rw [eτ, rf1, if_neg z2, rf1, if_neg z1]
  have lτ : τ.2 = σ.2 := by rw [eτ]; rfl
  have Aτ : Rar τ true (st, by_, false) := by
    refine ⟨Rst_of (fτ _ (by decide) (by decide)) (fτ _ (by decide) (by decide)) (fun _ => by rw [lτ]) ⟨b1, b2, b3, b4⟩, ⟨fun w => ?_, fun w => by cases w⟩, fun _ => ⟨?_, fun w => by cases w⟩⟩
    · rw [eτ, rf1, if_neg (by decide), rf1, if_pos rfl] at w
      exact absurd w (by decide)
    · rw [eτ, rf1, if_pos rfl]; rfl
  have Tτ : RT τ (j + 1) Tr := RT_of (fun o i _ => by rw [lτ]) (s3 j Tr hTr)
  rw [← nI_succ]
  refine rt_snapSc hM hg (by omega) hw Tτ Aτ _ (fun π a1 a2 _ => ?_)
  obtain ⟨G, eG⟩ : ∃ G, G = goV true Tr ((st, by_, false), lastR τ) := ⟨_, rfl⟩
  rw [← eG] at a2
  have hS : arcS st by_ Tr = if G.1.2.2 = true then (-2, st, by_) else (nI G.1.1.length - nI st.length, G.1.1, G.1.2.1) := by
    rw [← arcV_S hw st by_ (lastR τ), eG]
    rfl
  obtain ⟨⟨g1, g2, g3, g4⟩, _, g34⟩ := a2
  obtain ⟨g5, g6⟩ := g34 rfl
  have fπ : ∀ i, ¬ i = 59 → ¬ i = 60 → ¬ i = 63 → ¬ i = 64 → π.1 i = σ.1 i := fun i z1 z2 z3 z4 => (a1.1 i z1 z2 z3).trans (fτ i z4 z3)
  have Cπ : ∀ υ : rS, (∀ i, ¬ i = 59 → ¬ i = 60 → υ.1 i = π.1 i) → υ.2.2 = π.2.2 → RR υ υ L A T S J fm fc gv tm ms := fun υ u1 u2 => RR_Q (σ := σ) (fun i hi => (u1 i (by omega) (by omega)).trans (fπ i (by omega) (by omega) (by omega) (by omega))) (fun o i o1 o2 => by rw [u2, a1.2.2 o i o1 o2, lτ]) hC
  simp only [hs, rk, rI0, rU0, hg, true_and, forall_eq]
  have g5' : π.1 63 = if G.1.2.2 = true then 1 else 0 := g5
  by_cases cf : G.1.2.2 = true
  · rw [if_pos cf] at hS g5'
    rw [hS] at hZ
    rw [g5']
    refine ⟨fun _ => ?_, fun w => absurd w (by decide)⟩
    obtain ⟨R, hR⟩ : ∃ R, G.1.1 = st ++ R := by
      rw [eG]
      exact fold_pre true Tr (ordr Tr) ((st, by_, false), lastR τ)
    rw [b2', b3']
    have fυ : ∀ i, ¬ i = 59 → ¬ i = 60 → (r_f (r_f π 59 (nI st.length)) 60 by_).1 i = π.1 i := fun i z1 z2 => by rw [rf1, if_neg z2, rf1, if_neg z1]
    refine hZ _ ⟨hM, hg, hK, Cπ _ fυ rfl, ?_, ⟨?_, ?_⟩, ?_⟩
    · rw [fυ _ (by decide) (by decide), fπ _ (by decide) (by decide) (by decide) (by decide)]; exact hz
    · rw [fυ _ (by decide) (by decide), fπ _ (by decide) (by decide) (by decide) (by decide)]; exact h1
    · rw [fυ _ (by decide) (by decide), fπ _ (by decide) (by decide) (by decide) (by decide)]; exact h2
    · refine ⟨b1, by rw [rf1, if_neg (by decide), rf1, if_pos rfl], by rw [rf1, if_pos rfl], fun x q hx i hi => ?_⟩
      have hxl : x < st.length := (List.getElem?_eq_some_iff.mp hx).1
      exact g4 x q (by rw [hR, List.getElem?_append_left hxl]; exact hx) i hi
  · rw [if_neg cf] at hS g5'
    rw [hS] at hZ
    rw [g5']
    refine ⟨fun w => absurd rfl w, fun _ => ?_⟩
    have g2' : π.1 59 = nI G.1.1.length := g2
    rw [g2', b2']
    refine hZ π ⟨hM, hg, hK, Cπ π (fun _ _ _ => rfl) rfl, ?_, ⟨?_, ?_⟩, ⟨g1, g2, g3, g4⟩⟩
    · rw [fπ _ (by decide) (by decide) (by decide) (by decide)]; exact hz
    · rw [fπ _ (by decide) (by decide) (by decide) (by decide)]; exact h1
    · rw [fπ _ (by decide) (by decide) (by decide) (by decide)]; exact h2
set_option maxHeartbeats 1000000 in
theorem rx_sco (hX : RX ge am σ h X) (hI : IvX X) (k i : Int32) (Z : Int32 → mm_M → Prop) (hZ : ∀ σ', RX ge am σ' h X → Z (xSco k i X) (r_em am σ' h)) : wq_Model_score ge am k i (r_em am σ h) Z := by
  obtain ⟨⟨L, A⟩, ⟨T, S, J⟩, ⟨fm, fc, gv, tm, ms⟩, ⟨il, er⟩, ⟨st, by_⟩⟩ := X
  have hX0 := hX
  obtain ⟨hM, hg, hK, hC, hz, ⟨h1, h2⟩, hB⟩ := hX
  have hI : Iv2 T S J fm fc gv ms := hI
  have hs := hM
  unfold RM at hs
  obtain ⟨s6, s2, s3⟩ := hC.2.2.2.1
  have hz' : ∀ σ', RX ge am σ' h ((L, A), (T, S, J), (fm, fc, gv, tm, ms), (il, er), (st, by_)) → Z (match ix k S.length, ix i 20 with
    | some j, some b => match S[j]? with
      | none => -1
      | some Tr => scV (sc Tr 0) b
    | _, _ => -1) (r_em am σ' h) := hZ
  unfold wq_Model_score wq_Model_score_0 wq_Model_score_20
  simp only [hs, rk, rI0, s2, true_and]
  refine rq_isIn _ _ _ _ _ ?_
  by_cases c : 0 ≤ k ∧ k < nI S.length
  rotate_left
  · have hn : ix k S.length = none := ix_n (fun j hj e => c ⟨by rw [e]; exact nI_pos' (by omega), by rw [e]; exact nI_lt hj (by omega)⟩)
    rw [if_neg c]
    refine ⟨fun _ => ?_, fun w => absurd rfl w⟩
    have := hz' σ hX0
    rw [hn] at this
    exact this
  obtain ⟨j, hj31, rfl⟩ := nI_of (Int32.not_lt.mpr c.1)
  have hj : j < S.length := (nI_ltI hj31 (by omega)).mp c.2
  obtain ⟨Tr, hTr⟩ : ∃ Tr, S[j]? = some Tr := ⟨_, List.getElem?_eq_getElem hj⟩
  have hw : wfT Tr gv := hI.1.2.1 Tr (List.mem_of_getElem? hTr)
  rw [if_pos c]
  refine ⟨fun w => absurd w (by decide), fun _ => ?_⟩
  refine rq_isIn _ _ _ _ _ ?_
  by_cases c2 : 0 ≤ i ∧ i < 20
  rotate_left
  · have hn : ix i 20 = none := ix_n (fun b hb e => c2 ⟨by rw [e]; exact nI_pos' (by omega), by rw [e]; exact nI_lt (b := 20) hb (by decide)⟩)
    rw [if_neg c2]
    refine ⟨fun w => absurd rfl w, fun _ => ?_⟩
    have := hz' σ hX0
    rw [hn, ix_y hj (by omega)] at this
    exact this
  obtain ⟨b, hb31, rfl⟩ := nI_of (Int32.not_lt.mpr c2.1)
  have hb : b < 20 := (nI_ltI (b := 20) hb31 (by decide)).mp c2.2
  rw [if_pos c2]
  refine ⟨fun _ => ?_, fun w => absurd w (by decide)⟩
  simp only [hs, rk, rU0, hg, true_and, forall_eq]
  obtain ⟨τ, eτ⟩ : ∃ τ, τ = r_f σ 64 0 := ⟨_, rfl⟩
  rw [← eτ]
  have fτ : ∀ i, ¬ i = 64 → τ.1 i = σ.1 i := fun i z1 => by rw [eτ, rf1, if_neg z1]
  have lτ : τ.2 = σ.2 := by rw [eτ]; rfl
  have Aτ : Rar τ false (st, by_, false) := ⟨Rst_of (fτ _ (by decide)) (fτ _ (by decide)) (fun _ => by rw [lτ]) hB, ⟨fun _ => rfl, fun _ => by rw [eτ, rf1, if_pos rfl]⟩, fun w => by cases w⟩
  have Tτ : RT τ (j + 1) Tr := RT_of (fun o i _ => by rw [lτ]) (s3 j Tr hTr)
  rw [← nI_succ]
  refine rt_snapSc hM hg (by omega) hw Tτ Aτ _ (fun π a1 a2 a3 => ?_)
  obtain ⟨x1, x2⟩ := scV_ix b hb
  have v1 : vp_in (nI (b / 4)) 5 := vp_in_nI (by omega) (by decide)
  have v2 : (nI (b / 4)).toNatClampNeg = b / 4 := nI_clamp (by omega)
  simp only [hs, rk, rn, rP, rI, x1, v1, v2, true_and, Option.some.injEq, exists_eq_left', Nat.reduceLT]
  have x2' : (24 : Int32) - (8 : Int32) * (nI b - nI (b / 4) * 4) = nI (24 - 8 * (b % 4)) := by rw [← x1]; exact x2
  rw [x2', ← hds_qi π (by omega), a3]
  have fπ : ∀ i, ¬ i = 59 → ¬ i = 60 → ¬ i = 63 → ¬ i = 64 → π.1 i = σ.1 i := fun i z1 z2 z3 z4 => (a1.1 i z1 z2 z3).trans (fτ i z4)
  have hf := fold_f Tr (ordr Tr) ((st, by_, false), lastR τ)
  have a2' : Rst π st by_ := by
    have := a2.1
    have e : (goV false Tr ((st, by_, false), lastR τ)).1 = (st, by_, false) := hf
    rw [e] at this
    exact this
  have := hz' π ⟨hM, hg, hK, RR_Q (σ := σ) (fun i hi => fπ i (by omega) (by omega) (by omega) (by omega)) (fun o i o1 o2 => by rw [a1.2.2 o i o1 o2, lτ]) hC, ?_, ⟨?_, ?_⟩, a2'⟩
  · rw [ix_y hj (by omega), ix_y hb (by decide)] at this
    simp only [hTr] at this
    exact this
  · rw [fπ _ (by decide) (by decide) (by decide) (by decide)]; exact hz
  · rw [fπ _ (by decide) (by decide) (by decide) (by decide)]; exact h1
  · rw [fπ _ (by decide) (by decide) (by decide) (by decide)]; exact h2
end RAR
