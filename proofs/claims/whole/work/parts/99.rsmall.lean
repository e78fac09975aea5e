/-! the reference: the small calls -/
theorem ix_s {i : Int32} {n m : Nat} (hi : ix i n = some m) : i = nI m ∧ m < n := by
  unfold ix at hi
  by_cases c : ¬ i < 0 ∧ i.toNatClampNeg < n
  · rw [cif_y c] at hi
    cases hi
    obtain ⟨k, hk, e⟩ := nI_of c.1
    exact ⟨by rw [e, nI_clamp hk], c.2⟩
  · rw [cif_n c] at hi; cases hi
theorem shr_0 (v : Int32) : v >>> ((0 : Int32) &&& 31) = v := b_ext (fun i hi => by
  have := b_sshr 0 (by decide) v hi
  rw [if_pos (by omega), Nat.zero_add] at this
  exact this)
theorem neg_3 : ∀ a, a < 3 → ∀ b, b < 4 → a < b → nI a - nI b < 0 := by decide
theorem sub_le {l k j : Nat} (hl : l ≤ 1400) (hk : k ≤ 3) (hj : j < 2 ^ 31) : (nI l - nI k ≤ nI j) ↔ l ≤ j + k := by
  by_cases c : k ≤ l
  · rw [nI_sub c, nI_leI (by omega) hj]
    omega
  · have h1 := neg_3 l (by omega) k (by omega) (by omega)
    refine ⟨fun _ => by omega, fun _ => ?_⟩
    exact Int32.le_of_lt (Int32.lt_of_lt_of_le h1 (nI_pos' hj))
section RSM
variable {ge : Nat → Nat} {am : Nat} {h : mm_M} {σ0 σ σ' : rS} {L A : List Int32} {T T' Tr : sT} {S J J' : List sT} {fm : sM} {fc gv : Nat} {tm : Int32} {ms : Nat} {X : sX}
/-- the tape alone has changed -/
theorem RR_ta {L' : List Int32} (hf : ∀ k, ¬ k = 16 → σ'.1 k = σ.1 k) (h1 : ∀ o j, ¬ o = O_tape → σ'.2.2 o j = σ.2.2 o j) (ha : Rta σ' L') (H : RR σ0 σ L A T S J fm fc gv tm ms) : RR σ' σ' L' A T S J fm fc gv tm ms := by
  obtain ⟨a, ⟨b, b'⟩, c, d, e, f, ⟨g1, g2, g3⟩, i⟩ := H
  have ht : ∀ t T, RT σ t T → RT σ' t T := fun t T hT => RT_of (fun o j ho => h1 o j (by show ¬ o = 10; omega)) hT
  exact ⟨ha, ⟨Ran_of (fun j => h1 _ j (by decide)) (hf _ (by decide)) b, b'⟩, ht _ _ c, Rsn_of (fun t T _ _ => ht t T) (hf _ (by decide)) d, Rjn_of (fun t T _ _ => ht t T) (hf _ (by decide)) (hf _ (by decide)) e, Rfd_of (fun o j h2 h3 => h1 o j (by show ¬ o = 10; omega)) (hf _ (by decide)) f, ⟨(hf _ (by decide)).trans g1, (hf _ (by decide)).trans g2, (hf _ (by decide)).trans g3⟩, rrs_rf _⟩
theorem RX_by {Y : (sT × List sT × List sT) × (sM × Nat × Nat × Int32 × Nat) × (Int32 × Int32) × (List qW × Int32)} {x : Int32} (hX : RX ge am σ h ((L, A), Y)) (hl : L.length + 1 ≤ 1400) (hx : isB x) : RX ge am (r_by σ x) h ((L ++ [x], A), Y) := by
  obtain ⟨⟨T, S, J⟩, ⟨fm, fc, gv, tm, ms⟩, ⟨il, er⟩, ⟨st, by_⟩⟩ := Y
  obtain ⟨hM, hg, hK, hC, hz, ⟨h1, h2⟩, hB⟩ := hX
  have e1 : (σ.1 F_tapeSize).toNatClampNeg = L.length := by rw [hz, nI_clamp (by omega)]
  have f1 : ∀ k, ¬ k = 16 → (r_by σ x).1 k = σ.1 k := fun k hk => by unfold r_by; rw [rf1, if_neg hk]; rfl
  have a1 : ∀ o j, ¬ o = O_tape → (r_by σ x).2.2 o j = σ.2.2 o j := fun o j ho => by unfold r_by; exact ra_n ho
  refine ⟨hM, hg, hK, RR_ta f1 a1 ⟨fun k hk => ?_, ?_, ?_⟩ hC, ?_, ⟨(f1 _ (by decide)).trans h1, (f1 _ (by decide)).trans h2⟩, Rst_of (f1 _ (by decide)) (f1 _ (by decide)) (fun j => a1 _ _ (by decide)) hB⟩
  · rw [List.length_append] at hk
    have hk : k < L.length + 1 := hk
    have e2 : (r_by σ x).2.2 O_tape k = if k = L.length then x else σ.2.2 O_tape k := by
      unfold r_by
      rw [e1]
      show (r_a σ O_tape L.length x).2.2 O_tape k = _
      rw [raa]
      by_cases c : k = L.length
      · rw [if_pos ⟨rfl, c⟩, if_pos c]
      · rw [if_neg (fun z => c z.2), if_neg c]
    rw [e2]
    by_cases c : k = L.length
    · rw [if_pos c, c]
      refine (tp_some ?_).symm
      rw [List.getElem?_append_right (Nat.le_refl _), Nat.sub_self]
      rfl
    · rw [if_neg c, hC.1.1 k (by omega)]
      refine (tp_some ?_).symm
      rw [List.getElem?_append_left (by omega)]
      exact tp_get (by omega)
  · exact allB_app hC.1.2.1 (allB_cons hx allB_nil)
  · rw [List.length_append]; exact hl
  · rw [r_by_t x hz, List.length_append]; rfl
theorem RX_by4 {Y : (sT × List sT × List sT) × (sM × Nat × Nat × Int32 × Nat) × (Int32 × Int32) × (List qW × Int32)} (v : Int32) (hX : RX ge am σ h ((L, A), Y)) (hl : L.length + 4 ≤ 1400) : RX ge am (r_by4 σ v) h ((L ++ be4 v, A), Y) := by
  have k1 := RX_by (x := v >>> ((24 : Int32) &&& 31) &&& 255) hX (by omega) (isB_and _)
  have k2 := RX_by (x := v >>> ((16 : Int32) &&& 31) &&& 255) k1 (by rw [List.length_append]; show L.length + 1 + 1 ≤ _; omega) (isB_and _)
  have k3 := RX_by (x := v >>> ((8 : Int32) &&& 31) &&& 255) k2 (by rw [List.length_append, List.length_append]; show L.length + 1 + 1 + 1 ≤ _; omega) (isB_and _)
  have k4 := RX_by (x := v >>> ((0 : Int32) &&& 31) &&& 255) k3 (by rw [List.length_append, List.length_append, List.length_append]; show L.length + 1 + 1 + 1 + 1 ≤ _; omega) (isB_and _)
  have e : L ++ [v >>> ((24 : Int32) &&& 31) &&& 255] ++ [v >>> ((16 : Int32) &&& 31) &&& 255] ++ [v >>> ((8 : Int32) &&& 31) &&& 255] ++ [v >>> ((0 : Int32) &&& 31) &&& 255] = L ++ be4 v := by
    unfold be4
    rw [shr_0]
    simp only [List.append_assoc, List.cons_append, List.nil_append]
  rw [e] at k4
  exact k4
theorem rx_feed (hX : RX ge am σ h X) (a b c d e : Int32) (Z : Int32 → mm_M → Prop) (hZ : ∀ σ', RX ge am σ' h (xFeed a b c d e X).2 → Z (xFeed a b c d e X).1 (r_em am σ' h)) : wq_Model_feed ge am a b c d e (r_em am σ h) Z := by
  obtain ⟨⟨L, A⟩, Y⟩ := X
  have hX0 := hX
  obtain ⟨⟨T, S, J⟩, ⟨fm, fc, gv, tm, ms⟩, ⟨il, er⟩, ⟨st, by_⟩⟩ := Y
  obtain ⟨hM, hg, hK, hC, hz, ⟨h1, h2⟩, hB⟩ := hX
  refine rq_feed hM hg σ hz hC.1.2.2 a b c d e Z (fun hl => ?_) (fun hl => ?_)
  · have e1 : ∀ Y, xFeed a b c d e ((L, A), Y) = (nI (L.length + 20), ((L ++ (be4 a ++ be4 b ++ be4 c ++ be4 d ++ be4 e), A), Y)) := fun Y => cif_y hl
    rw [e1] at hZ
    have l4 : ∀ v : Int32, (be4 v).length = 4 := fun _ => rfl
    have k1 := RX_by4 a hX0 (by omega)
    have k2 := RX_by4 b k1 (by rw [List.length_append, l4]; omega)
    have k3 := RX_by4 c k2 (by rw [List.length_append, List.length_append, l4, l4]; omega)
    have k4 := RX_by4 d k3 (by rw [List.length_append, List.length_append, List.length_append, l4, l4, l4]; omega)
    have k5 := RX_by4 e k4 (by rw [List.length_append, List.length_append, List.length_append, List.length_append, l4, l4, l4, l4]; omega)
    refine hZ _ ?_
    simp only [List.append_assoc] at k5 ⊢
    exact k5
  · have e1 : ∀ Y, xFeed a b c d e ((L, A), Y) = (-1, ((L, A), Y)) := fun Y => cif_n hl
    rw [e1] at hZ
    exact hZ σ hX0
theorem rx_bend (hX : RX ge am σ h X) (i v : Int32) (Z : Int32 → mm_M → Prop) (hZ : ∀ σ', RX ge am σ' h (xBend i v X).2 → Z (xBend i v X).1 (r_em am σ' h)) : wq_Model_bend ge am i v (r_em am σ h) Z := by
  obtain ⟨⟨L, A⟩, ⟨T, S, J⟩, ⟨fm, fc, gv, tm, ms⟩, ⟨il, er⟩, ⟨st, by_⟩⟩ := X
  have hX0 := hX
  obtain ⟨hM, hg, hK, hC, hz, ⟨h1, h2⟩, hB⟩ := hX
  have hL := hC.1.2.2
  refine rq_bend hM hg σ hz hL i v Z (fun j hj e => ?_) (fun hno => ?_)
  · have e1 : ∀ Y, xBend i v ((L, A), Y) = (tp L j, ((L.set j (v &&& 255), A), Y)) := fun Y => by
      unfold xBend
      simp only [e, ix_y hj (show L.length ≤ 2 ^ 31 by omega)]
    rw [e1] at hZ
    rw [hC.1.1 j hj]
    refine hZ _ ⟨hM, hg, hK, RR_ta (σ := σ) (fun _ _ => rfl) (fun o k ho => ra_n ho) ⟨fun k hk => ?_, ?_, by rw [List.length_set]; exact hL⟩ hC, by rw [List.length_set]; exact hz, ⟨h1, h2⟩, Rst_of rfl rfl (fun k => ra_n (by decide)) hB⟩
    · rw [List.length_set] at hk
      rw [raa]
      by_cases c : k = j
      · rw [if_pos ⟨rfl, c⟩, c]
        refine (tp_some ?_).symm
        rw [List.getElem?_set_self hj]
      · rw [if_neg (fun z => c z.2), hC.1.1 k hk]
        refine (tp_some ?_).symm
        rw [List.getElem?_set_ne (fun z => c z.symm)]
        exact tp_get hk
    · intro x hx
      rcases List.mem_or_eq_of_mem_set hx with z | z
      · exact hC.1.2.1 x z
      · rw [z]; exact isB_and _
  · have e1 : ∀ Y, xBend i v ((L, A), Y) = (-1, ((L, A), Y)) := fun Y => by
      unfold xBend
      simp only [ix_n (fun j hj => hno j hj)]
    rw [e1] at hZ
    exact hZ σ hX0
theorem rx_ans (hX : RX ge am σ h X) (i : Int32) (Z : Int32 → mm_M → Prop) (hZ : Z (xAns i X) (r_em am σ h)) : wq_Model_answer ge am i (r_em am σ h) Z := by
  obtain ⟨⟨L, A⟩, ⟨T, S, J⟩, ⟨fm, fc, gv, tm, ms⟩, ⟨il, er⟩, ⟨st, by_⟩⟩ := X
  obtain ⟨hM, hg, hK, hC, hz, ⟨h1, h2⟩, hB⟩ := hX
  have hl := hC.2.1.2
  refine rq_answer hM σ hC.2.1.1.1 (by omega) i Z (fun j hj e => ?_) (fun hno => ?_)
  · rw [hC.2.1.1.2 j _ (tp_get hj)]
    have e1 : ∀ Y, xAns i ((L, A), Y) = tp A j := fun Y => by
      unfold xAns
      simp only [e, ix_y hj (show A.length ≤ 2 ^ 31 by omega)]
    rw [e1] at hZ
    exact hZ
  · have e1 : ∀ Y, xAns i ((L, A), Y) = -1 := fun Y => by
      unfold xAns
      simp only [ix_n (fun j hj => hno j hj)]
    rw [e1] at hZ
    exact hZ
theorem rx_word (hX : RX ge am σ h X) (i : Int32) (Z : Int32 → mm_M → Prop) (hZ : Z (xWord i X) (r_em am σ h)) : wq_Model_word ge am i (r_em am σ h) Z := by
  obtain ⟨⟨L, A⟩, ⟨T, S, J⟩, ⟨fm, fc, gv, tm, ms⟩, ⟨il, er⟩, ⟨st, by_⟩⟩ := X
  obtain ⟨hM, hg, hK, hC, hz, ⟨h1, h2⟩, hB⟩ := hX
  have hs := hM
  unfold RM at hs
  have hl := hC.2.1.2
  have hsz := hC.2.1.1.1
  unfold wq_Model_word wq_Model_word_0
  refine ⟨fun q => ?_, fun q => ?_⟩
  rotate_left
  · have e1 : ∀ Y, xWord i ((L, A), Y) = 0 := fun Y => cif_y (Int32.not_le.mp q)
    rw [e1] at hZ
    exact hZ
  obtain ⟨j, hj, rfl⟩ := nI_of (Int32.not_lt.mpr q)
  have e1 : ∀ Y, xWord (nI j) ((L, A), Y) = wv (tp A) j := fun Y => by
    show cif (nI j < 0) 0 (wv (tp A) (nI j).toNatClampNeg) = _
    rw [cif_n (nI_pos hj), nI_clamp hj]
  rw [e1] at hZ
  unfold lp_Model_word_10
  intro Y hY
  have step : ∀ (k : Nat) (v : Int32), k ≤ 3 → Y am (nI j) ((v <<< ((8 : Int32) &&& 31)) ||| tp A (j + k)) (nI k + (-1)) (r_em am σ h) → Y am (nI j) v (nI k) (r_em am σ h) := by
    intro k v hk hy
    refine hY _ _ _ _ _ ?_
    unfold wq_Model_word_10 wq_Model_word_40
    refine ⟨fun z => absurd z (nI_pos (by omega)), fun _ => ?_⟩
    simp only [hs, rk, rI0, hsz, true_and]
    rw [sub_le hl hk hj]
    refine ⟨fun z => ?_, fun z => ?_⟩
    · rw [tp_out (by omega)] at hy
      exact hy
    · have w1 : vp_in (nI (j + k)) 1500 := vp_in_nI (by omega) (by decide)
      have w2 : (nI (j + k)).toNatClampNeg = j + k := nI_clamp (by omega)
      simp only [hs, rk, rn, rP, rI, nI_add, w1, w2, true_and, Option.some.injEq, exists_eq_left', Nat.reduceLT]
      rw [hC.2.1.1.2 (j + k) _ (tp_get (by omega))]
      exact hy
  refine step 3 0 (by decide) ?_
  refine step 2 _ (by decide) ?_
  refine step 1 _ (by decide) ?_
  refine step 0 _ (by decide) ?_
  refine hY _ _ _ _ _ ?_
  unfold wq_Model_word_10
  exact ⟨fun _ => hZ, fun z => absurd (by decide) z⟩
theorem rx_snap (hX : RX ge am σ h X) (Z : Int32 → mm_M → Prop) (hZ : ∀ σ', RX ge am σ' h (xSnap X).2 → Z (xSnap X).1 (r_em am σ' h)) : wq_Model_snap ge am (r_em am σ h) Z := by
  obtain ⟨⟨L, A⟩, ⟨T, S, J⟩, ⟨fm, fc, gv, tm, ms⟩, ⟨il, er⟩, ⟨st, by_⟩⟩ := X
  have hX0 := hX
  obtain ⟨hM, hg, hK, hC, hz, ⟨h1, h2⟩, hB⟩ := hX
  obtain ⟨s1, s2, s3⟩ := hC.2.2.2.1
  refine rq_snap hM hg σ s2 s1 (RT_okT hC.2.2.1) Z (fun hn => ?_) (fun hn => ?_)
  · have e1 : ∀ P Y, xSnap (P, (T, S, J), Y) = (nI S.length, (P, (T, S ++ [T], J), Y)) := fun P Y => cif_y hn
    rw [e1] at hZ
    obtain ⟨τ, eτ⟩ : ∃ τ, τ = r_f σ F_snapshots (nI (S.length + 1)) := ⟨_, rfl⟩
    rw [← eτ]
    have hT0 : RT τ 0 T := by rw [eτ]; exact hC.2.2.1
    obtain ⟨c3, c4⟩ := r_cp_T (f := 0) (g := S.length + 1) (by omega) hT0
    have c1 := r_cp_1 0 (S.length + 1) 60 0 τ
    obtain ⟨π, eπ⟩ : ∃ π, π = r_cp 0 (S.length + 1) 0 60 τ := ⟨_, rfl⟩
    rw [← eπ] at c1 c3 c4 ⊢
    have hf : ∀ i, ¬ i = 11 → π.1 i = σ.1 i := fun i z => by rw [c1, eτ, rf1, if_neg z]
    have hfr : frr (60 * (S.length + 1)) (60 * (S.length + 1) + 60) σ π := by rw [eτ] at c4; exact c4
    have hi : ∀ o j, 10 ≤ o → π.2.2 o j = σ.2.2 o j := fun o j ho => hfr o j (fun z => absurd z (by omega)) (fun z => absurd z (by omega)) (fun z => absurd z (by omega))
    obtain ⟨a, ⟨b, b'⟩, c, d, e, f, ⟨g1, g2, g3⟩, i⟩ := hC
    refine hZ π ⟨hM, hg, hK, ⟨Rta_of (fun j => hi _ j (by decide)) a, ⟨Ran_of (fun j => hi _ j (by decide)) (hf _ (by decide)) b, b'⟩, RT_fr hfr (by omega) c, ⟨?_, ?_, fun i Ti hi' => ?_⟩, Rjn_of (fun t T _ _ hT => RT_fr hfr (by omega) hT) (hf _ (by decide)) (hf _ (by decide)) e, Rfd_of (fun o j _ _ => hi o j (by omega)) (hf _ (by decide)) f, ⟨(hf _ (by decide)).trans g1, (hf _ (by decide)).trans g2, (hf _ (by decide)).trans g3⟩, rrs_rf _⟩, (hf _ (by decide)).trans hz, ⟨(hf _ (by decide)).trans h1, (hf _ (by decide)).trans h2⟩, Rst_of (hf _ (by decide)) (hf _ (by decide)) (fun j => hi _ _ (by decide)) hB⟩
    · rw [List.length_append]; show S.length + 1 ≤ 6; omega
    · rw [c1, eτ, rf1, if_pos rfl, List.length_append]; rfl
    · by_cases c' : i < S.length
      · rw [List.getElem?_append_left c'] at hi'
        exact RT_fr hfr (by omega) (s3 i Ti hi')
      · have hl : i < (S ++ [T]).length := (List.getElem?_eq_some_iff.mp hi').1
        rw [List.length_append] at hl
        have hl : i < S.length + 1 := hl
        have ei : i = S.length := by omega
        rw [List.getElem?_append_right (by omega), ei, Nat.sub_self] at hi'
        have hi' : some T = some Ti := hi'
        cases hi'
        rw [ei]
        exact c3
  · have e1 : ∀ P Y, xSnap (P, (T, S, J), Y) = (-1, (P, (T, S, J), Y)) := fun P Y => cif_n (by omega)
    rw [e1] at hZ
    exact hZ σ hX0
set_option maxHeartbeats 1000000 in
theorem rx_cra (hX : RX ge am σ h X) (n : Int32) (Z : Int32 → mm_M → Prop) (hZ : ∀ σ', RX ge am σ' h (xCra n X).2 → Z (xCra n X).1 (r_em am σ' h)) : wq_Model_crash ge am n (r_em am σ h) Z := by
  obtain ⟨⟨L, A⟩, ⟨T, S, J⟩, ⟨fm, fc, gv, tm, ms⟩, ⟨il, er⟩, ⟨st, by_⟩⟩ := X
  have hX0 := hX
  obtain ⟨hM, hg, hK, hC, hz, ⟨h1, h2⟩, hB⟩ := hX
  have hs := hM
  unfold RM at hs
  obtain ⟨j1, j2, lf, j3, j4, j5⟩ := hC.2.2.2.2.1
  have none_ : (∀ j, j < J.length + 1 → ¬ n = nI j) → Z (-1) (r_em am σ h) := by
    intro hno
    have e1 : ∀ P Y, xCra n (P, (T, S, J), (fm, fc, gv, tm, ms), Y) = (-1, (P, (T, S, J), (fm, fc, gv, tm, ms), Y)) := fun P Y => by
      unfold xCra
      simp only [ix_n hno]
    rw [e1] at hZ
    exact hZ σ hX0
  have fin : ∀ (k : Nat) (τ : rS) (T' : sT), n = nI k → k ≤ J.length → (if k = 0 then T else (J[J.length - k]?).getD T) = T' → RR τ τ L A T' S J fm fc gv tm ms → τ.1 F_tapeSize = nI L.length → (τ.1 F_ill = il ∧ τ.1 F_errors = er) → Rst τ st by_ → wq_Model_crash_40 ge am (r_em am τ h) Z := by
    intro k τ T' hn hk eT Cτ tz t12 tB
    have e1 : ∀ P Y, xCra n (P, (T, S, J), (fm, fc, gv, tm, ms), Y) = (1, (P, (T', S, []), ((fun _ => none), 0, gv, tm, 0), Y)) := fun P Y => by
      unfold xCra
      simp only [hn, ix_y (show k < J.length + 1 by omega) (by omega), eT]
    rw [e1] at hZ
    unfold wq_Model_crash_40
    simp only [hs, rk, rU0, hg, true_and, forall_eq]
    have C1 : RR τ (r_f τ 27 0) L A T' S J (fun _ => none) 0 gv tm ms := RR_fd (σ := τ) (fun k _ nk => by rw [rf1, if_neg nk]) (fun _ _ _ => rfl) (Rfd_0 (by rw [rf1, if_pos rfl])) Cτ
    have C2 := RR_ms 0 C1
    have C3 := RR_j0 C2
    have f3 : ∀ i, ¬ i = 27 → ¬ i = 20 → ¬ i = 13 → (r_f (r_f (r_f τ 27 0) 20 0) 13 0).1 i = τ.1 i := fun i z1 z2 z3 => by rw [rf1, if_neg z3, rf1, if_neg z2, rf1, if_neg z1]
    exact hZ _ ⟨hM, hg, hK, C3, (f3 _ (by decide) (by decide) (by decide)).trans tz, ⟨(f3 _ (by decide) (by decide) (by decide)).trans t12.1, (f3 _ (by decide) (by decide) (by decide)).trans t12.2⟩, Rst_of (f3 _ (by decide) (by decide) (by decide)) (f3 _ (by decide) (by decide) (by decide)) (fun _ => rfl) tB⟩
  unfold wq_Model_crash wq_Model_crash_0 wq_Model_crash_12
  refine ⟨fun q => none_ (fun j hj e => by rw [e] at q; exact nI_pos (by omega) q), fun q => ?_⟩
  obtain ⟨k, hk31, rfl⟩ := nI_of q
  simp only [hs, rk, rI0, j2, j4, true_and, nI_add]
  rw [nI_leI hk31 (by omega)]
  refine ⟨fun hkl => ⟨fun q3 => ?_, fun q3 => ?_⟩, fun q2 => none_ (fun j hj e => by have := (nI_eq hk31 (by omega)).mp e; omega)⟩
  · have e : k = 0 := by
      by_cases e : k = 0
      · exact e
      · exact absurd q3 (nI_nle (by omega) hk31)
    subst e
    exact fin 0 σ T rfl (by omega) rfl hC hz ⟨h1, h2⟩ hB
  · have hk0 : 0 < k := by
      by_cases e : k = 0
      · subst e; exact absurd (by decide) q3
      · omega
    rw [pk_sub (by omega : k ≤ lf + J.length)]
    rw [show nI (lf + J.length - k) - nI (lf + J.length - k) / 20 * 20 = nI ((lf + J.length - k) % 20) from pk_rem (d := 20) (by omega) (by decide) (by decide)]
    rw [show (7 : Int32) + nI ((lf + J.length - k) % 20) = nI (7 + (lf + J.length - k) % 20) from nI_add 7 _]
    obtain ⟨T', hT'⟩ : ∃ T', J[J.length - k]? = some T' := ⟨_, List.getElem?_eq_getElem (by omega)⟩
    have rT := j5 _ T' hT'
    rw [show lf + (J.length - k) = lf + J.length - k by omega] at rT
    refine rt_copy (f := 7 + (lf + J.length - k) % 20) (g := 0) hM hg σ (by omega) (by decide) (by omega) rT _ (fun π hcp => ?_)
    obtain ⟨p1, p2, p3, p4⟩ := hcp
    have hi : ∀ o j, 10 ≤ o → π.2.2 o j = σ.2.2 o j := fun o j ho => p4 o j (fun z => absurd z (by omega)) (fun z => absurd z (by omega)) (fun z => absurd z (by omega))
    have Cπ : RR σ π L A T' S J fm fc gv tm ms := RR_live (fun k _ => by rw [p1]) p4 p3 hC
    exact fin k π T' rfl hkl (by rw [if_neg (by omega), hT']; rfl) (RR_base (rrs_rf _) Cπ) (by rw [p1]; exact hz) ⟨by rw [p1]; exact h1, by rw [p1]; exact h2⟩ (Rst_of (by rw [p1]) (by rw [p1]) (fun j => hi _ _ (by decide)) hB)
theorem r_liv_eq (hT : RT σ 0 T) : ∀ n, n ≤ 60 → r_liv σ n = cnt (fun p => ¬ T p = none) n
  | 0, _ => rfl
  | n + 1, hn => by
    have ih := r_liv_eq hT n (by omega)
    show r_liv σ n + (if σ.2.2 O_is n = 0 then 0 else 1) = _
    cases hf : T n with
    | none =>
      have := RT_get0 hT (show n < 60 by omega) hf
      rw [r60] at this
      rw [if_pos this, cnt_n (by rw [hf]; exact fun z => z rfl), ih, Nat.add_zero]
    | some f =>
      have := (RT_get hT hf).2.1
      rw [r60] at this
      rw [if_neg (by rw [this]; decide), cnt_y (by rw [hf]; simp), ih]
theorem rx_cnt (hX : RX ge am σ h X) (what : Int32) (Z : Int32 → mm_M → Prop) (hZ : Z (xCnt what X) (r_em am σ h)) : wq_Model_count ge am what (r_em am σ h) Z := by
  obtain ⟨⟨L, A⟩, ⟨T, S, J⟩, ⟨fm, fc, gv, tm, ms⟩, ⟨il, er⟩, ⟨st, by_⟩⟩ := X
  obtain ⟨hM, hg, hK, hC, hz, ⟨h1, h2⟩, hB⟩ := hX
  have hs := hM
  unfold RM at hs
  have hz' : Z (cntV L A T S J fc gv tm ms il er (nI st.length) by_ what) (r_em am σ h) := hZ
  obtain ⟨g1, g2, g3⟩ := hC.2.2.2.2.2.2.1
  have g4 := hC.2.2.2.2.2.1.1.2
  have g5 := hC.2.2.2.1.2.1
  have g6 := hC.2.2.2.2.1.2.1
  have g7 := hC.2.1.1.1
  obtain ⟨_, b1, b2, _⟩ := hB
  unfold wq_Model_count wq_Model_count_0
  simp only [hs, rk, rI0, g1, g2, g3, g4, g5, g6, g7, b1, b2, hz, h1, h2, true_and]
  unfold cntV at hz'
  refine ⟨fun q => ?_, fun q => ?_, fun q => ?_, fun q => ?_, fun q => ?_, fun q => ?_, fun q => ?_, fun q => ?_, fun q => ?_, fun q => ?_, fun q => ?_, fun q => ?_, fun q => ?_, fun q => ?_⟩
  · subst q; exact hz'
  · subst q
    refine rq_count1 hM σ Z ?_
    rw [r_liv_eq hC.2.2.1 60 (by decide)]
    exact hz'
  · subst q; exact hz'
  · subst q; exact hz'
  · subst q; exact hz'
  · subst q; exact hz'
  · subst q; exact hz'
  · subst q; exact hz'
  · subst q; exact hz'
  · subst q; exact hz'
  · subst q; exact hz'
  · subst q; exact hz'
  · subst q; exact hz'
  · obtain ⟨q0, q1, q2, q3, q4, q5, q6, q7, q8, q9, q10, q11, q12⟩ := q
    rw [if_neg q0, if_neg q1, if_neg q2, if_neg q3, if_neg q4, if_neg q5, if_neg q6, if_neg q7, if_neg q8, if_neg q9, if_neg q10, if_neg q11, if_neg q12] at hz'
    exact hz'
theorem rx_fid (hX : RX ge am σ h X) (hI : IvX X) (number what : Int32) (Z : Int32 → mm_M → Prop) (hZ : Z (xFid number what X) (r_em am σ h)) : wq_Model_fid ge am number what (r_em am σ h) Z := by
  obtain ⟨⟨L, A⟩, ⟨T, S, J⟩, ⟨fm, fc, gv, tm, ms⟩, ⟨il, er⟩, ⟨st, by_⟩⟩ := X
  obtain ⟨hM, hg, hK, hC, hz, ⟨h1, h2⟩, hB⟩ := hX
  have hI : Iv2 T S J fm fc gv ms := hI
  have hs := hM
  unfold RM at hs
  have hz' : Z (match fm number with | none => -9 | some d => fidV T S d what) (r_em am σ h) := hZ
  unfold wq_Model_fid wq_Model_fid_0 wq_Model_fid_78 wq_Model_fid_98 wq_Model_fid_112
  simp only [hs, rk, true_and]
  refine rt_fidOf hM σ hC.2.2.2.2.2.1 number _ (fun j d hj1 hj2 hj3 hd hrow => ⟨fun _ => ?_, fun z => absurd (nI_pos' (by omega)) z⟩) (fun hno => ⟨fun z => absurd z (by decide), fun _ => ?_⟩)
  rotate_left
  · rw [hno] at hz'; exact hz'
  rw [hd] at hz'
  have hz' : Z (fidV T S d what) (r_em am σ h) := hz'
  have hF : Fok T S d := hI.1.2.2.2.1 number d hd
  have hji : vp_in (nI j) 24 := vp_in_nI (by omega) (by decide)
  have hjc : (nI j).toNatClampNeg = j := nI_clamp (by omega)
  obtain ⟨r5, r6, r7, r8, r9⟩ := hrow
  obtain ⟨F1, F2⟩ := Fok_file hF
  simp only [hs, rk, rn, rP, rI, hji, hjc, r5, r6, r7, true_and, Option.some.injEq, exists_eq_left', Nat.reduceLT]
  unfold fidV at hz'
  refine ⟨fun q => ?_, fun q => ?_, fun q => ?_, fun q => ?_, fun q => ?_, fun q => ?_⟩
  · subst q; exact hz'
  · subst q; exact hz'
  · subst q
    have hz' : Z (cif (0 ≤ d_m d) 1 0) (r_em am σ h) := hz'
    exact ⟨fun y => by rw [cif_y y] at hz'; exact hz', fun y => by rw [cif_n y] at hz'; exact hz'⟩
  · subst q
    have hz' : Z (cif (0 ≤ d_m d) (d_m d) 0) (r_em am σ h) := hz'
    exact ⟨fun y => by rw [cif_y y] at hz'; exact hz', fun y => by rw [cif_n y] at hz'; exact hz'⟩
  · subst q
    have hz' : Z (cif (fileOf T S d = none) 1 0) (r_em am σ h) := hz'
    refine rq_isLost hM σ hj2 hF.1 r6 _ ?_
    have et0 : (nI (d_t d) = 0) ↔ d_t d = 0 := by
      show nI (d_t d) = nI 0 ↔ _
      have := hF.2.1
      have := hI.1.2.2.2.2.2.1
      exact nI_eq (by omega) (by decide)
    rw [r5]
    cases hfo : fileOf T S d with
    | none =>
      obtain ⟨y1, y2⟩ := F1 hfo
      have := RT_get0 hC.2.2.1 hF.1 y2
      rw [r60] at this
      rw [if_pos ⟨et0.mpr y1, this⟩]
      rw [cif_y hfo] at hz'
      exact ⟨fun z => absurd z (by decide), fun _ => hz'⟩
    | some f =>
      obtain ⟨Tr, y1, y2⟩ := F2 f hfo
      have nl : ¬ (nI (d_t d) = 0 ∧ σ.2.2 O_is (d_p d) = 0) := by
        rintro ⟨w1, w2⟩
        have ht0 := et0.mp w1
        unfold trOf at y1
        rw [if_pos ht0] at y1
        rw [← Option.some.inj y1] at y2
        have := (RT_get hC.2.2.1 y2).2.1
        rw [r60, w2] at this
        exact absurd this (by decide)
      rw [if_neg nl]
      rw [cif_n (by rw [hfo]; simp)] at hz'
      exact ⟨fun _ => hz', fun z => absurd rfl z⟩
  · obtain ⟨q0, q1, q2, q3, q4⟩ := q
    rw [if_neg q0, if_neg q1, if_neg q2, if_neg q3, if_neg q4] at hz'
    exact hz'
set_option maxHeartbeats 1000000 in
theorem rx_fil (hX : RX ge am σ h X) (tree path what : Int32) (Z : Int32 → mm_M → Prop) (hZ : Z (xFil tree path what X) (r_em am σ h)) : wq_Model_file ge am tree path what (r_em am σ h) Z := by
  obtain ⟨⟨L, A⟩, ⟨T, S, J⟩, ⟨fm, fc, gv, tm, ms⟩, ⟨il, er⟩, ⟨st, by_⟩⟩ := X
  obtain ⟨hM, hg, hK, hC, hz, ⟨h1, h2⟩, hB⟩ := hX
  have hs := hM
  unfold RM at hs
  have hS6 := hC.2.2.2.1.1
  have hsn := hC.2.2.2.1.2.1
  have hz' : Z (match ix (tree + 1) (S.length + 1), ix path 60 with
    | some t, some p => match trOf T S t with
      | none => -9
      | some Tr => match Tr p with
        | none => -9
        | some f => filV Tr p f what
    | _, _ => -9) (r_em am σ h) := hZ
  -- the tree's number
  have tr1 : ∀ t : Nat, t ≤ S.length → tree + 1 = nI t → tree = nI t - 1 := fun t _ e => by rw [← e, Int32.add_sub_cancel]
  have lo : ∀ t : Nat, t ≤ 6 → ¬ nI t - 1 < -1 ∧ ((nI S.length ≤ nI t - 1) ↔ S.length < t) := by
    intro t ht
    have h6 : ∀ a, a ≤ 6 → ∀ b, b ≤ 6 → ¬ nI b - 1 < -1 ∧ ((nI a ≤ nI b - 1) ↔ a < b) := by decide
    exact h6 S.length hS6 t ht
  unfold wq_Model_file wq_Model_file_0 wq_Model_file_37 wq_Model_spot wq_Model_spot_0
  simp only [hs, rk, rI0, hsn, true_and]
  cases hx : ix (tree + 1) (S.length + 1) with
  | none =>
    rw [hx] at hz'
    have hz' : Z (-9) (r_em am σ h) := hz'
    refine ⟨fun _ => hz', fun n1 => ⟨fun _ => hz', fun n2 => ?_⟩⟩
    exfalso
    -- -1 ≤ tree < S.length
    have a1 : (-1 : Int) ≤ tree.toInt := by
      have := Int32.le_iff_toInt_le.mp (Int32.not_lt.mp n1)
      exact this
    have a2 : tree.toInt < (S.length : Int) := by
      have := Int32.lt_iff_toInt_lt.mp (Int32.not_le.mp n2)
      rw [nI_toInt (by omega)] at this
      exact this
    have e : tree + 1 = nI (tree.toInt + 1).toNat := by
      apply Int32.toInt_inj.mp
      rw [nI_toInt (by omega), Int32.toInt_add]
      show ((tree.toInt + 1).bmod (2 ^ 32)) = _
      rw [Int.bmod_eq_of_le (by omega) (by omega)]
      omega
    rw [e, ix_y (by omega) (by omega)] at hx
    cases hx
  | some t =>
    obtain ⟨x1, x2⟩ := ix_s hx
    have ht := tr1 t (by omega) x1
    obtain ⟨l1, l2⟩ := lo t (by omega)
    have et : tree + 1 = nI t := x1
    rw [hx] at hz'
    refine ⟨fun z => absurd z (by rw [ht]; exact l1), fun _ => ⟨fun z => absurd (by rw [ht] at z; exact l2.mp z) (by omega), fun _ => ?_⟩⟩
    refine rq_isIn _ _ _ _ _ ?_
    cases hy : ix path 60 with
    | none =>
      rw [hy] at hz'
      have hz' : Z (-9) (r_em am σ h) := hz'
      rw [if_neg]
      · exact ⟨fun _ => hz', fun z => absurd rfl z⟩
      · rintro ⟨w1, w2⟩
        obtain ⟨p, hp, rfl⟩ := nI_of (Int32.not_lt.mpr w1)
        have : p < 60 := (nI_ltI hp (by decide)).mp w2
        rw [ix_y this (by decide)] at hy
        cases hy
    | some p =>
      obtain ⟨y1, y2⟩ := ix_s hy
      rw [hy] at hz'
      subst y1
      rw [if_pos ⟨nI_pos' (by omega), nI_lt y2 (by decide)⟩]
      refine ⟨fun z => absurd z (by decide), fun _ => ?_⟩
      obtain ⟨Tr, hTr⟩ := trOf_some (T := T) (S := S) (t := t) (by omega)
      obtain ⟨rT, t28⟩ := RR_tr hC hTr
      have hz' : Z (match Tr p with | none => -9 | some f => filV Tr p f what) (r_em am σ h) := by
        have h0 := hz'
        simp only [hTr] at h0
        exact h0
      obtain ⟨y, ey⟩ : ∃ y, y = 60 * t + p := ⟨_, rfl⟩
      have hin : vp_in (nI y) 1680 := vp_in_nI (by omega) (by decide)
      have hcl : (nI y).toNatClampNeg = y := nI_clamp (by omega)
      simp only [hs, rk, rn, rP, rI, et, r_sp, ← ey, hin, hcl, true_and, Option.some.injEq, exists_eq_left', Nat.reduceLT]
      have r1 := rT.1 p y2
      rw [← ey] at r1
      rcases r1 with ⟨t1, i1⟩ | ⟨f, t1, i1, kf, rf⟩
      · rw [i1]
        rw [t1] at hz'
        exact ⟨fun z => absurd rfl z, fun _ => hz'⟩
      · rw [i1]
        rw [t1] at hz'
        have hz' : Z (filV Tr p f what) (r_em am σ h) := hz'
        refine ⟨fun _ => ?_, fun z => absurd z (by decide)⟩
        obtain ⟨u1, u2, u3, u4, ⟨u5, u6⟩, u7, u8⟩ := rf
        simp only [u1, u2, u3, u4, u5]
        unfold filV at hz'
        refine ⟨fun q => ?_, fun q => ?_, fun q => ?_, fun q => ?_, fun q => ?_, fun q => ?_, fun q => ?_⟩
        · subst q; exact hz'
        · subst q; exact hz'
        · subst q; exact hz'
        · subst q; exact hz'
        · subst q
          have hz' : Z (cif (0 ≤ f_md f) (nI (f_dt f).length) (nI (cnt (inD Tr (nI p)) 60))) (r_em am σ h) := hz'
          refine rq_isDirectory hM σ (by omega) _ ?_
          rw [u2]
          unfold wq_Model_file_147
          by_cases hd : 0 ≤ f_md f
          · rw [if_pos hd]
            rw [cif_y hd] at hz'
            refine ⟨fun _ => ?_, fun z => absurd rfl z⟩
            simp only [hs, rk, rn, rP, rI, hin, hcl, u7, true_and, Option.some.injEq, exists_eq_left', Nat.reduceLT]
            exact hz'
          · rw [if_neg hd]
            rw [cif_n hd] at hz'
            refine ⟨fun z => absurd z (by decide), fun _ => ?_⟩
            simp only [hs, rk, true_and]
            refine rq_filesIn hM σ t28 (nI p) _ ?_
            rw [r_cnt_eq rT (nI p) 60 (by decide)]
            exact hz'
        · subst q; exact hz'
        · obtain ⟨q0, q1, q2, q3, q4, q5⟩ := q
          rw [if_neg q0, if_neg q1, if_neg q2, if_neg q3, if_neg q4, if_neg q5] at hz'
          exact hz'
end RSM
