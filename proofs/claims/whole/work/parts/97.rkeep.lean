/-! the reference: keep, message; its state against sX -/
theorem isB_bits {x : Int32} (h : ∀ i, 8 ≤ i → i < 32 → bt x i = false) : isB x := by
  apply b_ext
  intro i hi
  rw [b_and, b_255]
  by_cases c : i < 8
  · rw [decide_eq_true c, Bool.and_true]
  · rw [decide_eq_false c, Bool.and_false, h i (by omega) hi]
theorem bt_nI (t i : Nat) (hi : i < 32) : bt (nI t) i = t.testBit i := by
  show (BitVec.ofNat 32 t).getLsbD i = _
  rw [BitVec.getLsbD_ofNat, decide_eq_true hi, Bool.true_and]
theorem tag_hi {t : Nat} (ht : t < 65536) : (nI t) >>> ((8 : Int32) &&& 31) = r_b8 (nI t).toInt64 1 := by
  rw [b8_i _ (by decide), show (8 : Int32) * nI 1 &&& 31 = (8 : Int32) &&& 31 by decide]
  refine (isB_bits (fun i h1 h2 => ?_)).symm
  rw [b_sshr8 _ h2]
  split
  · rw [bt_nI _ _ (by omega)]
    exact Nat.testBit_lt_two_pow (Nat.lt_of_lt_of_le ht (by show 2 ^ 16 ≤ _; exact Nat.pow_le_pow_right (by decide) (by omega)))
  · rw [bt_nI _ _ (by decide)]
    exact Nat.testBit_lt_two_pow (Nat.lt_of_lt_of_le ht (by decide))
def RX (ge : Nat → Nat) (am : Nat) (σ : rS) (h : mm_M) : sX → Prop
  | ((L, A), (T, S, J), (fm, fc, gv, tm, ms), (il, er), (st, by_)) => RM am h ∧ ge 0 ≤ am ∧ RK ge h ∧ RR σ σ L A T S J fm fc gv tm ms ∧ σ.1 F_tapeSize = nI L.length ∧ (σ.1 F_ill = il ∧ σ.1 F_errors = er) ∧ Rst σ st by_
def IvX : sX → Prop
  | (_, (T, S, J), (fm, fc, gv, _, ms), _) => Iv2 T S J fm fc gv ms
section RME
variable {ge : Nat → Nat} {am : Nat} {h : mm_M} {σ0 σ1 σ σ' : rS} {L A : List Int32} {T T' Tr : sT} {S J J' : List sT} {fm : sM} {fc gv : Nat} {tm : Int32} {ms : Nat}
theorem RR_base (hr : rrs σ1 σ) (H : RR σ0 σ L A T S J fm fc gv tm ms) : RR σ1 σ L A T S J fm fc gv tm ms := ⟨H.1, H.2.1, H.2.2.1, H.2.2.2.1, H.2.2.2.2.1, H.2.2.2.2.2.1, H.2.2.2.2.2.2.1, hr⟩
theorem RR_L (H : RR σ0 σ L A T S J fm fc gv tm ms) : RR σ0 σ [] A T S J fm fc gv tm ms := ⟨⟨fun k hk => absurd hk (Nat.not_lt_zero k), allB_nil, by simp⟩, H.2⟩
/-- fields that the state is not told by, but for what a message leaves -/
theorem RR_fs (h1 : ∀ i, ((9 ≤ i ∧ i ≤ 13) ∨ i = 17 ∨ i = 20 ∨ i = 27) → σ'.1 i = σ.1 i) (h2 : σ'.2.2 = σ.2.2) (H : RR σ0 σ L A T S J fm fc gv tm ms) : RR σ' σ' L A T S J fm fc gv tm ms := by
  obtain ⟨a, ⟨b, b'⟩, c, d, e, f, ⟨g1, g2, g3⟩, i⟩ := H
  have ht : ∀ t T, RT σ t T → RT σ' t T := fun t T hT => RT_of (fun o j _ => by rw [h2]) hT
  exact ⟨Rta_of (fun j => by rw [h2]) a, ⟨Ran_of (fun j => by rw [h2]) (h1 17 (by omega)) b, b'⟩, ht _ _ c, Rsn_of (fun t T _ _ => ht t T) (h1 11 (by omega)) d, Rjn_of (fun t T _ _ => ht t T) (h1 13 (by omega)) (h1 12 (by omega)) e, Rfd_of (fun o j _ _ => by rw [h2]) (h1 27 (by omega)) f, ⟨(h1 9 (by omega)).trans g1, (h1 10 (by omega)).trans g2, (h1 20 (by omega)).trans g3⟩, rrs_rf _⟩
theorem RR_tm (x : Int32) (H : RR σ0 σ L A T S J fm fc gv tm ms) : RR (r_f σ F_time x) (r_f σ F_time x) L A T S J fm fc gv x ms := by
  obtain ⟨a, ⟨b, b'⟩, c, d, e, f, ⟨g1, g2, g3⟩, i⟩ := H
  have h : ∀ k, ¬ k = F_time → (r_f σ F_time x).1 k = σ.1 k := fun k hk => by rw [rf1, if_neg hk]
  exact ⟨a, ⟨Ran_of (fun _ => rfl) (h _ (by decide)) b, b'⟩, c, Rsn_of (fun _ _ _ _ z => z) (h _ (by decide)) d, Rjn_of (fun _ _ _ _ z => z) (h _ (by decide)) (h _ (by decide)) e, Rfd_of (fun _ _ _ _ => rfl) (h _ (by decide)) f, ⟨(h _ (by decide)).trans g1, by rw [rf1, if_pos rfl], (h _ (by decide)).trans g3⟩, rrs_rf _⟩
/-- the ring of kept trees has changed -/
theorem RR_jn {g : Nat} (hg1 : 7 ≤ g) (hg2 : g ≤ 26) (hf : ∀ i, ¬ i = 12 → ¬ i = 13 → σ'.1 i = σ.1 i) (hfr : frr (60 * g) (60 * g + 60) σ σ') (hj : Rjn σ' J') (H : RR σ0 σ L A T S J fm fc gv tm ms) : RR σ' σ' L A T S J' fm fc gv tm ms := by
  obtain ⟨a, ⟨b, b'⟩, c, d, e, f, ⟨g1, g2, g3⟩, i⟩ := H
  have hi : ∀ o j, 10 ≤ o → σ'.2.2 o j = σ.2.2 o j := fun o j ho => hfr o j (fun z => absurd z (by omega)) (fun z => absurd z (by omega)) (fun z => absurd z (by omega))
  exact ⟨Rta_of (fun j => hi _ j (by decide)) a, ⟨Ran_of (fun j => hi _ j (by decide)) (hf _ (by decide) (by decide)) b, b'⟩, RT_fr hfr (by omega) c, Rsn_of (fun t T _ _ hT => RT_fr hfr (by omega) hT) (hf _ (by decide) (by decide)) d, hj, Rfd_of (fun o j _ _ => hi o j (by omega)) (hf _ (by decide) (by decide)) f, ⟨(hf _ (by decide) (by decide)).trans g1, (hf _ (by decide) (by decide)).trans g2, (hf _ (by decide) (by decide)).trans g3⟩, rrs_rf _⟩
theorem RR_j0 (H : RR σ0 σ L A T S J fm fc gv tm ms) : RR (r_f σ F_loose 0) (r_f σ F_loose 0) L A T S [] fm fc gv tm ms := by
  obtain ⟨a, ⟨b, b'⟩, c, d, ⟨e1, e2, lf, e3, e4, e5⟩, f, ⟨g1, g2, g3⟩, i⟩ := H
  have h : ∀ k, ¬ k = F_loose → (r_f σ F_loose 0).1 k = σ.1 k := fun k hk => by rw [rf1, if_neg hk]
  exact ⟨a, ⟨Ran_of (fun _ => rfl) (h _ (by decide)) b, b'⟩, c, Rsn_of (fun _ _ _ _ z => z) (h _ (by decide)) d, ⟨by simp, by rw [rf1, if_pos rfl]; rfl, lf, e3, (h _ (by decide)).trans e4, fun i T hi => by cases hi⟩, Rfd_of (fun _ _ _ _ => rfl) (h _ (by decide)) f, ⟨(h _ (by decide)).trans g1, (h _ (by decide)).trans g2, (h _ (by decide)).trans g3⟩, rrs_rf _⟩
set_option maxHeartbeats 1000000 in
theorem rt_keep (hM : RM am h) (hg : ge 0 ≤ am) (hC : RR σ0 σ L A T S J fm fc gv tm ms) {W : sT} (hW : RT σ 27 W) (Z : mm_M → Prop)
    (hZ : ∀ σ', (∀ i, ¬ i = 12 → ¬ i = 13 → σ'.1 i = σ.1 i) → (∀ o i, 10 ≤ o → σ'.2.2 o i = σ.2.2 o i) → RR σ' σ' L A T S (pushJ J W) fm fc gv tm ms → Z (r_em am σ' h)) : wq_Model_keep ge am (r_em am σ h) Z := by
  have hs := hM
  unfold RM at hs
  obtain ⟨j1, j2, lf, j3, j4, j5⟩ := hC.2.2.2.2.1
  obtain ⟨l, el⟩ : ∃ l, l = J.length := ⟨_, rfl⟩
  rw [← el] at j1 j2
  have e20 : (nI l = 20) ↔ l = 20 := by
    show nI l = nI 20 ↔ _
    exact nI_eq (by omega) (by decide)
  have hk : ((nI lf + nI l) - (nI lf + nI l) / 20 * 20 : Int32) = nI ((lf + l) % 20) := by
    rw [nI_add]
    exact pk_rem (d := 20) (by omega) (by decide) (by decide)
  have hk2 : ((nI lf + 1) - (nI lf + 1) / 20 * 20 : Int32) = nI ((lf + 1) % 20) := by
    rw [show nI lf + 1 = nI (lf + 1) from (nI_succ lf).symm]
    exact pk_rem (d := 20) (by omega) (by decide) (by decide)
  obtain ⟨k, ek⟩ : ∃ k, k = (lf + l) % 20 := ⟨_, rfl⟩
  have k20 : k < 20 := by rw [ek]; exact Nat.mod_lt _ (by decide)
  have p48 : ∀ τ : rS, τ.2 = σ.2 → (∀ i, ¬ i = 12 → ¬ i = 13 → τ.1 i = σ.1 i) → (∀ τ' : rS, τ'.1 = τ.1 → (∀ t T, 7 ≤ t → t ≤ 26 → ¬ t = 7 + k → RT σ t T → RT τ' t T) → RT τ' (7 + k) W → Rjn τ' (pushJ J W)) → wq_Model_keep_48 ge am (nI k) (r_em am τ h) Z := by
    intro τ t1 t2 t3
    have hWτ : RT τ 27 W := RT_of (fun o j _ => by rw [t1]) hW
    unfold wq_Model_keep_48
    simp only [hs, rk, true_and]
    rw [show (7 : Int32) + nI k = nI (7 + k) from nI_add 7 k]
    refine rt_copy (f := 27) hM hg τ (by decide) (by omega) (by omega) hWτ _ (fun τ' hc => ?_)
    obtain ⟨c1, c2, c3, c4⟩ := hc
    have c4' : frr (60 * (7 + k)) (60 * (7 + k) + 60) σ τ' := fun o j x7 x8 x9 => by rw [c4 o j x7 x8 x9, t1]
    have hf : ∀ i, ¬ i = 12 → ¬ i = 13 → τ'.1 i = σ.1 i := fun i z1 z2 => by rw [c1]; exact t2 i z1 z2
    refine hZ τ' hf (fun o j ho => c4' o j (fun z => absurd z (by omega)) (fun z => absurd z (by omega)) (fun z => absurd z (by omega))) (RR_jn (g := 7 + k) (by omega) (by omega) hf c4' (t3 τ' c1 (fun t T' h1 h2 h3 hT => RT_fr c4' (by omega) hT) c3) hC)
  unfold wq_Model_keep wq_Model_keep_0
  simp only [hs, rk, rI0, rU0, j2, j4, hg, e20, hk, hk2, ← ek, true_and, forall_eq]
  refine ⟨fun q => p48 _ rfl (fun i z1 z2 => by rw [rf1, if_neg z2]) (fun τ' h1 h2 h3 => ?_), fun q => p48 _ rfl (fun i z1 z2 => by rw [rf1, if_neg z1]) (fun τ' h1 h2 h3 => ?_)⟩
  · have hJ : pushJ J W = J ++ [W] := if_neg (by omega)
    rw [hJ]
    refine ⟨by rw [List.length_append]; show J.length + 1 ≤ 20; omega, ?_, lf, j3, ?_, fun i T' hi => ?_⟩
    · rw [h1, rf1, if_pos rfl, show nI l + 1 = nI (l + 1) from (nI_succ l).symm, List.length_append, el]
      rfl
    · rw [h1, rf1, if_neg (by decide)]; exact j4
    · by_cases c : i < J.length
      · rw [List.getElem?_append_left c] at hi
        exact h2 _ _ (by omega) (by omega) (by omega) (j5 i T' hi)
      · have hl : i < (J ++ [W]).length := (List.getElem?_eq_some_iff.mp hi).1
        rw [List.length_append] at hl
        have hl : i < J.length + 1 := hl
        have ei : i = J.length := by omega
        rw [List.getElem?_append_right (by omega), ei, Nat.sub_self] at hi
        have hi : some W = some T' := hi
        cases hi
        rw [ei, ← el, ← ek]
        exact h3
  · have hJ : pushJ J W = J.tail ++ [W] := if_pos (by omega)
    have htl : J.tail.length = 19 := by rw [List.length_tail]; omega
    rw [hJ]
    refine ⟨by rw [List.length_append, htl]; show 19 + 1 ≤ 20; decide, ?_, (lf + 1) % 20, Nat.mod_lt _ (by decide), ?_, fun i T' hi => ?_⟩
    · rw [h1, rf1, if_neg (by decide), List.length_append, htl]
      rw [j2, q]
      rfl
    · rw [h1, rf1, if_pos rfl]
    · by_cases c : i < 19
      · rw [List.getElem?_append_left (by omega), List.getElem?_tail] at hi
        rw [show ((lf + 1) % 20 + i) % 20 = (lf + (i + 1)) % 20 by omega]
        exact h2 _ _ (by omega) (by omega) (by omega) (j5 (i + 1) T' hi)
      · have hl : i < (J.tail ++ [W]).length := (List.getElem?_eq_some_iff.mp hi).1
        rw [List.length_append, htl] at hl
        have hl : i < 19 + 1 := hl
        have ei : i = 19 := by omega
        rw [List.getElem?_append_right (by omega), ei, htl, Nat.sub_self] at hi
        have hi : some W = some T' := hi
        cases hi
        rw [ei, show ((lf + 1) % 20 + 19) % 20 = k by omega]
        exact h3
set_option maxHeartbeats 4000000 in
theorem rt_m189 (hM : RM am h) (hg : ge 0 ≤ am) {A7 B : List Int32} (hC : RR σ0 σ L (A7 ++ B) T' S J fm fc gv tm ms) (hA7 : A7.length = 7) (hW : RT σ 27 T) {ty : Int32} (hty : isB (ty + 1)) {t : Nat} (ht : t < 65536) {sy : Int32} (hsy : σ.1 52 = sy) (Z : Int32 → mm_M → Prop)
    (hZ : ∀ σ', (∀ i, ¬ i = 12 → ¬ i = 13 → σ'.1 i = σ.1 i) → (∀ j, σ'.2.2 O_score j = σ.2.2 O_score j) → RR σ' σ' L (ansL (ty + 1) (nI t) B) T' S (if sy = 0 then jn J T T' else []) fm fc gv tm ms → Z (nI (7 + B.length)) (r_em am σ' h)) : wq_Model_message_189 ge am ty (nI t) (r_em am σ h) Z := by
  have hs := hM
  unfold RM at hs
  have hsz := hC.2.1.1.1
  have hln := hC.2.1.2
  rw [List.length_append, hA7] at hsz hln
  have v4 : vp_in (4 : Int32) 1500 := vp_in_nI (n := 4) (by decide) (by decide)
  have v5 : vp_in (5 : Int32) 1500 := vp_in_nI (n := 5) (by decide) (by decide)
  have v6 : vp_in (6 : Int32) 1500 := vp_in_nI (n := 6) (by decide) (by decide)
  have c4 : (4 : Int32).toNatClampNeg = 4 := rfl
  have c5 : (5 : Int32).toNatClampNeg = 5 := rfl
  have c6 : (6 : Int32).toNatClampNeg = 6 := rfl
  unfold wq_Model_message_189
  simp only [hs, rk, rn, rP, rU, v4, v5, v6, c4, c5, c6, ge0 hg, true_and, Option.some.injEq, exists_eq_left', forall_eq, Nat.reduceLT]
  obtain ⟨τ, eτ⟩ : ∃ τ, τ = r_a (r_a (r_a σ 11 4 (ty + 1)) 11 5 (nI t &&& 255)) 11 6 (nI t >>> ((8 : Int32) &&& 31)) := ⟨_, rfl⟩
  rw [← eτ]
  have f0 : ∀ i, τ.1 i = σ.1 i := fun i => by rw [eτ]; rfl
  have a0 : ∀ o i, ¬ o = 11 → τ.2.2 o i = σ.2.2 o i := fun o i z => by rw [eτ, ra_n z, ra_n z, ra_n z]
  have a1 : ∀ i, 7 ≤ i → τ.2.2 11 i = σ.2.2 11 i := fun i z => by rw [eτ, ra_k (by omega), ra_k (by omega), ra_k (by omega)]
  have a4 : τ.2.2 11 4 = ty + 1 := by rw [eτ, ra_k (by decide), ra_k (by decide), ra_y]
  have a5 : τ.2.2 11 5 = r_b8 (nI t).toInt64 0 := by rw [eτ, ra_k (by decide), ra_y, b8_0]
  have a6 : τ.2.2 11 6 = r_b8 (nI t).toInt64 1 := by rw [eτ, ra_y, tag_hi ht]
  -- the end
  have fin : ∀ ρ : rS, (∀ i, ρ.1 i = σ.1 i) → (∀ o i, ¬ (o = 11 ∧ i < 4) → ρ.2.2 o i = τ.2.2 o i) → (∀ i, i < 4 → ρ.2.2 11 i = r_b8 (nI (7 + B.length)).toInt64 i) → wq_Model_isSame ge am 0 27 (r_em am ρ h) (fun r3 h2 => (¬ r3 = 0 → wq_Model_message_273 ge am h2 Z) ∧ (r3 = 0 → mm_k h2 am = kd_Model ∧ wq_Model_keep ge am h2 (fun h5 => wq_Model_message_273 ge am h5 Z))) := by
    intro ρ r1 r2 r3
    have hH : r_an ρ (ansL (ty + 1) (nI t) B) := by
      unfold ansL
      refine ⟨?_, fun j x hj => ?_⟩
      · rw [r1, hsz]
        congr 1
        simp only [List.length_append, le_len]
        omega
      · by_cases h4 : j < 4
        · rw [r3 j h4]
          rw [List.getElem?_append_left (by rw [le_len]; exact h4), le_get h4] at hj
          exact Option.some.inj hj
        · rw [r2 _ _ (fun w => h4 w.2)]
          rw [List.getElem?_append_right (by rw [le_len]; omega), le_len] at hj
          by_cases h7 : j < 7
          · rw [List.getElem?_append_left (by rw [List.length_append, le_len, le_len]; omega)] at hj
            rcases (by omega : j = 4 ∨ j = 5 ∨ j = 6) with ej | ej | ej
            · subst ej
              rw [List.getElem?_append_left (by rw [le_len]; decide), le1B hty] at hj
              show τ.2.2 11 4 = x
              rw [a4]
              exact Option.some.inj hj
            · subst ej
              rw [List.getElem?_append_right (by rw [le_len]; decide), le_len, le_get (by decide)] at hj
              show τ.2.2 11 5 = x
              rw [a5]
              exact Option.some.inj hj
            · subst ej
              rw [List.getElem?_append_right (by rw [le_len]; decide), le_len, le_get (by decide)] at hj
              show τ.2.2 11 6 = x
              rw [a6]
              exact Option.some.inj hj
          · rw [List.getElem?_append_right (by rw [List.length_append, le_len, le_len]; omega), List.length_append, le_len, le_len] at hj
            show τ.2.2 11 j = x
            rw [a1 j (by omega)]
            refine hC.2.1.1.2 j x ?_
            rw [List.getElem?_append_right (by omega), hA7, show j - 7 = j - 4 - (1 + 2) by omega]
            exact hj
    have Cρ : RR σ0 ρ L (ansL (ty + 1) (nI t) B) T' S J fm fc gv tm ms := by
      refine RR_an (σ := σ) (fun k _ => r1 k) (fun o j ho => by rw [r2 o j (fun w => ho w.1), a0 o j ho]) hH ?_ hC
      unfold ansL
      simp only [List.length_append, le_len]
      omega
    have hWρ : RT ρ 27 T := RT_of (fun o j ho => by rw [r2 o j (fun w => by omega), a0 o j (by omega)]) hW
    have sc : ∀ j, ρ.2.2 O_score j = σ.2.2 O_score j := fun j => by rw [r2 _ _ (fun w => absurd w.1 (by decide)), a0 _ _ (by decide)]
    have e273 : ∀ (π : rS) (Jn : List sT), (∀ i, ¬ i = 12 → ¬ i = 13 → π.1 i = σ.1 i) → (∀ j, π.2.2 O_score j = σ.2.2 O_score j) → RR π π L (ansL (ty + 1) (nI t) B) T' S Jn fm fc gv tm ms → Jn = jn J T T' → wq_Model_message_273 ge am (r_em am π h) Z := by
      intro π Jn p1 p2 Cπ eJ
      have ps : π.1 52 = sy := (p1 _ (by decide) (by decide)).trans hsy
      have pz : π.1 17 = nI (7 + B.length) := (p1 _ (by decide) (by decide)).trans hsz
      unfold wq_Model_message_273 wq_Model_message_285
      simp only [hs, rk, rI0, rU0, ps, pz, hg, true_and, forall_eq]
      refine ⟨fun z => ?_, fun z => ?_⟩
      · refine hZ π p1 p2 ?_
        rw [if_pos z, ← eJ]
        exact Cπ
      · have pz2 : (r_f π 13 0).1 17 = nI (7 + B.length) := pz
        rw [pz2]
        refine hZ _ (fun i z1 z2 => by rw [rf1, if_neg z2]; exact p1 i z1 z2) p2 ?_
        rw [if_neg z]
        exact RR_j0 Cπ
    refine rt_isSame (f := 0) (g := 27) hM ρ (by decide) (by decide) Cρ.2.2.1 hWρ _ (fun z => ⟨fun _ => ?_, fun w => absurd w (by decide)⟩) (fun z => ⟨fun w => absurd rfl w, fun _ => ?_⟩)
    · exact e273 ρ J (fun i _ _ => r1 i) sc (RR_base (rrs_rf _) Cρ) (cif_y z).symm
    · simp only [hs, rk, true_and]
      refine rt_keep hM hg Cρ hWρ _ (fun π p1 p2 Cπ => ?_)
      exact e273 π _ (fun i z1 z2 => (p1 i z1 z2).trans (r1 i)) (fun j => (p2 _ _ (by decide)).trans (sc j)) Cπ (cif_n z).symm
  unfold lp_Model_message_226
  intro X hX
  have key : ∀ (m k : Nat) (ρ : rS), k + m = 4 → (∀ i, ρ.1 i = σ.1 i) → (∀ o i, ¬ (o = 11 ∧ i < k) → ρ.2.2 o i = τ.2.2 o i) → (∀ i, i < k → ρ.2.2 11 i = r_b8 (nI (7 + B.length)).toInt64 i) → X am (nI k) (r_em am ρ h) := by
    intro m
    induction m with
    | zero =>
      intro k ρ hk r1 r2 r3
      have e : k = 4 := by omega
      subst e
      refine hX _ _ _ ?_
      unfold wq_Model_message_226
      simp only [hs, rk, true_and]
      exact ⟨fun _ => fin ρ r1 r2 r3, fun z => absurd (nI_le (a := 4) (Nat.le_refl 4) (by decide)) z⟩
    | succ m ih =>
      intro k ρ hk r1 r2 r3
      refine hX _ _ _ ?_
      have w1 : vp_in (nI k) 1500 := vp_in_nI (by omega) (by decide)
      have w2 : (nI k).toNatClampNeg = k := nI_clamp (by omega)
      have z17 : ρ.1 17 = nI (7 + B.length) := (r1 17).trans hsz
      unfold wq_Model_message_226
      refine ⟨fun z => absurd z (nI_ge (b := 4) (by omega) (by decide)), fun _ => ?_⟩
      simp only [hs, rk, rn, rP, rI0, rU, w1, w2, z17, ge0 hg, true_and, Option.some.injEq, exists_eq_left', forall_eq, Nat.reduceLT]
      rw [show nI k + 1 = nI (k + 1) from (nI_succ k).symm]
      refine ih (k + 1) _ (by omega) r1 (fun o i z => ?_) (fun i hi => ?_)
      · rw [raa, if_neg (fun w => z ⟨w.1, by omega⟩)]
        exact r2 o i (fun w => z ⟨w.1, by omega⟩)
      · rw [raa]
        by_cases c : i = k
        · rw [if_pos ⟨rfl, c⟩, c, b8_i _ (by omega)]
        · rw [if_neg (fun w => c w.2)]
          exact r3 i (by omega)
  exact key 4 0 τ rfl f0 (fun _ _ _ => rfl) (fun i hi => absurd hi (by omega))
end RME
