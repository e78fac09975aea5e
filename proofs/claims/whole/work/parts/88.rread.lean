/-! the reference: readsOf -/
theorem fset_same {fm : sM} {x : Int32} {d : sD} (h : fm x = some d) : fset fm x (some d) = fm := funext (fun y => by
  unfold fset
  by_cases e : y = x
  · rw [if_pos e, e, h]
  · rw [if_neg e])
section RRd
variable {ge : Nat → Nat} {am : Nat} {h : mm_M} {σ0 σ σ' : rS} {L A : List Int32} {T Tr : sT} {S J : List sT} {fm : sM} {fc gv : Nat} {tm : Int32} {ms : Nat} {sy : Int32}
/-- the answer alone has changed -/
theorem RR_an {A' : List Int32} (hf : ∀ k, ¬ k = F_answerSize → σ'.1 k = σ.1 k) (h1 : ∀ o j, ¬ o = O_answer → σ'.2.2 o j = σ.2.2 o j) (ha : r_an σ' A') (hl : A'.length ≤ 1400) (H : RR σ0 σ L A T S J fm fc gv tm ms) : RR σ0 σ' L A' T S J fm fc gv tm ms := by
  obtain ⟨a, ⟨b, b'⟩, c, d, e, f, ⟨g1, g2, g3⟩, i⟩ := H
  have ht : ∀ t T, RT σ t T → RT σ' t T := fun t T hT => RT_of (fun o j ho => h1 o j (by show ¬ o = 11; omega)) hT
  exact ⟨Rta_of (fun j => h1 _ j (by decide)) a, ⟨ha, hl⟩, ht _ _ c, Rsn_of (fun t T _ _ => ht t T) (hf _ (by decide)) d, Rjn_of (fun t T _ _ => ht t T) (hf _ (by decide)) (hf _ (by decide)) e, Rfd_of (fun o j h2 h3 => h1 o j (by show ¬ o = 11; omega)) (hf _ (by decide)) f, ⟨(hf _ (by decide)).trans g1, (hf _ (by decide)).trans g2, (hf _ (by decide)).trans g3⟩, rrs_of (fun k _ hk _ _ _ => hf k hk) (fun j => h1 _ j (by decide)) (fun T hT => ht _ _ hT) i⟩
/-- some bytes of the answer are laid over -/
theorem r_an_ow {A Q B : List Int32} {n a : Nat} {v : Int64} (hA : A.length = a) (hQ : Q.length = n) (h0 : σ'.1 F_answerSize = σ.1 F_answerSize) (h2 : ∀ i, ¬ (a ≤ i ∧ i < a + n) → σ'.2.2 O_answer i = σ.2.2 O_answer i) (h3 : ∀ i, i < n → σ'.2.2 O_answer (a + i) = r_b8 v i) (H : r_an σ (A ++ Q ++ B)) : r_an σ' (A ++ le n v ++ B) := by
  subst hA
  refine ⟨?_, fun j x hj => ?_⟩
  · rw [h0, H.1]
    simp only [List.length_append, le_len, hQ]
  · by_cases h1 : j < A.length
    · rw [h2 j (by omega)]
      rw [List.append_assoc, List.getElem?_append_left h1] at hj
      exact H.2 j x (by rw [List.append_assoc, List.getElem?_append_left h1]; exact hj)
    · by_cases h4 : j < A.length + n
      · have := h3 (j - A.length) (by omega)
        rw [show A.length + (j - A.length) = j by omega] at this
        rw [this]
        rw [List.append_assoc, List.getElem?_append_right (by omega), List.getElem?_append_left (by rw [le_len]; omega), le_get (by omega)] at hj
        exact Option.some.inj hj
      · rw [h2 j (by omega)]
        refine H.2 j x ?_
        rw [List.getElem?_append_right (by rw [List.length_append, le_len]; omega), List.length_append, le_len] at hj
        rw [List.getElem?_append_right (by rw [List.length_append, hQ]; omega), List.length_append, hQ]
        exact hj
theorem RR_ow {Q B : List Int32} {n a : Nat} {v : Int64} (hA : A.length = a) (hQ : Q.length = n) (h1 : ∀ k, σ'.1 k = σ.1 k) (h2 : ∀ o i, ¬ (o = O_answer ∧ a ≤ i ∧ i < a + n) → σ'.2.2 o i = σ.2.2 o i) (h3 : ∀ i, i < n → σ'.2.2 O_answer (a + i) = r_b8 v i) (H : RR σ0 σ L (A ++ Q ++ B) T S J fm fc gv tm ms) : RR σ0 σ' L (A ++ le n v ++ B) T S J fm fc gv tm ms := by
  refine RR_an (fun k _ => h1 k) (fun o j ho => h2 o j (fun z => ho z.1)) (r_an_ow hA hQ (h1 _) (fun i z => h2 _ i (fun w => z w.2)) h3 H.2.1.1) ?_ H
  have := H.2.1.2
  simp only [List.length_append, le_len, hQ] at this ⊢
  exact this
/-- the count goes to its place, ahead of what has been put -/
theorem rt_r377 (hM : RM am h) (hg : ge 0 ≤ am) {B : List Int32} (hC : RR σ0 σ L (A ++ le 4 0 ++ B) T S J fm fc gv tm ms) (hA : A.length = 7) (Z : mm_M → Prop)
    (hZ : ∀ σ', (∀ k, σ'.1 k = σ.1 k) → RR σ0 σ' L (A ++ le 4 (nI B.length).toInt64 ++ B) T S J fm fc gv tm ms → Z (r_em am σ' h)) : wq_Model_readsOf_377 ge am (nI 7) (r_em am σ h) Z := by
  have hs := hM
  unfold RM at hs
  have hl := hC.2.1.2
  have hsz := hC.2.1.1.1
  simp only [List.length_append, le_len, hA] at hl hsz
  have en : (nI (7 + 4 + B.length) - nI 7) - 4 = nI B.length := by
    rw [nI_sub (by omega), show (4 : Int32) = nI 4 from rfl, nI_sub (by omega)]
    congr 1
    omega
  unfold wq_Model_readsOf_377 lp_Model_readsOf_391
  simp only [hs, rk, rI0, hsz, en, true_and]
  intro X hX
  have key : ∀ (m k : Nat) (τ : rS), k + m = 4 → (∀ i, τ.1 i = σ.1 i) → (∀ o i, ¬ (o = O_answer ∧ 7 ≤ i ∧ i < 7 + k) → τ.2.2 o i = σ.2.2 o i) → (∀ i, i < k → τ.2.2 O_answer (7 + i) = r_b8 (nI B.length).toInt64 i) → X am (nI 7) (nI B.length) (nI k) (r_em am τ h) := by
    intro m
    induction m with
    | zero =>
      intro k τ hk t1 t2 t3
      have e : k = 4 := by omega
      subst e
      refine hX _ _ _ _ _ ?_
      unfold wq_Model_readsOf_391
      exact ⟨fun _ => hZ τ t1 (RR_ow hA (le_len 4 0) t1 t2 t3 hC), fun z => absurd (nI_le (a := 4) (Nat.le_refl 4) (by decide)) z⟩
    | succ m ih =>
      intro k τ hk t1 t2 t3
      refine hX _ _ _ _ _ ?_
      have w1 : vp_in (nI (7 + k)) 1500 := vp_in_nI (by omega) (by decide)
      have w2 : (nI (7 + k)).toNatClampNeg = 7 + k := nI_clamp (by omega)
      unfold wq_Model_readsOf_391
      refine ⟨fun z => absurd z (nI_ge (b := 4) (by omega) (by decide)), fun _ => ?_⟩
      simp only [hs, rk, rn, rP, rU, nI_add, w1, w2, ge0 hg, true_and, Option.some.injEq, exists_eq_left', forall_eq, Nat.reduceLT]
      rw [show nI k + 1 = nI (k + 1) from (nI_succ k).symm]
      refine ih (k + 1) _ (by omega) t1 (fun o i z => ?_) (fun i hi => ?_)
      · rw [raa, if_neg (fun w => z ⟨w.1, by omega, by omega⟩)]
        exact t2 o i (fun w => z ⟨w.1, by omega, by omega⟩)
      · rw [raa]
        by_cases c : i = k
        · rw [if_pos ⟨rfl, by omega⟩, c, b8_i _ (by omega)]
        · rw [if_neg (fun w => c (by omega))]
          exact t3 i (by omega)
  exact key 4 0 σ rfl (fun _ => rfl) (fun _ _ _ => rfl) (fun i hi => absurd hi (by omega))
theorem rdOff_no {D : List Int32} {off : Int64} (hD : D.length ≤ 512) (h0 : off < 0 ∨ (nI D.length).toInt64 ≤ off) : rdOff D off = D.length := by
  unfold rdOff
  by_cases c : off < 0 ∨ (nI D.length).toInt64 < off
  · exact cif_y c
  · rw [cif_n c]
    have c1 : ¬ off < 0 := fun z => c (Or.inl z)
    have c2 : ¬ lN D.length < off := fun z => c (Or.inr (by rw [nI_l (by omega)]; exact z))
    obtain ⟨o, ho, e1, e2⟩ := l_of (by omega) c1 c2
    rw [e2, nI_clamp (by omega)]
    rcases h0 with z | z
    · exact absurd z c1
    · rw [nI_l (by omega), e1, lN_le (by omega) (by omega)] at z
      omega
set_option maxHeartbeats 4000000 in
theorem rt_read (hM : RM am h) (hg : ge 0 ≤ am) (hC : RR σ0 σ L A T S J fm fc gv tm ms) (hA : A.length = 7) (hms : 64 ≤ ms ∧ ms ≤ 1000) {j : Nat} {x : Int32} {d : sD} (hr : rfi σ fm fc j x d) (hFk : Fok T S d) {f : sF} (hto : trOf T S (d_t d) = some Tr) (hf : Tr (d_p d) = some f) {off : Int64} {c : Nat} (ho : σ.2.1 F_mOffset = off) (hc : σ.2.1 F_mCount = lN c) (hc2 : c < 2 ^ 32) (he : σ.1 F_error = 0) (hsy : σ.1 F_sync = sy) (Z : mm_M → Prop)
    (hZ : ∀ σ', RP σ0 L A S J tm ms sy (spRead T Tr fm fc gv ms x d f off c) σ' → Z (r_em am σ' h)) : wq_Model_readsOf ge am (nI j) (r_em am σ h) Z := by
  have hs := hM
  unfold RM at hs
  have er : ∀ k : Int32, spRead T Tr fm fc gv ms x d f off c = (k, [], T, fm, fc, gv) → ¬ k = 0 → Z (r_em am (r_f σ F_error k) h) := fun k hk nk => hZ _ (RP_er hC hsy hk nk)
  have hr0 := hr
  obtain ⟨r1, r2, r3, r4, r5, r6, r7, r8, r9⟩ := hr
  have hj : vp_in (nI j) 24 := vp_in_nI (by omega) (by decide)
  have hjc : (nI j).toNatClampNeg = j := nI_clamp (by omega)
  have hp : d_p d < 60 := hFk.1
  have hl60 : d_l d < 60 := hFk.2.2.1
  obtain ⟨rT, t28⟩ := RR_tr hC hto
  obtain ⟨_, i1, k1, rf⟩ := RT_get rT hf
  obtain ⟨y, ey⟩ : ∃ y, y = 60 * d_t d + d_p d := ⟨_, rfl⟩
  have hy : y < 1680 := by omega
  have hin : vp_in (nI y) 1680 := vp_in_nI hy (by decide)
  have hcl : (nI y).toNatClampNeg = y := nI_clamp (by omega)
  rw [← ey] at rf i1
  have hmz := hC.2.2.2.2.2.2.1.2.2
  have hsz := hC.2.1.1.1
  rw [hA] at hsz
  have l512 := k1.2.2.1
  have p3 : (¬ 0 ≤ d_m d ∨ d_m d &&& 3 = 1) → wq_Model_readsOf_22 ge am (nI j) (some am) (r_em am σ h) Z := by
    intro n3
    unfold wq_Model_readsOf_22 wq_Model_readsOf_27
    simp only [hs, rk, true_and, Option.some.injEq, exists_eq_left']
    exact rq_fails1 hM hg σ 3 _ ⟨fun z => absurd z (by decide), fun _ => er 3 (cif_y n3) (by decide)⟩
  have go3 : ¬ (¬ 0 ≤ d_m d ∨ d_m d &&& 3 = 1) → wq_Model_readsOf_27 ge am (nI j) (some am) 0 (r_em am σ h) Z := by
    intro n3
    obtain ⟨mo, emo⟩ : ∃ mo, mo = min c (ms - 11) := ⟨_, rfl⟩
    have hmo : mo ≤ 989 := by omega
    have e66 : wq_Model_readsOf_66 ge am (nI j) (nI mo) (r_em am σ h) Z := by
      unfold wq_Model_readsOf_66 wq_Model_spot wq_Model_spot_0
      simp only [hs, rk, rn, rP, rI0, rI, hj, hjc, r5, r6, r_sp, ← ey, hsz, true_and, Option.some.injEq, exists_eq_left', Nat.reduceLT]
      refine rq_isDirectory hM σ hy _ ?_
      rw [rf.2.1]
      by_cases hd : 0 ≤ f_md f
      · -- a file
        rw [if_pos hd]
        refine ⟨fun z => absurd rfl z, fun _ => ?_⟩
        simp only [hs, rk, true_and]
        refine rp_put (n := 4) hM hg σ hC.2.1.1.1 (by omega) _ _ ?_
        have C1 := RR_ap (le 4 0) (by rw [le_len]; omega) hC
        obtain ⟨σ1, e1⟩ : ∃ σ1, σ1 = r_ap σ (le 4 0) := ⟨_, rfl⟩
        rw [← e1] at C1 ⊢
        have q1 : ∀ k, ¬ k = F_answerSize → σ1.1 k = σ.1 k := fun k hk => by rw [e1]; exact ap_fd _ k hk
        have q2 : σ1.2.1 F_mOffset = off := by rw [e1, r_ap_l]; exact ho
        have hsp : spRead T Tr fm fc gv ms x d f off c = (0, le 4 (nI (min mo ((f_dt f).length - rdOff (f_dt f) off))).toInt64 ++ slc (f_dt f) (rdOff (f_dt f) off) (min mo ((f_dt f).length - rdOff (f_dt f) off)), T, fm, fc, gv) := by
          rw [emo]
          exact (cif_n n3).trans (cif_y hd)
        have fin : ∀ (τ : rS) (B : List Int32), (∀ k, ¬ k = F_answerSize → τ.1 k = σ.1 k) → RR σ0 τ L (A ++ le 4 0 ++ B) T S J fm fc gv tm ms → B = slc (f_dt f) (rdOff (f_dt f) off) (min mo ((f_dt f).length - rdOff (f_dt f) off)) → B.length = min mo ((f_dt f).length - rdOff (f_dt f) off) → wq_Model_readsOf_173 ge am (nI 7) (r_em am τ h) Z := by
          intro τ B t1 CB eB hB
          unfold wq_Model_readsOf_173
          refine rt_r377 hM hg CB hA Z (fun τ' a1 C2 => hZ _ ?_)
          rw [hsp]
          refine ⟨by rw [a1, t1 _ (by decide)]; exact he, by rw [a1, t1 _ (by decide)]; exact hsy, _, fun _ => ?_, C2⟩
          rw [hB, eB, List.append_assoc]
        simp only [hs, rk, rL0, q2, true_and]
        unfold lp_Model_readsOf_109
        intro X hX
        have none_ : (off < 0 ∨ (nI (f_dt f).length).toInt64 ≤ off) → wq_Model_readsOf_173 ge am (nI 7) (r_em am σ1 h) Z := by
          intro z
          have := rdOff_no l512 z
          refine fin σ1 [] q1 (by rw [List.append_nil]; exact C1) ?_ ?_
          · rw [this, Nat.sub_self, Nat.min_zero, slc_0]
          · rw [this, Nat.sub_self, Nat.min_zero]; rfl
        by_cases c0 : off < 0 ∨ (nI (f_dt f).length).toInt64 ≤ off
        · refine hX _ _ _ _ _ _ ?_
          unfold wq_Model_readsOf_109
          have rf1' : RF σ1 y f := by have := (RT_get (RR_tr C1 hto).1 hf).2.2.2; rw [← ey] at this; exact this
          simp only [hs, rk, rn, rP, rI, rL0, q2, hin, hcl, rf1'.2.2.2.2.2.1, lg_cmp_lt, lg_cmp_ge, true_and, Option.some.injEq, exists_eq_left', Nat.reduceLT]
          exact ⟨fun _ => none_ c0, fun z => ⟨fun _ => none_ c0, fun z2 => absurd (c0.resolve_left z) z2⟩⟩
        · have c1 : ¬ off < 0 := fun z => c0 (Or.inl z)
          have c2 : ¬ (nI (f_dt f).length).toInt64 ≤ off := fun z => c0 (Or.inr z)
          have c3 : ¬ lN (f_dt f).length < off := fun z => c2 (by rw [nI_l (by omega)]; exact Int64.le_of_lt z)
          obtain ⟨s, hs1, es1, es2⟩ := l_of (by omega) c1 c3
          have hsl : s < (f_dt f).length := by
            rw [nI_l (by omega), es1, lN_le (by omega) (by omega)] at c2
            omega
          have ero : rdOff (f_dt f) off = s := by
            unfold rdOff
            rw [cif_n (fun z => z.elim c1 (fun w => c3 (by rw [nI_l (by omega)] at w; exact w))), es2, nI_clamp (by omega)]
          rw [ero] at fin
          obtain ⟨N, eN⟩ : ∃ N, N = min mo ((f_dt f).length - s) := ⟨_, rfl⟩
          rw [← eN] at fin
          have key : ∀ (m i : Nat) (τ : rS), i + m = N → (∀ k, ¬ k = F_answerSize → τ.1 k = σ.1 k) → τ.2.1 F_mOffset = off → RR σ0 τ L (A ++ le 4 0 ++ slc (f_dt f) s i) T S J fm fc gv tm ms → X am (nI mo) (nI y) (nI 7) (lN (s + i)) (r_em am τ h) := by
            intro m
            induction m with
            | zero =>
              intro i τ hi t1 t2 t3
              have ei : i = N := by omega
              refine hX _ _ _ _ _ _ ?_
              unfold wq_Model_readsOf_109
              have rf2 : RF τ y f := by have := (RT_get (RR_tr t3 hto).1 hf).2.2.2; rw [← ey] at this; exact this
              have hB : wq_Model_readsOf_173 ge am (nI 7) (r_em am τ h) Z := fin τ _ t1 t3 (by rw [ei]) (by rw [slc_len (by omega), ei])
              simp only [hs, rk, rn, rP, rI, rL0, t2, hin, hcl, rf2.2.2.2.2.2.1, lg_cmp_lt, lg_cmp_ge, true_and, Option.some.injEq, exists_eq_left', Nat.reduceLT]
              refine ⟨fun _ => hB, fun _ => ⟨fun _ => hB, fun z2 => ⟨fun _ => hB, fun z3 => ?_⟩⟩⟩
              exfalso
              rw [nI_l (by omega), lN_le (by omega) (by omega)] at z2
              rw [es1, lN_sub (by omega), nI_l (by omega), lN_le (by omega) (by omega)] at z3
              omega
            | succ m ih =>
              intro i τ hi t1 t2 t3
              refine hX _ _ _ _ _ _ ?_
              unfold wq_Model_readsOf_109
              have rf2 : RF τ y f := by have := (RT_get (RR_tr t3 hto).1 hf).2.2.2; rw [← ey] at this; exact this
              have w1 : vp_in (nI (512 * y + (s + i))) 860160 := vp_in_nI (by omega) (by decide)
              have w2 : (nI (512 * y + (s + i))).toNatClampNeg = 512 * y + (s + i) := nI_clamp (by omega)
              have w3 : Int64.toInt32 (lN (s + i)) = nI (s + i) := lN_i _
              simp only [hs, rk, rn, rP, rI, rL0, t2, hin, hcl, rf2.2.2.2.2.2.1, w3, r_nmD, w1, w2, lg_cmp_lt, lg_cmp_ge, true_and, Option.some.injEq, exists_eq_left', Nat.reduceLT]
              refine ⟨fun z => absurd z c1, fun _ => ⟨fun z => ?_, fun _ => ⟨fun z => ?_, fun _ => ?_⟩⟩⟩
              · exfalso
                rw [nI_l (by omega), lN_le (by omega) (by omega)] at z
                omega
              · exfalso
                rw [es1, lN_sub (by omega), nI_l (by omega), lN_le (by omega) (by omega)] at z
                omega
              · rw [rf2.2.2.2.2.2.2 (s + i) (by omega)]
                have hlen : (A ++ le 4 0 ++ slc (f_dt f) s i).length = 11 + i := by
                  rw [List.length_append, List.length_append, le_len, hA, slc_len (by omega)]
                refine rp_put (n := 1) hM hg τ t3.2.1.1.1 (by rw [hlen]; omega) _ _ ?_
                rw [le1B (tp_B k1.2.2.2.2.1 _), lN_1]
                have C2 := RR_ap [tp (f_dt f) (s + i)] (by rw [hlen]; show 11 + i + 1 ≤ 1400; omega) t3
                refine ih (i + 1) _ (by omega) (fun k hk => by rw [ap_fd _ _ hk]; exact t1 k hk) (by rw [r_ap_l]; exact t2) ?_
                rw [List.append_assoc] at C2
                have es : slc (f_dt f) s (i + 1) = slc (f_dt f) s i ++ [tp (f_dt f) (s + i)] := by
                  refine (slc_eq (by omega) ?_ (fun k hk => ?_)).symm
                  · rw [List.length_append, slc_len (by omega)]; rfl
                  · by_cases ck : k < i
                    · unfold tp
                      rw [List.getD_eq_getElem?_getD, List.getElem?_append_left (by rw [slc_len (by omega)]; exact ck), List.getD_eq_getElem?_getD, slc_get ck]
                    · have ek : k = i := by omega
                      unfold tp
                      rw [List.getD_eq_getElem?_getD, List.getElem?_append_right (by rw [slc_len (by omega)]; omega), slc_len (by omega), ek, Nat.sub_self]
                      rfl
                rw [es]
                exact C2
          rw [es1]
          refine key N 0 σ1 (by omega) q1 q2 ?_
          rw [slc_0, List.append_nil]
          exact C1
      · -- a directory
        rw [if_neg hd]
        refine ⟨fun _ => ?_, fun z => absurd z (by decide)⟩
        have n2 : ¬ 0 ≤ f_md f := hd
        have p5 : (¬ off = 0 ∧ ¬ off = (d_o d).toInt64) → wq_Model_readsOf_206 ge am (nI j) (nI mo) (nI 7) (some am) 1 (r_em am σ h) Z := by
          intro n5
          unfold wq_Model_readsOf_206
          simp only [hs, rk, true_and, Option.some.injEq, exists_eq_left']
          exact rq_fails1 hM hg σ 5 _ ⟨fun z => absurd z (by decide), fun _ => er 5 ((cif_n n3).trans ((cif_n n2).trans (cif_y n5))) (by decide)⟩
        have go5 : ¬ (¬ off = 0 ∧ ¬ off = (d_o d).toInt64) → wq_Model_readsOf_205 ge am (nI j) (nI mo) (nI 7) (some am) (r_em am σ h) Z := by
          intro n5
          obtain ⟨l0, el0⟩ : ∃ l0 : Nat, l0 = cif (off = 0) 0 (d_l d) := ⟨_, rfl⟩
          obtain ⟨o0, eo0⟩ : ∃ o0 : Int32, o0 = cif (off = 0) 0 (d_o d) := ⟨_, rfl⟩
          have hl0 : l0 < 60 := by
            rw [el0]
            by_cases z : off = 0
            · rw [cif_y z]; decide
            · rw [cif_n z]; exact hl60
          obtain ⟨G, eG⟩ : ∃ G, G = gat Tr (nI (d_p d)) mo (l0 + 1) (59 - l0) 0 l0 := ⟨_, rfl⟩
          have hsp : spRead T Tr fm fc gv ms x d f off c = (0, le 4 (nI G.1.length).toInt64 ++ G.1, T, fset fm x (some (d_t d, d_p d, d_m d, o0 + nI G.1.length, G.2)), fc, gv) := by
            rw [eG, el0, eo0, emo]
            exact (cif_n n3).trans ((cif_n n2).trans (cif_n n5))
          have e359 : ∀ (τ : rS) (B : List Int32) (la : Nat), (∀ k, ¬ k = F_answerSize → τ.1 k = σ.1 k) → RR σ0 τ L (A ++ le 4 0 ++ B) T S J (fset fm x (some (d_t d, d_p d, d_m d, o0, la))) fc gv tm ms → rfi τ (fset fm x (some (d_t d, d_p d, d_m d, o0, la))) fc j x (d_t d, d_p d, d_m d, o0, la) → B = G.1 → la = G.2 → wq_Model_readsOf_359 ge am (nI j) (nI 7) (r_em am τ h) Z := by
            intro τ B la t1 CB hrb eB ela
            obtain ⟨b1, b2, b3, b4, b5, b6, b7, b8, b9⟩ := hrb
            have hl := CB.2.1.2
            have hsz := CB.2.1.1.1
            simp only [List.length_append, le_len, hA] at hl hsz
            have en : (nI (7 + 4 + B.length) - nI 7) - 4 = nI B.length := by
              rw [nI_sub (by omega), show (4 : Int32) = nI 4 from rfl, nI_sub (by omega)]
              congr 1
              omega
            have b8' : τ.2.2 O_fTold j = o0 := b8
            unfold wq_Model_readsOf_359
            simp only [hs, rk, rn, rP, rI0, rI, rU, hj, hjc, b8', hsz, en, ge0 hg, true_and, Option.some.injEq, exists_eq_left', forall_eq, Nat.reduceLT]
            have C2 : RR σ0 (r_a τ O_fTold j (o0 + nI B.length)) L (A ++ le 4 0 ++ B) T S J (fset fm x (some (d_t d, d_p d, d_m d, o0 + nI B.length, la))) fc gv tm ms := by
              have := RR_fd (σ := τ) (σ' := r_a τ O_fTold j (o0 + nI B.length)) (fun _ _ _ => rfl) (fun o i ho => ra_n (fun z => ho (by rw [z]; decide))) (Rfd_set (d' := (d_t d, d_p d, d_m d, o0 + nI B.length, la)) CB.2.2.2.2.2.1 b1 b3 b4 (fun o i _ _ z => ra_k z) (by rw [ra_n (by decide)]; exact b3) rfl ?_) CB
              · rw [fset_fset] at this
                exact this
              · refine ⟨?_, ?_, ?_, ?_, ?_⟩
                · rw [ra_n (by decide)]; exact b5
                · rw [ra_n (by decide)]; exact b6
                · rw [ra_n (by decide)]; exact b7
                · rw [ra_y]; rfl
                · rw [ra_n (by decide)]; exact b9
            refine rt_r377 hM hg C2 hA Z (fun τ' a1 C3 => hZ _ ?_)
            rw [hsp, ← eB, ← ela]
            refine ⟨by rw [a1, ra1, t1 _ (by decide)]; exact he, by rw [a1, ra1, t1 _ (by decide)]; exact hsy, _, fun _ => ?_, C3⟩
            rw [List.append_assoc]
          have e237 : ∀ (τ : rS), τ.1 = σ.1 → RR σ0 τ L A T S J (fset fm x (some (d_t d, d_p d, d_m d, o0, l0))) fc gv tm ms → rfi τ (fset fm x (some (d_t d, d_p d, d_m d, o0, l0))) fc j x (d_t d, d_p d, d_m d, o0, l0) → wq_Model_readsOf_237 ge am (nI j) (nI mo) (nI 7) (r_em am τ h) Z := by
            intro τ t1 Cτ hrτ
            unfold wq_Model_readsOf_237
            simp only [hs, rk, true_and]
            refine rp_put (n := 4) hM hg τ Cτ.2.1.1.1 (by omega) _ _ ?_
            have C1 := RR_ap (le 4 0) (by rw [le_len]; omega) Cτ
            unfold lp_Model_readsOf_246
            intro Y hY
            have rfi_ap : ∀ (ρ : rS) (B : List Int32) (m : sM) (w : sD), rfi ρ m fc j x w → rfi (r_ap ρ B) m fc j x w := by
              intro ρ B m w hw
              obtain ⟨a1, a2, a3, a4, a5⟩ := hw
              refine ⟨a1, a2, ?_, a4, rrow_of (fun o o1 o2 => r_ap_o (by show ¬ o = 11; omega) B ρ) a5⟩
              rw [r_ap_o (by decide) B ρ]; exact a3
            -- from p on, past the last one told
            have key2 : ∀ (m p la : Nat) (ρ : rS) (B : List Int32), p + m = 60 → la < p → 1 ≤ p → B.length ≤ mo → (∀ k, ¬ k = F_answerSize → ρ.1 k = σ.1 k) → RR σ0 ρ L (A ++ le 4 0 ++ B) T S J (fset fm x (some (d_t d, d_p d, d_m d, o0, la))) fc gv tm ms → rfi ρ (fset fm x (some (d_t d, d_p d, d_m d, o0, la))) fc j x (d_t d, d_p d, d_m d, o0, la) → B ++ (gat Tr (nI (d_p d)) mo p m B.length la).1 = G.1 → (gat Tr (nI (d_p d)) mo p m B.length la).2 = G.2 → Y am (nI j) (nI mo) (nI 7) (nI p) (r_em am ρ h) := by
              intro m
              induction m with
              | zero =>
                intro p la ρ B hpm hla hp1 hBm u1 CB hrb g1 g2
                have e : p = 60 := by omega
                subst e
                refine hY _ _ _ _ _ _ ?_
                unfold wq_Model_readsOf_246
                refine ⟨fun _ => e359 ρ B la u1 CB hrb ?_ g2, fun z => absurd (nI_le (a := 60) (Nat.le_refl 60) (by decide)) z⟩
                have : (gat Tr (nI (d_p d)) mo 60 0 B.length la).1 = [] := rfl
                rw [this, List.append_nil] at g1
                exact g1
              | succ m ih =>
                intro p la ρ B hpm hla hp1 hBm u1 CB hrb g1 g2
                have hp60 : p < 60 := by omega
                have hrb0 := hrb
                obtain ⟨b1, b2, b3, b4, b5, b6, b7, b8, b9⟩ := hrb
                have b5' : ρ.2.2 O_fTree j = nI (d_t d) := b5
                have b6' : ρ.2.2 O_fPath j = nI (d_p d) := b6
                have hl := CB.2.1.2
                have hsz := CB.2.1.1.1
                simp only [List.length_append, le_len, hA] at hl hsz
                have en : ((nI (7 + 4 + B.length) - nI 7) - 4) + 52 = nI (B.length + 52) := by
                  rw [nI_sub (by omega), show (4 : Int32) = nI 4 from rfl, nI_sub (by omega), show (52 : Int32) = nI 52 from rfl, nI_add]
                  congr 1
                  omega
                obtain ⟨w, ew⟩ : ∃ w, w = 60 * d_t d + p := ⟨_, rfl⟩
                have hwin : vp_in (nI w) 1680 := vp_in_nI (by omega) (by decide)
                have hwcl : (nI w).toNatClampNeg = w := nI_clamp (by omega)
                have rTρ := (RR_tr CB hto).1
                have rp := rTρ.1 p hp60
                rw [← ew] at rp
                have hlast : ¬ nI p ≤ ρ.2.2 O_fLast j := by
                  rcases b9 with z | z
                  · have z : ρ.2.2 O_fLast j = nI la := z
                    rw [z, nI_leI (by omega) (by omega)]
                    omega
                  · rw [z.1]
                    intro q
                    have := Int32.le_trans (nI_pos' (show p < 2 ^ 31 by omega)) q
                    exact absurd this (by decide)
                have nx : (gat Tr (nI (d_p d)) mo p (m + 1) B.length la) = gat Tr (nI (d_p d)) mo (p + 1) m B.length la → Y am (nI j) (nI mo) (nI 7) (nI p + 1) (r_em am ρ h) := by
                  intro e
                  rw [show nI p + 1 = nI (p + 1) from (nI_succ p).symm]
                  rw [e] at g1 g2
                  exact ih (p + 1) la ρ B (by omega) (by omega) (by omega) hBm u1 CB hrb0 g1 g2
                refine hY _ _ _ _ _ _ ?_
                unfold wq_Model_readsOf_246 wq_Model_readsOf_353 wq_Model_spot wq_Model_spot_0
                refine ⟨fun z => absurd z (nI_ge (b := 60) (by omega) (by decide)), fun _ => ?_⟩
                simp only [hs, rk, rn, rP, rI0, rI, hj, hjc, b5', b6', r_sp, ← ew, hwin, hwcl, hsz, en, true_and, Option.some.injEq, exists_eq_left', Nat.reduceLT]
                refine ⟨fun z => absurd z hlast, fun _ => ?_⟩
                rcases rp with ⟨e1, e2⟩ | ⟨v, e1, e2, kv, rv⟩
                · rw [e2]
                  refine ⟨fun _ => nx ?_, fun z => absurd rfl z⟩
                  show (match Tr p with | none => _ | some f => _) = _
                  rw [e1]
                · rw [e2]
                  refine ⟨fun z => absurd z (by decide), fun _ => ?_⟩
                  have hstep : gat Tr (nI (d_p d)) mo p (m + 1) B.length la = cif (f_in v = nI (d_p d)) (cif (B.length + 52 + (f_nm v).length ≤ mo) (statL p v ++ (gat Tr (nI (d_p d)) mo (p + 1) m (B.length + 52 + (f_nm v).length) p).1, (gat Tr (nI (d_p d)) mo (p + 1) m (B.length + 52 + (f_nm v).length) p).2) ([], la)) (gat Tr (nI (d_p d)) mo (p + 1) m B.length la) := by
                    show (match Tr p with | none => _ | some f => _) = _
                    rw [e1]
                  rw [rv.1]
                  refine ⟨fun z => ?_, fun z => nx (hstep.trans (cif_n z))⟩
                  have l20 := kv.2.1
                  rw [rv.2.2.2.2.1.1, nI_add, nI_leI (by omega) (by omega)]
                  refine ⟨fun z2 => ?_, fun z2 => ?_⟩
                  · have hst := hstep.trans ((cif_y z).trans (cif_y z2))
                    refine rt_stat hM hg ρ t28 hp60 CB.2.1.1.1 (by simp only [List.length_append, le_len, hA]; omega) kv (by rw [← ew]; exact rv) _ ?_
                    have C2 := RR_ap (statL p v) (by simp only [List.length_append, le_len, hA, statL_len]; omega) CB
                    have hr2 := rfi_ap ρ (statL p v) _ _ hrb0
                    obtain ⟨ρ2, eρ⟩ : ∃ ρ2, ρ2 = r_ap ρ (statL p v) := ⟨_, rfl⟩
                    rw [← eρ] at C2 hr2 ⊢
                    have v1 : ∀ k, ¬ k = F_answerSize → ρ2.1 k = σ.1 k := fun k hk => by rw [eρ, ap_fd _ _ hk]; exact u1 k hk
                    obtain ⟨c1, c2, c3, c4, c5, c6, c7, c8, c9⟩ := hr2
                    simp only [hs, rk, rn, rP, rU, hj, hjc, ge0 hg, true_and, Option.some.injEq, exists_eq_left', forall_eq, Nat.reduceLT]
                    rw [show nI p + 1 = nI (p + 1) from (nI_succ p).symm]
                    have R3 : rrow (r_a ρ2 O_fLast j (nI p)) j (d_t d, d_p d, d_m d, o0, p) := by
                      refine ⟨?_, ?_, ?_, ?_, Or.inl ?_⟩
                      · rw [ra_n (by decide)]; exact c5
                      · rw [ra_n (by decide)]; exact c6
                      · rw [ra_n (by decide)]; exact c7
                      · rw [ra_n (by decide)]; exact c8
                      · rw [ra_y]; rfl
                    have n3' : (r_a ρ2 O_fLast j (nI p)).2.2 O_fNumber j = x := by rw [ra_n (by decide)]; exact c3
                    have C3 := RR_fd (σ := ρ2) (σ' := r_a ρ2 O_fLast j (nI p)) (fun _ _ _ => rfl) (fun o i ho => ra_n (fun z => ho (by rw [z]; decide))) (Rfd_set C2.2.2.2.2.2.1 c1 c3 c4 (fun o i _ _ z => ra_k z) n3' rfl R3) C2
                    rw [fset_fset] at C3
                    rw [List.append_assoc] at C3
                    have hlen2 : (B ++ statL p v).length = B.length + 52 + (f_nm v).length := by rw [List.length_append, statL_len]; omega
                    refine ih (p + 1) p _ (B ++ statL p v) (by omega) (by omega) (by omega) (by rw [hlen2]; omega) (fun k hk => v1 k hk) C3 ⟨c1, c2, n3', if_pos rfl, R3⟩ ?_ ?_
                    · rw [hlen2, List.append_assoc]
                      rw [hst] at g1
                      exact g1
                    · rw [hlen2]
                      rw [hst] at g2
                      exact g2
                  · have hst := hstep.trans ((cif_y z).trans (cif_n z2))
                    rw [hst] at g1 g2
                    refine e359 ρ B la u1 CB hrb0 ?_ g2
                    rw [← g1]
                    exact (List.append_nil B).symm
            -- up to the last one told
            have key1 : ∀ (m p : Nat) (ρ : rS), p + m = l0 + 1 → 1 ≤ p → (∀ k, ¬ k = F_answerSize → ρ.1 k = σ.1 k) → RR σ0 ρ L (A ++ le 4 0) T S J (fset fm x (some (d_t d, d_p d, d_m d, o0, l0))) fc gv tm ms → rfi ρ (fset fm x (some (d_t d, d_p d, d_m d, o0, l0))) fc j x (d_t d, d_p d, d_m d, o0, l0) → Y am (nI j) (nI mo) (nI 7) (nI p) (r_em am ρ h) := by
              intro m
              induction m with
              | zero =>
                intro p ρ hpm hp1 u1 CB hrb
                have e : p = l0 + 1 := by omega
                subst e
                refine key2 (59 - l0) (l0 + 1) l0 ρ [] (by omega) (by omega) hp1 (by simp) u1 (by rw [List.append_nil]; exact CB) hrb ?_ ?_
                · rw [eG]; rfl
                · rw [eG]; rfl
              | succ m ih =>
                intro p ρ hpm hp1 u1 CB hrb
                have hrb0 := hrb
                obtain ⟨b1, b2, b3, b4, b5, b6, b7, b8, b9⟩ := hrb
                have b5' : ρ.2.2 O_fTree j = nI (d_t d) := b5
                have hlast : nI p ≤ ρ.2.2 O_fLast j := by
                  rcases b9 with z | z
                  · have z : ρ.2.2 O_fLast j = nI l0 := z
                    rw [z]
                    exact nI_le (by omega) (by omega)
                  · have : l0 = 0 := z.2
                    omega
                refine hY _ _ _ _ _ _ ?_
                unfold wq_Model_readsOf_246 wq_Model_readsOf_353 wq_Model_spot wq_Model_spot_0
                refine ⟨fun z => absurd z (nI_ge (b := 60) (by omega) (by decide)), fun _ => ?_⟩
                simp only [hs, rk, rn, rP, rI, hj, hjc, b5', true_and, Option.some.injEq, exists_eq_left', Nat.reduceLT]
                refine ⟨fun _ => ?_, fun z => absurd hlast z⟩
                rw [show nI p + 1 = nI (p + 1) from (nI_succ p).symm]
                exact ih (p + 1) ρ (by omega) (by omega) u1 CB hrb0
            refine key1 l0 1 _ (by omega) (by omega) (fun k hk => by rw [ap_fd _ _ hk, t1]) C1 (rfi_ap _ _ _ _ hrτ)
          unfold wq_Model_readsOf_205 wq_Model_readsOf_206
          simp only [hs, rk, true_and, Option.some.injEq, exists_eq_left']
          refine rq_fails0 hM hg σ 5 _ ⟨fun _ => ?_, fun z => absurd rfl z⟩
          simp only [hs, rk, rn, rP, rL0, rU, ho, lg_cmp_eq, hj, hjc, ge0 hg, true_and, Option.some.injEq, exists_eq_left', forall_eq, Nat.reduceLT]
          refine ⟨fun z => ?_, fun z => ?_⟩
          · rw [cif_n z] at el0 eo0
            have ed : (d_t d, d_p d, d_m d, o0, l0) = d := by rw [el0, eo0]; rfl
            refine e237 σ rfl ?_ ?_
            · rw [ed, fset_same r4]; exact hC
            · rw [ed, fset_same r4]; exact hr0
          · rw [cif_y z] at el0 eo0
            have R2 : rrow (r_a (r_a σ O_fTold j 0) O_fLast j (-1)) j (d_t d, d_p d, d_m d, o0, l0) := by
              refine ⟨?_, ?_, ?_, ?_, Or.inr ⟨?_, el0⟩⟩
              · rw [ra_n (by decide), ra_n (by decide)]; exact r5
              · rw [ra_n (by decide), ra_n (by decide)]; exact r6
              · rw [ra_n (by decide), ra_n (by decide)]; exact r7
              · rw [ra_n (by decide), ra_y]; exact eo0.symm
              · rw [ra_y]
            have n2' : (r_a (r_a σ O_fTold j 0) O_fLast j (-1)).2.2 O_fNumber j = x := by rw [ra_n (by decide), ra_n (by decide)]; exact r3
            have C2 := RR_fd (σ := σ) (σ' := r_a (r_a σ O_fTold j 0) O_fLast j (-1)) (fun _ _ _ => rfl) (fun o i ho => by rw [ra_n (fun z => ho (by rw [z]; decide)), ra_n (fun z => ho (by rw [z]; decide))]) (Rfd_set hC.2.2.2.2.2.1 r1 r3 r4 (fun o i _ _ z => by rw [ra_k z, ra_k z]) n2' rfl R2) hC
            exact e237 _ rfl C2 ⟨r1, r2, n2', if_pos rfl, R2⟩
        simp only [hs, rk, rn, rP, rI, rL0, ho, hj, hjc, r8, lg_cmp_eq, true_and, Option.some.injEq, exists_eq_left', Nat.reduceLT]
        exact ⟨fun z => go5 (fun w => w.1 z), fun z => ⟨fun z2 => go5 (fun w => w.2 z2), fun z2 => p5 ⟨z, z2⟩⟩⟩
    unfold wq_Model_readsOf_27
    simp only [hs, rk, true_and, Option.some.injEq, exists_eq_left']
    refine rq_fails0 hM hg σ 3 _ ⟨fun _ => ?_, fun z => absurd rfl z⟩
    have em : nI ms - 11 = nI (ms - 11) := by
      rw [show (11 : Int32) = nI 11 from rfl, nI_sub (by omega)]
    have hle : (lN c ≤ (nI (ms - 11)).toInt64) ↔ c ≤ ms - 11 := by
      rw [nI_l (by omega), ← Int64.not_lt, lN_lt' (by omega) (by omega)]
      omega
    simp only [hs, rk, rI0, rL0, hc, hmz, em, lg_cmp_le, hle, true_and]
    refine ⟨fun z => ?_, fun z => ?_⟩
    · rw [lN_i, show c = mo by omega]
      exact e66
    · rw [show ms - 11 = mo by omega]
      exact e66
  unfold wq_Model_readsOf wq_Model_readsOf_0
  simp only [hs, rk, rn, rP, rI, hj, hjc, r7, true_and, Option.some.injEq, exists_eq_left', Nat.reduceLT]
  exact ⟨fun z => p3 (Or.inl (Int32.not_le.mpr z)), fun z => ⟨fun z2 => go3 (fun y => y.elim (fun w => w (Int32.not_lt.mp z)) z2), fun z2 => p3 (Or.inr z2)⟩⟩
end RRd
