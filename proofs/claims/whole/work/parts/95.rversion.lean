/-! the reference: versions, does -/
/-- the constant texts' bytes -/
def RK1 (ge : Nat → Nat) (h : mm_M) (c : Nat) (W : List Int32) : Prop := mm_k h (ge c) = ka_B ∧ mm_n h (ge c) = W.length ∧ ge c < ge 0 ∧ ∀ i, i < W.length → mm_I h (ge c) i &&& 255 = tp W i
def RK (ge : Nat → Nat) (h : mm_M) : Prop := RK1 ge h 201 KNOWN ∧ RK1 ge h 202 UNKN
theorem rI_lo {am b : Nat} (hb : b < am) (σ : rS) (h : mm_M) (j : Nat) : mm_I (r_em am σ h) b j = mm_I h b j := by
  show (if b = am then _ else if am < b ∧ b < am + 27 then _ else mm_I h b j) = _
  rw [if_neg (by omega), if_neg (by omega)]
theorem pfx_tp {W X : List Int32} : pfx W X ↔ (W.length ≤ X.length ∧ ∀ i, i < W.length → tp X i = tp W i) := by
  constructor
  · intro q
    have hl : W.length ≤ X.length := by
      refine Nat.le_of_not_lt (fun z => ?_)
      have h1 := q X.length _ (tp_get z)
      rw [List.getElem?_eq_none (Nat.le_refl _)] at h1
      cases h1
    exact ⟨hl, fun i hi => tp_some (q i _ (tp_get hi))⟩
  · rintro ⟨h1, h2⟩ j x hj
    have hl := (List.getElem?_eq_some_iff.mp hj).1
    rw [tp_get (by omega), h2 j hl, tp_some hj]
theorem slc_snoc {D : List Int32} {i : Nat} (s : Nat) (h : s + i < D.length) : slc D s (i + 1) = slc D s i ++ [tp D (s + i)] := by
  refine (slc_eq (by omega) ?_ (fun k hk => ?_)).symm
  · rw [List.length_append, slc_len (by omega)]; rfl
  · by_cases ck : k < i
    · unfold tp
      rw [List.getD_eq_getElem?_getD, List.getElem?_append_left (by rw [slc_len (by omega)]; exact ck), List.getD_eq_getElem?_getD, slc_get ck]
    · have ek : k = i := by omega
      unfold tp
      rw [List.getD_eq_getElem?_getD, List.getElem?_append_right (by rw [slc_len (by omega)]; omega), slc_len (by omega), ek, Nat.sub_self]
      rfl
section RVD
variable {ge : Nat → Nat} {am : Nat} {h : mm_M} {σ0 σ σ' : rS} {L A : List Int32} {T Tr : sT} {S J : List sT} {fm : sM} {fc gv : Nat} {tm : Int32} {ms : Nat} {sy : Int32}
set_option maxHeartbeats 4000000 in
theorem rt_ver (hM : RM am h) (hg : ge 0 ≤ am) (hK : RK ge h) (hC : RR σ0 σ L A T S J fm fc gv tm ms) (hA : A.length = 7) {c : Nat} {X : List Int32} (hc : σ.2.1 F_mCount = lN c) (hc2 : c < 2 ^ 32) (hX : Rtx σ L X) (he : σ.1 F_error = 0) (hsy : σ.1 F_sync = sy) (Z : mm_M → Prop)
    (hZ : ∀ σ', RP σ0 L A S J tm (spVer c X).2.2 sy ((spVer c X).1, (spVer c X).2.1, T, (fun _ => none), 0, gv) σ' → Z (r_em am σ' h)) : wq_Model_versions ge am (r_em am σ h) Z := by
  have hs := hM
  unfold RM at hs
  obtain ⟨a, l, ha, hl, hal, eX⟩ := hX
  have hta := hC.1
  have hL := hta.2.2
  have hXl : X.length = l := by rw [eX]; exact slc_len hal
  obtain ⟨⟨k1, k2, k3, k4⟩, u1, u2, u3, u4⟩ := hK
  have k2' : mm_n h (ge 201) = 6 := k2
  have u2' : mm_n h (ge 202) = 7 := u2
  unfold wq_Model_versions wq_Model_versions_0
  simp only [hs, rk, rU0, rL0, hg, true_and, forall_eq]
  obtain ⟨σ1, e1⟩ : ∃ σ1, σ1 = r_f (r_f σ 27 0) 20 0 := ⟨_, rfl⟩
  rw [← e1]
  have q1 : ∀ i, ¬ i = 27 → ¬ i = 20 → σ1.1 i = σ.1 i := fun i z1 z2 => by rw [e1, rf1, if_neg z2, rf1, if_neg z1]
  have q2 : σ1.2 = σ.2 := by rw [e1]; rfl
  have C0 : RR σ0 (r_f σ 27 0) L A T S J (fun _ => none) 0 gv tm ms := RR_fd (σ := σ) (fun k _ nk => by rw [rf1, if_neg nk]) (fun _ _ _ => rfl) (Rfd_0 (by rw [rf1, if_pos rfl])) hC
  have C1 : RR σ0 σ1 L A T S J (fun _ => none) 0 gv tm 0 := by rw [e1]; exact RR_ms 0 C0
  have hc1 : σ1.2.1 44 = lN c := by rw [q2]; exact hc
  simp only [hc1, lg_cmp_ge]
  have c64 : ((64 : Int64) ≤ lN c) ↔ 64 ≤ c := by
    rw [show (64 : Int64) = lN 64 from rfl, ← Int64.not_lt, lN_lt' (by omega) (by omega)]
    omega
  rw [c64]
  refine ⟨fun q => ?_, fun q => ?_⟩
  rotate_left
  · have hsp : spVer c X = (3, [], 0) := cif_y (by omega)
    rw [hsp] at hZ
    unfold wq_Model_versions_27
    simp only [hs, rk, true_and, Option.some.injEq, exists_eq_left']
    refine rq_fails1 hM hg σ1 3 _ ⟨fun z => absurd z (by decide), fun _ => hZ _ ?_⟩
    exact RP_er C1 (by rw [q1 _ (by decide) (by decide)]; exact hsy) rfl (by decide)
  have n64 : ¬ c < 64 := by omega
  obtain ⟨m, em⟩ : ∃ m, m = min c 1000 := ⟨_, rfl⟩
  have e57 : wq_Model_versions_57 ge am (nI m) (r_em am σ1 h) Z := by
    have hta1 : ∀ k, k < L.length → σ1.2.2 O_tape k = tp L k := C1.1.1
    -- what comes out, known or not
    have e118 : ∀ kn : Int32, ((kn = 0 ∧ ¬ pfx KNOWN X) ∨ (kn = 1 ∧ pfx KNOWN X)) → wq_Model_versions_118 ge am (nI m) kn (r_em am σ1 h) Z := by
      intro kn hkn
      have hsy1 : σ1.1 F_sync = sy := by rw [q1 _ (by decide) (by decide)]; exact hsy
      have he1 : σ1.1 F_error = 0 := by rw [q1 _ (by decide) (by decide)]; exact he
      unfold wq_Model_versions_118
      simp only [hs, rk, true_and]
      refine rp_put (n := 4) hM hg σ1 C1.2.1.1.1 (by omega) _ _ ?_
      have C2 := RR_ap (le 4 (nI m).toInt64) (by rw [le_len]; omega) C1
      -- the letters
      have go : ∀ (W : List Int32) (N : Nat) (cs : Nat), RK1 ge h cs W → (cs = 201 ∧ kn = 1 ∨ cs = 202 ∧ kn = 0) → W.length = N → N ≤ 7 → (kn = 0 ↔ N = 7) → allB W → spVer c X = (0, le 4 (nI m).toInt64 ++ (le 2 (nI N).toInt64 ++ W), if kn = 0 then 0 else m) → wq_Model_versions_139 ge am (nI m) kn (some am) (nI N).toInt64 (r_em am (r_ap σ1 (le 4 (nI m).toInt64)) h) Z := by
        intro W N cs hW hcs hWN hN hkN hWB hsp
        obtain ⟨w1, w2, w3, w4⟩ := hW
        have wlt : ge cs < am := by omega
        unfold wq_Model_versions_139
        simp only [hs, rk, true_and, Option.some.injEq, exists_eq_left']
        refine rp_put (n := 2) hM hg _ C2.2.1.1.1 (by rw [List.length_append, le_len]; omega) _ _ ?_
        have C3 := RR_ap (le 2 (nI N).toInt64) (by rw [List.length_append, le_len, le_len]; omega) C2
        obtain ⟨σ3, e3⟩ : ∃ σ3, σ3 = r_ap (r_ap σ1 (le 4 (nI m).toInt64)) (le 2 (nI N).toInt64) := ⟨_, rfl⟩
        rw [← e3] at C3 ⊢
        have f3 : ∀ i, ¬ i = F_answerSize → σ3.1 i = σ1.1 i := fun i hi => by rw [e3, ap_fd _ _ hi, ap_fd _ _ hi]
        have i6 : (if kn = 0 then (7 : Int32) else 6) = nI N := by
          rcases hcs with ⟨_, z⟩ | ⟨_, z⟩
          · rw [if_neg (by rw [z]; decide)]
            have : ¬ N = 7 := fun w => by have := hkN.mpr w; rw [z] at this; exact absurd this (by decide)
            have h6 : W.length = 6 := by
              rename_i h201
              have := w2
              rw [h201, k2'] at this
              exact this.symm
            rw [← hWN, h6]; rfl
          · rw [if_pos z, hkN.mp z]; rfl
        unfold lp_Model_versions_145
        intro Y hY
        have key : ∀ (r k : Nat) (τ : rS), k + r = N → (∀ i, ¬ i = F_answerSize → τ.1 i = σ1.1 i) → RR σ0 τ L (A ++ le 4 (nI m).toInt64 ++ le 2 (nI N).toInt64 ++ slc W 0 k) T S J (fun _ => none) 0 gv tm 0 → Y am (nI m) kn (nI k) (r_em am τ h) := by
          intro r
          induction r with
          | zero =>
            intro k τ hk t1 Cτ
            have ek : k = N := by omega
            subst ek
            have e157 : ∀ x : Int32, x = nI k → wq_Model_versions_157 Y ge am (nI m) kn (nI k) (nI k) x (r_em am τ h) Z := by
              intro x hx
              unfold wq_Model_versions_157 wq_Model_versions_203
              refine ⟨fun _ => ?_, fun z => absurd (by rw [hx]; exact Int32.le_refl _) z⟩
              have hlen : A ++ le 4 (nI m).toInt64 ++ le 2 (nI k).toInt64 ++ slc W 0 k = A ++ (le 4 (nI m).toInt64 ++ (le 2 (nI k).toInt64 ++ W)) := by
                rw [← hWN, slc_all]
                simp only [List.append_assoc]
              rw [hlen] at Cτ
              have fe : τ.1 F_error = 0 := by rw [t1 _ (by decide)]; exact he1
              have fs : τ.1 F_sync = sy := by rw [t1 _ (by decide)]; exact hsy1
              rw [hsp] at hZ
              refine ⟨fun z => ?_, fun z => ?_⟩
              · rw [if_pos z] at hZ
                exact hZ τ ⟨fe, fs, _, fun _ => rfl, Cτ⟩
              · rw [if_neg z] at hZ
                simp only [hs, rk, rU0, hg, true_and, forall_eq]
                exact hZ _ ⟨by rw [rf1, if_neg (by decide)]; exact fe, by rw [rf1, if_neg (by decide)]; exact fs, _, fun _ => rfl, RR_ms m Cτ⟩
            refine hY _ _ _ _ _ ?_
            unfold wq_Model_versions_145
            refine ⟨fun z => e157 7 (by rw [← i6, if_pos z]), fun z => e157 6 (by rw [← i6, if_neg z])⟩
          | succ r ih =>
            intro k τ hk t1 Cτ
            have hsz : (A ++ le 4 (nI m).toInt64 ++ le 2 (nI N).toInt64 ++ slc W 0 k).length = 13 + k := by
              rw [List.length_append, List.length_append, List.length_append, le_len, le_len, hA, slc_len (by omega)]
            have hin : vp_in (nI k) W.length := vp_in_nI (by omega) (by omega)
            have hcl : (nI k).toNatClampNeg = k := nI_clamp (by omega)
            have e184 : wq_Model_versions_184 Y ge am (nI m) kn (nI k) (some am) (Int32.toInt64 (tp W k)) (r_em am τ h) Z := by
              unfold wq_Model_versions_184
              simp only [hs, rk, true_and, Option.some.injEq, exists_eq_left']
              refine rp_put (n := 1) hM hg τ Cτ.2.1.1.1 (by rw [hsz]; omega) _ _ ?_
              rw [le1B (tp_B hWB _), show nI k + 1 = nI (k + 1) from (nI_succ k).symm]
              refine ih (k + 1) _ (by omega) (fun i hi => by rw [ap_fd _ _ hi]; exact t1 i hi) ?_
              have C4 := RR_ap [tp W k] (by rw [hsz]; show 13 + k + 1 ≤ 1400; omega) Cτ
              rw [List.append_assoc] at C4
              have es := slc_snoc (D := W) (i := k) 0 (by omega)
              rw [Nat.zero_add] at es
              rw [es]
              exact C4
            have e157 : ∀ x : Int32, x = nI N → wq_Model_versions_157 Y ge am (nI m) kn (nI k) (nI k) x (r_em am τ h) Z := by
              intro x hx
              unfold wq_Model_versions_157
              refine ⟨fun z => absurd z (by rw [hx]; exact nI_ge (by omega) (by omega)), fun _ => ?_⟩
              rcases hcs with ⟨z1, z2⟩ | ⟨z1, z2⟩
              · refine ⟨fun z => absurd z (by rw [z2]; decide), fun _ => ?_⟩
                rw [z1] at w1 w2 w4 wlt
                simp only [rk, rn, rI_lo wlt, w1, w2, hin, hcl, true_and]
                refine ⟨by omega, ?_⟩
                rw [w4 k (by omega)]
                exact e184
              · refine ⟨fun _ => ?_, fun z => absurd z2 z⟩
                rw [z1] at w1 w2 w4 wlt
                simp only [rk, rn, rI_lo wlt, w1, w2, hin, hcl, true_and]
                refine ⟨by omega, ?_⟩
                rw [w4 k (by omega)]
                exact e184
            refine hY _ _ _ _ _ ?_
            unfold wq_Model_versions_145
            refine ⟨fun z => e157 7 (by rw [← i6, if_pos z]), fun z => e157 6 (by rw [← i6, if_neg z])⟩
        refine key N 0 σ3 (by omega) f3 ?_
        rw [slc_0, List.append_nil]
        exact C3
      rcases hkn with ⟨z, hp⟩ | ⟨z, hp⟩
      · refine ⟨fun _ => ?_, fun w => absurd z w⟩
        refine go UNKN 7 202 ⟨u1, u2, u3, u4⟩ (Or.inr ⟨rfl, z⟩) rfl (by decide) ⟨fun _ => rfl, fun _ => z⟩ (by unfold allB isB UNKN; decide) ?_
        rw [if_pos z, em]
        exact (cif_n n64).trans (cif_n hp)
      · refine ⟨fun w => absurd w (by rw [z]; decide), fun _ => ?_⟩
        refine go KNOWN 6 201 ⟨k1, k2, k3, k4⟩ (Or.inl ⟨rfl, z⟩) rfl (by decide) ⟨fun w => absurd w (by rw [z]; decide), fun w => absurd w (by decide)⟩ (by unfold allB isB KNOWN; decide) ?_
        rw [if_neg (by rw [z]; decide), em]
        exact (cif_n n64).trans (cif_y hp)
    have e72 : ∀ kn : Int32, ((kn = 0 ∧ X.length < 6) ∨ (kn = 1 ∧ 6 ≤ X.length)) → wq_Model_versions_72 ge am (nI m) kn (r_em am σ1 h) Z := by
      intro kn hkn
      unfold wq_Model_versions_72 lp_Model_versions_75
      intro Y hY
      have key : ∀ (r k : Nat) (fl : Int32), k + r = 6 → ((fl = 0 ∧ ¬ pfx KNOWN X) ∨ (fl = 1 ∧ 6 ≤ X.length ∧ ∀ i, i < k → tp X i = tp KNOWN i)) → Y am (nI m) fl (nI k) (r_em am σ1 h) := by
        intro r
        induction r with
        | zero =>
          intro k fl hk hfl
          have ek : k = 6 := by omega
          subst ek
          refine hY _ _ _ _ _ ?_
          unfold wq_Model_versions_75
          refine ⟨fun _ => e118 fl ?_, fun z => absurd (nI_le (a := 6) (Nat.le_refl 6) (by decide)) z⟩
          rcases hfl with z | ⟨z1, z2, z3⟩
          · exact Or.inl z
          · exact Or.inr ⟨z1, pfx_tp.mpr ⟨z2, z3⟩⟩
        | succ r ih =>
          intro k fl hk hfl
          refine hY _ _ _ _ _ ?_
          unfold wq_Model_versions_75 wq_Model_versions_111
          refine ⟨fun z => absurd z (nI_ge (b := 6) (by omega) (by decide)), fun _ => ?_⟩
          rcases hfl with ⟨z1, z2⟩ | ⟨z1, z2, z3⟩
          · exact ⟨fun _ => e118 fl (Or.inl ⟨z1, z2⟩), fun w => absurd z1 w⟩
          · refine ⟨fun w => absurd w (by rw [z1]; decide), fun _ => ?_⟩
            have v38 : σ1.1 38 = nI a := (q1 _ (by decide) (by decide)).trans ha
            have w1 : vp_in (nI (a + k)) 1400 := vp_in_nI (by omega) (by decide)
            have w2 : (nI (a + k)).toNatClampNeg = a + k := nI_clamp (by omega)
            have w3 : vp_in (nI k) 6 := vp_in_nI (by omega) (by decide)
            have w4 : (nI k).toNatClampNeg = k := nI_clamp (by omega)
            have b0 : σ1.2.2 O_tape (a + k) = tp X k := by rw [hta1 _ (by omega), eX, slc_tp (by omega)]
            have klt : ge 201 < am := by omega
            have n31 : (6 : Nat) < 2 ^ 31 := by decide
            simp only [hs, rk, rn, rP, rI0, rI, rI_lo klt, v38, nI_add, w1, w2, w3, w4, b0, k1, k2', n31, true_and, Option.some.injEq, exists_eq_left', Nat.reduceLT]
            rw [k4 k (by show k < 6; omega), show nI k + 1 = nI (k + 1) from (nI_succ k).symm]
            refine ⟨fun w => ih (k + 1) 0 (by omega) (Or.inl ⟨rfl, fun p => w ((pfx_tp.mp p).2 k (by show k < 6; omega))⟩), fun w => ih (k + 1) 1 (by omega) (Or.inr ⟨rfl, z2, fun i hi => ?_⟩)⟩
            by_cases c : i = k
            · rw [c]; exact w
            · exact z3 i (by omega)
      refine key 6 0 kn rfl ?_
      rcases hkn with ⟨z1, z2⟩ | ⟨z1, z2⟩
      · exact Or.inl ⟨z1, fun p => by have h6 : 6 ≤ X.length := (pfx_tp.mp p).1; omega⟩
      · exact Or.inr ⟨z1, z2, fun i hi => absurd hi (by omega)⟩
    have v39 : σ1.1 39 = nI l := (q1 _ (by decide) (by decide)).trans hl
    unfold wq_Model_versions_57
    simp only [hs, rk, rI0, v39, true_and]
    rw [show (6 : Int32) = nI 6 from rfl, nI_ltI (by omega) (by decide)]
    exact ⟨fun z => e72 0 (Or.inl ⟨rfl, by omega⟩), fun z => e72 1 (Or.inr ⟨rfl, by omega⟩)⟩
  unfold wq_Model_versions_27
  simp only [hs, rk, true_and, Option.some.injEq, exists_eq_left']
  refine rq_fails0 hM hg σ1 3 _ ⟨fun _ => ?_, fun z => absurd rfl z⟩
  have hle : (lN c ≤ 1000) ↔ c ≤ 1000 := by
    rw [show (1000 : Int64) = lN 1000 from rfl, ← Int64.not_lt, lN_lt' (by omega) (by omega)]
    omega
  simp only [hs, rk, rL0, hc1, lg_cmp_le, hle, true_and]
  refine ⟨fun z => ?_, fun z => ?_⟩
  · rw [lN_i, show c = m by omega]
    exact e57
  · rw [show (1000 : Int32) = nI 1000 from rfl, show 1000 = m by omega]
    exact e57
end RVD
