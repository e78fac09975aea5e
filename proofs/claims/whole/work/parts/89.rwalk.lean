/-! the reference: walks -/
def Rwn (σ : rS) (L : List Int32) (N : List (List Int32)) : Prop := N.length ≤ 700 ∧ σ.1 F_mMany = nI N.length ∧ ∀ (k : Nat) (nm : List Int32), N[k]? = some nm → ∃ a l : Nat, σ.2.2 O_wAt k = nI a ∧ σ.2.2 O_wSize k = nI l ∧ a + l ≤ L.length ∧ nm = slc L a l
theorem b8_n : ∀ n, n < 17 → r_b8 (nI n).toInt64 0 = nI n ∧ r_b8 (nI n).toInt64 1 = 0 := by decide +kernel
theorem dots {L : List Int32} {a l : Nat} (hal : a + l ≤ L.length) : (slc L a l = [46, 46]) ↔ (l = 2 ∧ tp L a = 46 ∧ tp L (a + 1) = 46) := by
  constructor
  · intro e
    have hl : l = 2 := by rw [← slc_len hal, e]; rfl
    have h0 := slc_tp (L := L) (a := a) (l := l) (i := 0) (by omega)
    have h1 := slc_tp (L := L) (a := a) (l := l) (i := 1) (by omega)
    rw [e] at h0 h1
    exact ⟨hl, h0.symm, h1.symm⟩
  · rintro ⟨h1, h2, h3⟩
    subst h1
    refine (slc_eq hal rfl (fun k hk => ?_)).symm
    rcases (by omega : k = 0 ∨ k = 1) with e | e
    · rw [e]; exact h2.symm
    · rw [e]; exact h3.symm
section RWK
variable {ge : Nat → Nat} {am : Nat} {h : mm_M} {σ0 σ σ' : rS} {L A : List Int32} {T Tr : sT} {S J : List sT} {fm : sM} {fc gv : Nat} {tm : Int32} {ms : Nat} {sy : Int32}
set_option maxHeartbeats 4000000 in
theorem rt_walk (hM : RM am h) (hg : ge 0 ≤ am) (hC : RR σ0 σ L A T S J fm fc gv tm ms) (hA : A.length = 7) {j : Nat} {x : Int32} {d : sD} (hr : rfi σ fm fc j x d) (hFk : Fok T S d) {f : sF} (hto : trOf T S (d_t d) = some Tr) (hwk : wkT Tr) (hf : Tr (d_p d) = some f) {other : Int32} {N : List (List Int32)} (ho : σ.1 F_mOther = other) (hN : Rwn σ L N) (he : σ.1 F_error = 0) (hsy : σ.1 F_sync = sy) (Z : mm_M → Prop)
    (hZ : ∀ σ', RP σ0 L A S J tm ms sy (spWalk T Tr fm fc gv x other d N) σ' → Z (r_em am σ' h)) : wq_Model_walks ge am (nI j) (r_em am σ h) Z := by
  have hs := hM
  unfold RM at hs
  have er : ∀ k : Int32, spWalk T Tr fm fc gv x other d N = (k, [], T, fm, fc, gv) → ¬ k = 0 → Z (r_em am (r_f σ F_error k) h) := fun k hk nk => hZ _ (RP_er hC hsy hk nk)
  obtain ⟨r1, r2, r3, r4, r5, r6, r7, r8, r9⟩ := hr
  have hj : vp_in (nI j) 24 := vp_in_nI (by omega) (by decide)
  have hjc : (nI j).toNatClampNeg = j := nI_clamp (by omega)
  obtain ⟨rT, t28⟩ := RR_tr hC hto
  have hfc := hC.2.2.2.2.2.1.1
  obtain ⟨hN7, hNm, hNn⟩ := hN
  have hta := hC.1
  have hL := hta.2.2
  unfold wq_Model_walks wq_Model_walks_0
  simp only [hs, rk, rn, rP, rI, hj, hjc, r7, true_and, Option.some.injEq, exists_eq_left', Nat.reduceLT]
  refine ⟨fun q => ?_, fun q => ?_⟩
  rotate_left
  · unfold wq_Model_walks_15
    simp only [hs, rk, true_and, Option.some.injEq, exists_eq_left']
    exact rq_fails1 hM hg σ 3 _ ⟨fun z => absurd z (by decide), fun _ => er 3 (cif_y (Int32.not_lt.mp q)) (by decide)⟩
  have n3 : ¬ 0 ≤ d_m d := Int32.not_le.mpr q
  -- past the other fid
  have main : ∀ o2 : Int32, ¬ (¬ other = x ∧ ¬ fm other = none) → ((fm other = none ∧ o2 = -1) ∨ (other = x ∧ o2 = nI j)) → wq_Model_walks_46 ge am (nI j) o2 (some am) (r_em am σ h) Z := by
    intro o2 n5 ho2
    have hneg : (0 ≤ o2) ↔ ¬ fm other = none := by
      rcases ho2 with ⟨z1, z2⟩ | ⟨z1, z2⟩
      · rw [z2]; exact ⟨fun w => absurd w (by decide), fun w => absurd z1 w⟩
      · rw [z2, z1, r4]; exact ⟨fun _ => by simp, fun _ => nI_pos' (by omega)⟩
    have ho2j : ¬ fm other = none → other = x ∧ o2 = nI j := fun w => ho2.resolve_left (fun z => w z.1)
    unfold wq_Model_walks_46 wq_Model_walks_47 wq_Model_walks_104
    simp only [hs, rk, true_and, Option.some.injEq, exists_eq_left']
    refine rq_fails0 hM hg σ 5 _ ⟨fun z => absurd rfl z, fun _ => ?_⟩
    simp only [hs, rk, rI0, hNm, true_and]
    rw [show (16 : Int32) = nI 16 from rfl, nI_leI (by omega) (by decide)]
    refine ⟨fun q6 => ?_, fun q6 => ?_⟩
    rotate_left
    · unfold wq_Model_walks_69 wq_Model_walks_104
      simp only [hs, rk, true_and, Option.some.injEq, exists_eq_left']
      exact rq_fails1 hM hg σ 6 _ ⟨fun _ => er 6 ((cif_n n3).trans ((cif_n n5).trans (cif_y (by omega)))) (by decide), fun z => absurd z (by decide)⟩
    have n6 : ¬ 16 < N.length := by omega
    have e24 : (nI fc = 24) ↔ fc = 24 := by
      show nI fc = nI 24 ↔ _
      exact nI_eq (by omega) (by decide)
    have go : ¬ (fm other = none ∧ fc = 24) → wq_Model_walks_95 ge am (nI j) o2 (some am) (r_em am σ h) Z := by
      intro n7
      obtain ⟨w0, ew⟩ : ∃ w0, w0 = wk Tr N (d_p d) := ⟨_, rfl⟩
      have hsp : spWalk T Tr fm fc gv x other d N = cif (w0.2.2 = 0 ∧ 0 < N.length) (8, [], T, fm, fc, gv) (0, le 2 (nI w0.2.2).toInt64 ++ w0.1, T, cif (w0.2.2 = N.length) (fset fm other (some (d_t d, w0.2.1, -1, 0, 0))) fm, cif (w0.2.2 = N.length ∧ fm other = none) (fc + 1) fc, gv) := by
        rw [ew]
        exact (cif_n n3).trans ((cif_n n5).trans ((cif_n n6).trans (cif_n n7)))
      -- the end
      have e281 : ∀ (τ : rS) (B : List Int32) (p n : Nat), (∀ i, ¬ i = F_answerSize → τ.1 i = σ.1 i) → RR σ0 τ L (A ++ le 2 0 ++ B) T S J fm fc gv tm ms → (∀ i, τ.2.2 O_fNumber i = σ.2.2 O_fNumber i) → B = w0.1 → p = w0.2.1 → n = w0.2.2 → n ≤ N.length → wq_Model_walks_281 ge am o2 (nI (d_t d)) (nI p) (nI n) (r_em am τ h) Z := by
        intro τ B p n t1 CB t2 eB epp enn hnN
        have v37 : τ.1 F_mMany = nI N.length := (t1 _ (by decide)).trans hNm
        have e0 : (nI n = 0) ↔ n = 0 := by
          show nI n = nI 0 ↔ _
          exact nI_eq (by omega) (by decide)
        have eN0 : (nI N.length ≤ 0) ↔ N.length = 0 := by
          rw [show (0 : Int32) = nI 0 from rfl, nI_leI (by omega) (by decide)]
          omega
        have ok : ¬ (n = 0 ∧ 0 < N.length) → wq_Model_walks_298 ge am o2 (nI (d_t d)) (nI p) (nI n) (some am) (r_em am τ h) Z := by
          intro n8
          have hsp2 := hsp.trans (cif_n (by rw [← enn]; exact n8))
          unfold wq_Model_walks_298 wq_Model_walks_299
          simp only [hs, rk, true_and, Option.some.injEq, exists_eq_left']
          refine rq_fails0 hM hg τ 8 _ ⟨fun _ => ?_, fun z => absurd rfl z⟩
          have w7 : vp_in (7 : Int32) 1500 := vp_in_nI (n := 7) (by decide) (by decide)
          have c7 : (7 : Int32).toNatClampNeg = 7 := rfl
          simp only [hs, rk, rn, rP, rI0, rU, ra1, v37, w7, c7, ge0 hg, true_and, Option.some.injEq, exists_eq_left', forall_eq, Nat.reduceLT]
          have a8 : τ.2.2 O_answer 8 = 0 := by
            refine CB.2.1.1.2 8 0 ?_
            rw [List.append_assoc, List.getElem?_append_right (by omega), hA, List.getElem?_append_left (by rw [le_len]; decide), le_get (by decide)]
            decide
          have C2 : RR σ0 (r_a τ O_answer 7 (nI n)) L (A ++ le 2 (nI n).toInt64 ++ B) T S J fm fc gv tm ms := by
            refine RR_ow (σ := τ) hA (le_len 2 0) (fun _ => rfl) (fun o i z => ?_) (fun i hi => ?_) CB
            · rw [raa, if_neg (fun w => z ⟨w.1, by omega, by omega⟩)]
            · rcases (by omega : i = 0 ∨ i = 1) with e | e
              · rw [e, (b8_n n (by omega)).1]; exact ra_y
              · rw [e, (b8_n n (by omega)).2, ra_k (by decide)]; exact a8
          obtain ⟨τ2, e2⟩ : ∃ τ2, τ2 = r_a τ 11 7 (nI n) := ⟨_, rfl⟩
          rw [← e2]
          have C2 : RR σ0 τ2 L (A ++ le 2 (nI n).toInt64 ++ B) T S J fm fc gv tm ms := by rw [e2]; exact C2
          have s1 : ∀ i, ¬ i = F_answerSize → τ2.1 i = σ.1 i := fun i hi => by rw [e2]; exact t1 i hi
          have s2 : ∀ i, τ2.2.2 O_fNumber i = σ.2.2 O_fNumber i := fun i => by rw [e2, ra_n (by decide)]; exact t2 i
          have e27 : τ.1 27 = nI fc := (t1 _ (by decide)).trans hfc.2
          rw [e27, nI_leI (show N.length < 2 ^ 31 by omega) (show n < 2 ^ 31 by omega)]
          refine ⟨fun q9 => ?_, fun q9 => ?_⟩
          rotate_left
          · refine hZ _ ?_
            have g1 : (cif (w0.2.2 = N.length) (fset fm other (some (d_t d, w0.2.1, -1, 0, 0))) fm) = fm := cif_n (by omega)
            have g2 : (cif (w0.2.2 = N.length ∧ fm other = none) (fc + 1) fc) = fc := cif_n (fun z => by omega)
            rw [hsp2, g1, g2]
            refine ⟨by rw [s1 _ (by decide)]; exact he, by rw [s1 _ (by decide)]; exact hsy, _, fun _ => ?_, C2⟩
            rw [← enn, ← eB, List.append_assoc]
          · have enN : w0.2.2 = N.length := by omega
            have g1 : (cif (w0.2.2 = N.length) (fset fm other (some (d_t d, w0.2.1, -1, 0, 0))) fm) = fset fm other (some (d_t d, p, -1, 0, 0)) := by rw [cif_y enN, epp]
            have fin : ∀ (τ3 : rS) (fc' : Nat), (∀ i, ¬ i = F_answerSize → ¬ i = F_fids → τ3.1 i = σ.1 i) → RR σ0 τ3 L (A ++ le 2 (nI n).toInt64 ++ B) T S J (fset fm other (some (d_t d, p, -1, 0, 0))) fc' gv tm ms → cif (w0.2.2 = N.length ∧ fm other = none) (fc + 1) fc = fc' → Z (r_em am τ3 h) := by
              intro τ3 fc' u1 C3 hfc'
              refine hZ _ ?_
              rw [hsp2, g1, hfc']
              refine ⟨by rw [u1 _ (by decide) (by decide)]; exact he, by rw [u1 _ (by decide) (by decide)]; exact hsy, _, fun _ => ?_, C3⟩
              rw [← enn, ← eB, List.append_assoc]
            by_cases hfo : fm other = none
            · have nz : ¬ 0 ≤ o2 := fun z => (hneg.mp z) hfo
              refine ⟨fun z => absurd z nz, fun _ => ?_⟩
              unfold wq_Model_walks_339 wq_Model_walks_355
              refine ⟨fun z => absurd z nz, fun _ => ?_⟩
              have e27' : τ2.1 27 = nI fc := (s1 _ (by decide)).trans hfc.2
              have f24 : fc < 24 := by
                have := hfc.1
                have : ¬ fc = 24 := fun z => n7 ⟨hfo, z⟩
                omega
              have v34 : (r_f τ2 27 (nI (fc + 1))).1 34 = other := (s1 _ (by decide)).trans ho
              simp only [hs, rk, rI0, rU0, e27', hg, true_and, forall_eq]
              rw [show nI fc + 1 = nI (fc + 1) from (nI_succ fc).symm, v34]
              refine rt_place hM hg f24 other _ (fun τ3 u1 u2 u3 u4 u5 => ?_)
              refine fin τ3 (fc + 1) (fun i z1 z2 => by rw [u1, rf1, if_neg z2]; exact s1 i z1) ?_ (cif_y ⟨enN, hfo⟩)
              refine RR_fd (σ := τ2) (fun k _ nk => by rw [u1, rf1, if_neg nk]) (fun o i z => ?_) (Rfd_add C2.2.2.2.2.2.1 f24 hfo (fun o i _ _ z => ?_) u4 (by rw [u1, rf1, if_pos rfl]) u5) C2
              · rw [u3 o i (fun w => z ⟨w.1, w.2.1⟩)]; rfl
              · rw [u3 o i (fun w => z w.2.2)]; rfl
            · obtain ⟨z1, z2⟩ := ho2j hfo
              have pz : 0 ≤ o2 := hneg.mpr hfo
              refine ⟨fun _ => ?_, fun z => absurd pz z⟩
              unfold wq_Model_walks_339 wq_Model_walks_355
              refine ⟨fun _ => ?_, fun z => absurd pz z⟩
              have v34 : τ2.1 34 = other := (s1 _ (by decide)).trans ho
              simp only [hs, rk, rI0, v34, true_and]
              rw [z2]
              refine rt_place hM hg r2 other _ (fun τ3 u1 u2 u3 u4 u5 => ?_)
              refine fin τ3 fc (fun i y1 _ => by rw [u1]; exact s1 i y1) ?_ (cif_n (fun z => hfo z.2))
              have hx2 : τ2.2.2 O_fNumber j = other := by rw [s2, z1]; exact r3
              refine RR_fd (σ := τ2) (fun k _ _ => by rw [u1]) (fun o i z => u3 o i (fun w => z ⟨w.1, w.2.1⟩)) (Rfd_set C2.2.2.2.2.2.1 r1 hx2 (by rw [z1]; exact r4) (fun o i _ _ z => u3 o i (fun w => z w.2.2)) u4 (by rw [u1]) u5) C2
        unfold wq_Model_walks_281
        simp only [hs, rk, rI0, v37, e0, eN0, true_and]
        refine ⟨fun z => ok (fun w => z w.1), fun z => ⟨fun z2 => ok (fun w => by omega), fun z2 => ?_⟩⟩
        have hsp2 := hsp.trans (cif_y ⟨by rw [← enn]; exact z, by omega⟩)
        unfold wq_Model_walks_299
        simp only [hs, rk, true_and, Option.some.injEq, exists_eq_left']
        refine rq_fails1 hM hg τ 8 _ ⟨fun z => absurd z (by decide), fun _ => hZ _ ?_⟩
        rw [hsp2]
        refine ⟨by rw [rf1, if_pos rfl], by rw [rf1, if_neg (by decide), t1 _ (by decide)]; exact hsy, _, fun z => absurd z (show ¬ (8 : Int32) = 0 by decide), RR_f 8 ?_ CB⟩
        unfold rlf
        decide
      unfold wq_Model_walks_95 wq_Model_walks_96 wq_Model_walks_104
      simp only [hs, rk, true_and, Option.some.injEq, exists_eq_left']
      refine rq_fails0 hM hg σ 7 _ ⟨fun _ => ?_, fun z => absurd rfl z⟩
      simp only [hs, rk, rn, rP, rI, hj, hjc, r5, r6, true_and, Option.some.injEq, exists_eq_left', Nat.reduceLT]
      refine rp_put (n := 2) hM hg σ hC.2.1.1.1 (by omega) _ _ ?_
      have C1 := RR_ap (le 2 0) (by rw [le_len]; omega) hC
      unfold lp_Model_walks_132
      intro X hX
      have key : ∀ (m k p : Nat) (τ : rS) (B : List Int32), k + m = N.length → (∃ f', Tr p = some f') → B.length = 13 * k → (∀ i, ¬ i = F_answerSize → τ.1 i = σ.1 i) → (∀ o i, ¬ o = O_answer → τ.2.2 o i = σ.2.2 o i) → RR σ0 τ L (A ++ le 2 0 ++ B) T S J fm fc gv tm ms → B ++ (wk Tr (N.drop k) p).1 = w0.1 → (wk Tr (N.drop k) p).2.1 = w0.2.1 → k + (wk Tr (N.drop k) p).2.2 = w0.2.2 → X am o2 (nI (d_t d)) (nI p) (nI k) (nI k) (r_em am τ h) := by
        intro m
        induction m with
        | zero =>
          intro k p τ B hk hpf hB t1 t2 CB g1 g2 g3
          refine hX _ _ _ _ _ _ _ ?_
          have v37 : τ.1 F_mMany = nI N.length := (t1 _ (by decide)).trans hNm
          have hd0 : N.drop k = [] := List.drop_eq_nil_of_le (by omega)
          rw [hd0] at g1 g2 g3
          unfold wq_Model_walks_132
          simp only [hs, rk, rI0, v37, true_and]
          refine ⟨fun _ => e281 τ B p k t1 CB (fun i => t2 _ _ (by decide)) (by rw [← g1]; exact (List.append_nil B).symm) g2 g3 (by omega), fun z => absurd (nI_le (by omega) (by omega)) z⟩
        | succ m ih =>
          intro k p τ B hk hpf hB t1 t2 CB g1 g2 g3
          obtain ⟨f', hf'⟩ := hpf
          have hkN : k < N.length := by omega
          refine hX _ _ _ _ _ _ _ ?_
          have v37 : τ.1 F_mMany = nI N.length := (t1 _ (by decide)).trans hNm
          obtain ⟨nm, hnm⟩ : ∃ nm, N[k]? = some nm := ⟨_, List.getElem?_eq_getElem hkN⟩
          obtain ⟨a, l, wa, wl, hal, enm⟩ := hNn k nm hnm
          have hdr : N.drop k = nm :: N.drop (k + 1) := by
            rw [List.drop_eq_getElem_cons hkN]
            congr 1
            rw [List.getElem?_eq_getElem hkN] at hnm
            exact Option.some.inj hnm
          rw [hdr] at g1 g2 g3
          have va : τ.2.2 O_wAt k = nI a := (t2 _ _ (by decide)).trans wa
          have vl : τ.2.2 O_wSize k = nI l := (t2 _ _ (by decide)).trans wl
          obtain ⟨rTτ, _⟩ := RR_tr CB hto
          obtain ⟨hp60, i1, k1, rf⟩ := RT_get rTτ hf'
          obtain ⟨y, ey⟩ : ∃ y, y = 60 * d_t d + p := ⟨_, rfl⟩
          rw [← ey] at i1 rf
          have hy : y < 1680 := by omega
          have hin : vp_in (nI y) 1680 := vp_in_nI hy (by decide)
          have hcl : (nI y).toNatClampNeg = y := nI_clamp (by omega)
          have hki : vp_in (nI k) 1400 := vp_in_nI (by omega) (by decide)
          have hkc : (nI k).toNatClampNeg = k := nI_clamp (by omega)
          have hnx : nxt Tr p nm = cif (0 ≤ f_md f') none (cif (nm = [46, 46]) (some (f_in f').toNatClampNeg) (chl Tr (nI p) nm)) := by
            unfold nxt
            rw [hf']
          have stop : nxt Tr p nm = none → wq_Model_walks_253 X ge am o2 (nI (d_t d)) (nI p) (nI k) (nI k) (-1) (r_em am τ h) Z := by
            intro hno
            have hw : wk Tr (nm :: N.drop (k + 1)) p = ([], p, 0) := by
              show (match nxt Tr p nm with | none => _ | some q => _) = _
              rw [hno]
            rw [hw] at g1 g2 g3
            unfold wq_Model_walks_253
            exact ⟨fun z => absurd z (by decide), fun _ => e281 τ B p k t1 CB (fun i => t2 _ _ (by decide)) (by rw [← g1]; exact (List.append_nil B).symm) g2 g3 (by omega)⟩
          have on : ∀ q : Nat, nxt Tr p nm = some q → (∃ f2, Tr q = some f2) → wq_Model_walks_253 X ge am o2 (nI (d_t d)) (nI p) (nI k) (nI k) (nI q) (r_em am τ h) Z := by
            intro q hq hq2
            obtain ⟨f2, hf2⟩ := hq2
            have hw : wk Tr (nm :: N.drop (k + 1)) p = (qidT Tr q ++ (wk Tr (N.drop (k + 1)) q).1, (wk Tr (N.drop (k + 1)) q).2.1, (wk Tr (N.drop (k + 1)) q).2.2 + 1) := by
              show (match nxt Tr p nm with | none => _ | some q => _) = _
              rw [hq]
            rw [hw] at g1 g2 g3
            have hqT : qidT Tr q = qidL q f2 := by unfold qidT; rw [hf2]
            obtain ⟨hq60, _, _, rf2⟩ := RT_get rTτ hf2
            have hlen : (A ++ le 2 0 ++ B).length = 9 + 13 * k := by rw [List.length_append, List.length_append, le_len, hA, hB]
            unfold wq_Model_walks_253
            refine ⟨fun _ => ?_, fun z => absurd (nI_pos' (by omega)) z⟩
            simp only [hs, rk, true_and]
            refine rt_qid hM hg τ t28 hq60 CB.2.1.1.1 (by rw [hlen]; omega) rf2 _ ?_
            have C2 := RR_ap (qidL q f2) (by rw [hlen, qidL_len]; omega) CB
            rw [show nI k + 1 = nI (k + 1) from (nI_succ k).symm]
            refine ih (k + 1) q _ (B ++ qidL q f2) (by omega) ⟨f2, hf2⟩ (by rw [List.length_append, hB, qidL_len]; omega) (fun i hi => by rw [ap_fd _ _ hi]; exact t1 i hi) (fun o i hoo => by rw [r_ap_o hoo]; exact t2 o i hoo) (by rw [List.append_assoc] at C2; exact C2) ?_ g2 ?_
            · rw [hqT] at g1
              rw [List.append_assoc]
              exact g1
            · rw [← g3]; show k + 1 + _ = k + (_ + 1); omega
          unfold wq_Model_walks_132 wq_Model_spot wq_Model_spot_0
          simp only [hs, rk, rI0, v37, r_sp, ← ey, true_and]
          refine ⟨fun z => absurd z (nI_ge (by omega) (by omega)), fun _ => ?_⟩
          refine rq_isDirectory hM τ hy _ ?_
          rw [rf.2.1]
          by_cases hd : 0 ≤ f_md f'
          · rw [if_pos hd]
            exact ⟨fun _ => stop (hnx.trans (cif_y hd)), fun z => absurd rfl z⟩
          rw [if_neg hd]
          refine ⟨fun z => absurd z (by decide), fun _ => ?_⟩
          have p208 : ¬ nm = [46, 46] → wq_Model_walks_208 X ge am o2 (nI (d_t d)) (nI p) (nI k) (nI k) (r_em am τ h) Z := by
            intro nd
            have hnx2 := hnx.trans ((cif_n hd).trans (cif_n nd))
            unfold wq_Model_walks_208 wq_Model_walks_209 wq_Model_walks_251
            refine ⟨fun _ => ?_, fun z => absurd rfl z⟩
            simp only [hs, rk, rn, rP, rI, hki, hkc, va, vl, true_and, Option.some.injEq, exists_eq_left', Nat.reduceLT]
            refine rt_child hM t28 rTτ CB.1 hal _ (fun q q1 q2 hc => ?_) (fun hc => ?_)
            · rw [← enm] at hc
              refine on q (hnx2.trans hc) ?_
              obtain ⟨⟨_, f2, z, _⟩, _⟩ := fsti_some hc
              exact ⟨f2, z⟩
            · rw [← enm] at hc
              exact stop (hnx2.trans hc)
          have e2 : (nI l = 2) ↔ l = 2 := by
            show nI l = nI 2 ↔ _
            exact nI_eq (by omega) (by decide)
          have hdots := dots hal
          rw [← enm] at hdots
          simp only [hs, rk, rn, rP, rI, hki, hkc, vl, va, e2, true_and, Option.some.injEq, exists_eq_left', Nat.reduceLT]
          refine ⟨fun z => p208 (fun w => z (hdots.mp w).1), fun z => ?_⟩
          have w1 : vp_in (nI a) 1400 := vp_in_nI (by omega) (by decide)
          have w2 : (nI a).toNatClampNeg = a := nI_clamp (by omega)
          have w3 : vp_in (nI (a + 1)) 1400 := vp_in_nI (by omega) (by decide)
          have w4 : (nI (a + 1)).toNatClampNeg = a + 1 := nI_clamp (by omega)
          have b0 : τ.2.2 O_tape a = tp L a := CB.1.1 a (by omega)
          have b1 : τ.2.2 O_tape (a + 1) = tp L (a + 1) := CB.1.1 (a + 1) (by omega)
          rw [show nI a + 1 = nI (a + 1) from (nI_succ a).symm]
          simp only [w1, w2, w3, w4, b0, b1, true_and]
          refine ⟨fun z2 => p208 (fun w => z2 (hdots.mp w).2.1), fun z2 => ⟨fun z3 => p208 (fun w => z3 (hdots.mp w).2.2), fun z3 => ?_⟩⟩
          have hdd : nm = [46, 46] := hdots.mpr ⟨z, z2, z3⟩
          obtain ⟨_, q, f2, q1, q2, q3⟩ := hwk p f' hf'
          unfold wq_Model_walks_209 wq_Model_walks_251 wq_Model_spot wq_Model_spot_0
          refine ⟨fun w => absurd w (by decide), fun _ => ?_⟩
          simp only [hs, rk, rn, rP, rI, r_sp, ← ey, hin, hcl, rf.1, true_and, Option.some.injEq, exists_eq_left', Nat.reduceLT]
          rw [q2]
          refine on q (hnx.trans ((cif_n hd).trans ((cif_y hdd).trans ?_))) ⟨f2, q3⟩
          rw [q2, nI_clamp (by omega)]
      refine key N.length 0 (d_p d) _ [] (by omega) ⟨f, hf⟩ rfl (fun i hi => ap_fd _ i hi) (fun o i hoo => r_ap_o hoo _ _) (by rw [List.append_nil]; exact C1) ?_ ?_ ?_
      · rw [List.drop_zero, ew]; rfl
      · rw [List.drop_zero, ew]
      · rw [List.drop_zero, ew, Nat.zero_add]
    unfold wq_Model_walks_69 wq_Model_walks_104
    simp only [hs, rk, true_and, Option.some.injEq, exists_eq_left']
    refine rq_fails0 hM hg σ 6 _ ⟨fun z => absurd rfl z, fun _ => ⟨fun z => go (fun w => (hneg.mp z) w.1), fun z => ?_⟩⟩
    have hfo : fm other = none := Classical.byContradiction (fun w => z (hneg.mpr w))
    simp only [hs, rk, rI0, hfc.2, e24, true_and]
    refine ⟨fun w => go (fun v => w v.2), fun w => ?_⟩
    unfold wq_Model_walks_96 wq_Model_walks_104
    simp only [hs, rk, true_and, Option.some.injEq, exists_eq_left']
    exact rq_fails1 hM hg σ 7 _ ⟨fun z => absurd z (by decide), fun _ => er 7 ((cif_n n3).trans ((cif_n n5).trans ((cif_n n6).trans (cif_y ⟨hfo, w⟩)))) (by decide)⟩
  unfold wq_Model_walks_15
  simp only [hs, rk, true_and, Option.some.injEq, exists_eq_left']
  refine rq_fails0 hM hg σ 3 _ ⟨fun _ => ?_, fun z => absurd rfl z⟩
  simp only [hs, rk, rI0, ho, true_and]
  refine rt_fidOf hM σ hC.2.2.2.2.2.1 other _ (fun j2 d2 hj2 hj24 hn2 hd2 _ => ⟨fun z => absurd z (nI_pos (by omega)), fun _ => ?_⟩) (fun hfo => ⟨fun _ => main (-1) (fun z => z.2 hfo) (Or.inl ⟨hfo, rfl⟩), fun z => absurd (by decide) z⟩)
  rw [nI_eq (show j2 < 2 ^ 31 by omega) (show j < 2 ^ 31 by omega)]
  refine ⟨fun z => ?_, fun z => ?_⟩
  · subst z
    have e : other = x := hn2.symm.trans r3
    exact main _ (fun w => w.1 e) (Or.inr ⟨e, rfl⟩)
  · have ne : ¬ other = x := fun e => z (hC.2.2.2.2.2.1.2.2.2 j2 j hj2 r1 (hn2.trans (e.trans r3.symm)))
    unfold wq_Model_walks_47 wq_Model_walks_104
    simp only [hs, rk, true_and, Option.some.injEq, exists_eq_left']
    exact rq_fails1 hM hg σ 5 _ ⟨fun _ => er 5 ((cif_n n3).trans (cif_y ⟨ne, by rw [hd2]; simp⟩)) (by decide), fun z => absurd z (by decide)⟩
end RWK
