/-! the reference: scoreFile -/
/-- what the scoring of a file may change -/
def frS (σ σ' : rS) : Prop := (∀ i, ¬ i = 59 → ¬ i = 60 → ¬ i = 63 → σ'.1 i = σ.1 i) ∧ σ'.2.1 = σ.2.1 ∧ ∀ o j, o < 21 ∨ o = 25 → σ'.2.2 o j = σ.2.2 o j
theorem frS_rf (σ : rS) : frS σ σ := ⟨fun _ _ _ _ => rfl, rfl, fun _ _ _ => rfl⟩
theorem frS_tr {σ σ1 σ2 : rS} (h1 : frS σ σ1) (h2 : frS σ1 σ2) : frS σ σ2 := ⟨fun i a b c => (h2.1 i a b c).trans (h1.1 i a b c), h2.2.1.trans h1.2.1, fun o j a => (h2.2.2 o j a).trans (h1.2.2 o j a)⟩
theorem frS_P {σ σ' : rS} (h : frP σ σ') : frS σ σ' := ⟨h.1, h.2.1, fun o j ho => h.2.2 o j (by omega)⟩
theorem RF_of {σ σ' : rS} {x : Nat} {f : sF} (h : ∀ o j, o ≤ 9 → σ'.2.2 o j = σ.2.2 o j) (H : RF σ x f) : RF σ' x f := by
  obtain ⟨h1, h2, h3, h4, ⟨h5, h6⟩, h7, h8⟩ := H
  exact ⟨(h _ _ (by decide)).trans h1, (h _ _ (by decide)).trans h2, (h _ _ (by decide)).trans h3, (h _ _ (by decide)).trans h4, ⟨(h _ _ (by decide)).trans h5, fun k hk => (h _ _ (by decide)).trans (h6 k hk)⟩, (h _ _ (by decide)).trans h7, fun k hk => (h _ _ (by decide)).trans (h8 k hk)⟩
section RSF
variable {ge : Nat → Nat} {am : Nat} {h : mm_M} {σ : rS}
set_option maxHeartbeats 4000000 in
theorem rt_sfile (hM : RM am h) (hg : ge 0 ≤ am) {t p : Nat} {f : sF} (ht : t < 28) (hp : p < 60) (hk0 : okF f) (hf : RF σ (60 * t + p) f) {k : Bool} {s : sB_} (hA : Rar σ k s) (Z : mm_M → Prop)
    (hZ : ∀ σ', frS σ σ' → hds σ' = sha (fblk (f_dt f) (nck (f_dt f))) → Rar σ' k (ofr k (ofrC k (f_dt f) (nck (f_dt f)) s) (fblk (f_dt f) (nck (f_dt f)))) → Z (r_em am σ' h)) : wq_Model_scoreFile ge am (nI t) (nI p) (r_em am σ h) Z := by
  have hs := hM
  unfold RM at hs
  obtain ⟨y, ey⟩ : ∃ y, y = 60 * t + p := ⟨_, rfl⟩
  rw [← ey] at hf
  have hy : y < 1680 := by omega
  obtain ⟨D, eD⟩ : ∃ D, D = f_dt f := ⟨_, rfl⟩
  rw [← eD] at hZ
  have hD : D.length ≤ 512 := by rw [eD]; exact hk0.2.2.1
  have hDB : allB D := by rw [eD]; exact hk0.2.2.2.2.1
  have hn8 : nck D ≤ 8 := by unfold nck; omega
  have hin : vp_in (nI y) 1680 := vp_in_nI hy (by decide)
  have hcl : (nI y).toNatClampNeg = y := nI_clamp (by omega)
  -- the scores' block
  have e133 : ∀ τ : rS, frS σ τ → Rar τ k (ofrC k D (nck D) s) → (∀ i, i < nck D → ∀ x, x < 5 → τ.2.2 26 (5 * i + x) = qi (sha (chunk D i)) x) → lp_Model_scoreFile_133 ge am (nI (nck D)) 0 0 (r_em am τ h) Z := by
    intro τ0 tF tA tP
    unfold lp_Model_scoreFile_133
    intro Y hY
    have key : ∀ (r j : Nat) (τ : rS), j + r = nck D → frS σ τ → Rar τ k (ofrC k D (nck D) s) → (∀ i, i < nck D → ∀ x, x < 5 → τ.2.2 26 (5 * i + x) = qi (sha (chunk D i)) x) → (∀ i, i < 20 * j → τ.2.2 22 i = tp (fblk D j) i) → Y am (nI (nck D)) (nI (20 * j)) (nI j) (r_em am τ h) := by
      intro r
      induction r with
      | zero =>
        intro j τ hj t1 t2 t3 t4
        have e : j = nck D := by omega
        subst e
        refine hY _ _ _ _ _ ?_
        unfold wq_Model_scoreFile_133
        refine ⟨fun _ => ?_, fun w => absurd (nI_le (Nat.le_refl _) (by omega)) w⟩
        simp only [hs, rk, true_and]
        have hl := fblk_len D (nck D)
        rw [← hl]
        refine rt_puts hM hg (by omega) (by rw [hl]; exact t4) t2 _ (fun τ' a1 a2 a3 => hZ τ' (frS_tr t1 (frS_P a1)) a2 a3)
      | succ r ih =>
        intro j τ hj t1 t2 t3 t4
        refine hY _ _ _ _ _ ?_
        unfold wq_Model_scoreFile_133
        refine ⟨fun w => absurd w (nI_ge (by omega) (by omega)), fun _ => ?_⟩
        have q5 : (5 : Int32) * nI j = nI (5 * j) := by rw [show (5 : Int32) = nI 5 from rfl, pk_mul]
        simp only [hs, rk, rP, q5, true_and]
        refine rt_lay (o := 26) (N := 40) hM hg (Or.inr ⟨rfl, rfl⟩) (by omega) (by omega) (fun i hi => t3 j (by omega) i hi) _ (fun τ' a1 a2 a3 a4 => ?_)
        rw [← nI_succ, show 20 * j + 20 = 20 * (j + 1) by omega]
        refine ih (j + 1) τ' (by omega) (frS_tr t1 ⟨fun i _ _ _ => by rw [a1], a2, fun o i ho => a3 o i (fun w => by omega)⟩) (Rar_of a1 (fun i => a3 _ _ (fun w => absurd w.1 (by decide))) t2) (fun i hi x hx => by rw [a3 _ _ (fun w => absurd w.1 (by decide))]; exact t3 i hi x hx) (fun i hi => ?_)
        have hl := fblk_len D j
        show _ = tp (fblk D j ++ be20 (sha (chunk D j))) i
        by_cases c : i < 20 * j
        · rw [a3 _ _ (fun w => by omega), t4 i c]
          refine (tp_some ?_).symm
          rw [List.getElem?_append_left (by omega)]
          exact tp_get (by omega)
        · have := a4 (i - 20 * j) (by omega)
          rw [show 20 * j + (i - 20 * j) = i by omega] at this
          rw [this]
          refine (tp_some ?_).symm
          rw [List.getElem?_append_right (by omega), hl]
          exact tp_get (by rw [be20_len]; omega)
    exact key (nck D) 0 τ0 (by omega) tF tA tP (fun i hi => absurd hi (by omega))
  unfold wq_Model_scoreFile wq_Model_scoreFile_0 wq_Model_spot wq_Model_spot_0
  rw [r_sp, ← ey]
  unfold lp_Model_scoreFile_12
  intro X hX
  have key : ∀ (r j : Nat) (τ : rS), j + r = nck D → frS σ τ → Rar τ k (ofrC k D j s) → (∀ i, i < j → ∀ x, x < 5 → τ.2.2 26 (5 * i + x) = qi (sha (chunk D i)) x) → X am (nI y) (nI j) (nI (64 * j)) (r_em am τ h) := by
    intro r
    induction r with
    | zero =>
      intro j τ hj t1 t2 t3
      have e : j = nck D := by omega
      have fτ : RF τ y f := RF_of (fun o i ho => t1.2.2 o i (by omega)) hf
      have f7 : τ.2.2 O_size y = nI D.length := by rw [eD]; exact fτ.2.2.2.2.2.1
      refine hX _ _ _ _ _ ?_
      unfold wq_Model_scoreFile_12
      simp only [hs, rk, rn, rP, rI, hin, hcl, f7, true_and, Option.some.injEq, exists_eq_left', Nat.reduceLT]
      rw [nI_leI (show D.length < 2 ^ 31 by omega) (show 64 * j < 2 ^ 31 by omega)]
      refine ⟨fun _ => ?_, fun w => ?_⟩
      · rw [e]
        refine e133 τ t1 ?_ ?_
        · rw [← e]; exact t2
        · rw [← e]; exact t3
      · exfalso
        unfold nck at e
        omega
    | succ r ih =>
      intro j τ hj t1 t2 t3
      have hjn : j < nck D := by omega
      have hjl : 64 * j < D.length := by unfold nck at hjn; omega
      have fτ : RF τ y f := RF_of (fun o i ho => t1.2.2 o i (by omega)) hf
      have f7 : τ.2.2 O_size y = nI D.length := by rw [eD]; exact fτ.2.2.2.2.2.1
      refine hX _ _ _ _ _ ?_
      unfold wq_Model_scoreFile_12
      simp only [hs, rk, rn, rP, rI, hin, hcl, f7, true_and, Option.some.injEq, exists_eq_left', Nat.reduceLT]
      refine ⟨fun w => absurd w (nI_ge hjl (by omega)), fun _ => ?_⟩
      obtain ⟨n, en⟩ : ∃ n, n = min 64 (D.length - 64 * j) := ⟨_, rfl⟩
      have qn' : (if (nI D.length - nI (64 * j)) < 64 then (nI D.length - nI (64 * j)) else 64) = nI n := by
        rw [nI_sub (by omega), show (64 : Int32) = nI 64 from rfl]
        by_cases c : D.length - 64 * j < 64
        · rw [if_pos (nI_lt (b := 64) c (by decide)), en, Nat.min_eq_right (by omega)]
        · rw [if_neg (fun w => c ((nI_ltI (b := 64) (by omega) (by decide)).mp w)), en, Nat.min_eq_left (by omega)]
      rw [qn']
      have hcl' : (chunk D j).length = n := by rw [chunk_len (by omega), en]
      have hn64 : n ≤ 64 := by omega
      unfold lp_Model_scoreFile_42
      intro Y hY
      have copy : ∀ (r' i : Nat) (ρ : rS), i + r' = n → frS σ ρ → (∀ o x, ¬ o = 22 → ρ.2.2 o x = τ.2.2 o x) → ρ.1 = τ.1 → (∀ x, x < i → ρ.2.2 22 x = tp (chunk D j) x) → Y am (nI y) (nI j) (nI (64 * j)) (nI n) (nI i) (r_em am ρ h) := by
        intro r'
        induction r' with
        | zero =>
          intro i ρ hi u1 u2 u3 u4
          have ei : i = n := by omega
          refine hY _ _ _ _ _ _ _ ?_
          unfold wq_Model_scoreFile_42
          refine ⟨fun _ => ?_, fun w => absurd (nI_le (by omega) (by omega)) w⟩
          simp only [hs, rk, true_and]
          have A2 : Rar ρ k (ofrC k D j s) := Rar_of u3 (fun x => u2 _ _ (by decide)) t2
          rw [← hcl']
          refine rt_puts hM hg (by omega) (fun x hx => u4 x (by omega)) A2 _ (fun ρ2 a1 a2 a3 => ?_)
          unfold lp_Model_scoreFile_87
          intro W hW
          have part : ∀ (r'' x : Nat) (π : rS), x + r'' = 5 → frS σ π → π.1 = ρ2.1 → (∀ o z, ¬ o = 26 → π.2.2 o z = ρ2.2.2 o z) → (∀ i, i < j → ∀ x, x < 5 → π.2.2 26 (5 * i + x) = qi (sha (chunk D i)) x) → (∀ z, z < x → π.2.2 26 (5 * j + z) = qi (sha (chunk D j)) z) → W am (nI y) (nI j) (nI (64 * j)) (nI x) (r_em am π h) := by
            intro r''
            induction r'' with
            | zero =>
              intro x π hx p1 p2 p3 p4 p5
              have e : x = 5 := by omega
              subst e
              refine hW _ _ _ _ _ _ ?_
              unfold wq_Model_scoreFile_87
              refine ⟨fun _ => ?_, fun w => absurd (nI_le (a := 5) (Nat.le_refl 5) (by decide)) w⟩
              rw [← nI_succ, show nI (64 * j) + 64 = nI (64 * (j + 1)) from (nI_add (64 * j) 64).trans (by congr 1)]
              refine ih (j + 1) π (by omega) p1 (Rar_of p2 (fun z => p3 _ _ (by decide)) a3) (fun i hi z hz => ?_)
              by_cases c : i = j
              · rw [c]; exact p5 z hz
              · exact p4 i (by omega) z hz
            | succ r'' ih'' =>
              intro x π hx p1 p2 p3 p4 p5
              refine hW _ _ _ _ _ _ ?_
              unfold wq_Model_scoreFile_87
              refine ⟨fun w => absurd w (nI_ge (b := 5) (by omega) (by decide)), fun _ => ?_⟩
              have q1 : (5 : Int32) * nI j + nI x = nI (5 * j + x) := by rw [show (5 : Int32) = nI 5 from rfl, pk_mul, nI_add]
              have v1 : vp_in (nI (5 * j + x)) 40 := vp_in_nI (by omega) (by decide)
              have v2 : (nI (5 * j + x)).toNatClampNeg = 5 * j + x := nI_clamp (by omega)
              have v3 : vp_in (nI x) 5 := vp_in_nI (by omega) (by decide)
              have v4 : (nI x).toNatClampNeg = x := nI_clamp (by omega)
              have h24 : π.2.2 24 x = qi (sha (chunk D j)) x := by rw [p3 _ _ (by decide), ← hds_qi ρ2 (by omega), a2]
              simp only [hs, rk, rn, rP, rI, rU, q1, v1, v2, v3, v4, h24, ge0 hg, true_and, Option.some.injEq, exists_eq_left', forall_eq, Nat.reduceLT]
              rw [← nI_succ]
              refine ih'' (x + 1) _ (by omega) (frS_tr p1 ⟨fun _ _ _ _ => rfl, rfl, fun o z ho => ra_n (by omega)⟩) p2 (fun o z ho => by rw [ra_n ho]; exact p3 o z ho) (fun i hi z hz => ?_) (fun z hz => ?_)
              · rw [ra_k (by omega)]; exact p4 i hi z hz
              · rw [raa]
                by_cases c : z = x
                · rw [if_pos ⟨rfl, by omega⟩, c]
                · rw [if_neg (fun w => c (by omega))]
                  exact p5 z (by omega)
          refine part 5 0 ρ2 rfl (frS_tr u1 (frS_P a1)) rfl (fun _ _ _ => rfl) (fun i hi z hz => ?_) (fun z hz => absurd hz (by omega))
          rw [a1.2.2 _ _ (by decide), u2 _ _ (by decide)]
          exact t3 i hi z hz
        | succ r' ih' =>
          intro i ρ hi u1 u2 u3 u4
          refine hY _ _ _ _ _ _ _ ?_
          unfold wq_Model_scoreFile_42
          refine ⟨fun w => absurd w (nI_ge (by omega) (by omega)), fun _ => ?_⟩
          have v1 : vp_in (nI (512 * y + 64 * j + i)) 860160 := vp_in_nI (by omega) (by decide)
          have v2 : (nI (512 * y + 64 * j + i)).toNatClampNeg = 512 * y + 64 * j + i := nI_clamp (by omega)
          have v3 : vp_in (nI i) 6080 := vp_in_nI (by omega) (by decide)
          have v4 : (nI i).toNatClampNeg = i := nI_clamp (by omega)
          have d1 : ρ.2.2 9 (512 * y + 64 * j + i) = tp (chunk D j) i := by
            rw [u2 _ _ (by decide), show 512 * y + 64 * j + i = 512 * y + (64 * j + i) by omega]
            have := fτ.2.2.2.2.2.2 (64 * j + i) (by rw [← eD]; omega)
            rw [← eD] at this
            refine this.trans ?_
            unfold chunk
            rw [slc_tp (by omega)]
          simp only [hs, rk, rn, rP, rI, rU, r_nmD, nI_add, v1, v2, v3, v4, d1, ge0 hg, true_and, Option.some.injEq, exists_eq_left', forall_eq, Nat.reduceLT]
          rw [← nI_succ]
          refine ih' (i + 1) _ (by omega) (frS_tr u1 ⟨fun _ _ _ _ => rfl, rfl, fun o z ho => ra_n (by omega)⟩) (fun o x ho => by rw [ra_n ho]; exact u2 o x ho) u3 (fun x hx => ?_)
          rw [raa]
          by_cases c : x = i
          · rw [if_pos ⟨rfl, c⟩, c]
          · rw [if_neg (fun w => c w.2)]
            exact u4 x (by omega)
      exact copy n 0 τ (by omega) t1 (fun _ _ _ => rfl) rfl (fun x hx => absurd hx (by omega))
  exact key (nck D) 0 σ (by omega) (frS_rf σ) hA (fun i hi => absurd hi (by omega))
end RSF
