/-! the reference: puts, layScore -/
def Rar (σ : rS) (k : Bool) (s : sB_) : Prop := Rst σ s.1 s.2.1 ∧ (σ.1 64 = 0 ↔ k = false) ∧ (k = true → σ.1 63 = (if s.2.2 = true then 1 else 0) ∧ (s.2.2 = true → 600 ≤ s.1.length))
/-- what an offer may change -/
def frP (σ σ' : rS) : Prop := (∀ i, ¬ i = 59 → ¬ i = 60 → ¬ i = 63 → σ'.1 i = σ.1 i) ∧ σ'.2.1 = σ.2.1 ∧ ∀ o j, o < 21 ∨ 25 ≤ o → σ'.2.2 o j = σ.2.2 o j
theorem frP_rf (σ : rS) : frP σ σ := ⟨fun _ _ _ _ => rfl, rfl, fun _ _ _ => rfl⟩
theorem frP_tr {σ σ1 σ2 : rS} (h1 : frP σ σ1) (h2 : frP σ1 σ2) : frP σ σ2 := ⟨fun i a b c => (h2.1 i a b c).trans (h1.1 i a b c), h2.2.1.trans h1.2.1, fun o j a => (h2.2.2 o j a).trans (h1.2.2 o j a)⟩
theorem hds_qi (σ : rS) {i : Nat} (hi : i < 5) : qi (hds σ) i = σ.2.2 24 i := by
  rcases (by omega : i = 0 ∨ i = 1 ∨ i = 2 ∨ i = 3 ∨ i = 4) with rfl | rfl | rfl | rfl | rfl <;> rfl
theorem hds_of {σ σ' : rS} (h : ∀ j, σ'.2.2 24 j = σ.2.2 24 j) : hds σ' = hds σ := by
  unfold hds
  rw [h, h, h, h, h]
theorem Rar_of {σ σ' : rS} {k : Bool} {s : sB_} (h1 : σ'.1 = σ.1) (h2 : ∀ j, σ'.2.2 21 j = σ.2.2 21 j) (H : Rar σ k s) : Rar σ' k s := ⟨Rst_of (by rw [h1]) (by rw [h1]) h2 H.1, by rw [h1]; exact H.2.1, fun hk => ⟨by rw [h1]; exact (H.2.2 hk).1, (H.2.2 hk).2⟩⟩
theorem be20_tp (q : qW) : ∀ i, i < 5 → ∀ k, k < 4 → tp (be20 q) (4 * i + k) = qi q i >>> ((24 : Int32) - (8 : Int32) * nI k &&& 31) &&& 255 := by
  intro i hi k hk
  have k0 : (24 : Int32) - (8 : Int32) * nI 0 = 24 := by decide
  have k1 : (24 : Int32) - (8 : Int32) * nI 1 = 16 := by decide
  have k2 : (24 : Int32) - (8 : Int32) * nI 2 = 8 := by decide
  have k3 : (24 : Int32) - (8 : Int32) * nI 3 = 0 := by decide
  rcases (by omega : k = 0 ∨ k = 1 ∨ k = 2 ∨ k = 3) with rfl | rfl | rfl | rfl
  · rw [k0]; rcases (by omega : i = 0 ∨ i = 1 ∨ i = 2 ∨ i = 3 ∨ i = 4) with rfl | rfl | rfl | rfl | rfl <;> rfl
  · rw [k1]; rcases (by omega : i = 0 ∨ i = 1 ∨ i = 2 ∨ i = 3 ∨ i = 4) with rfl | rfl | rfl | rfl | rfl <;> rfl
  · rw [k2]; rcases (by omega : i = 0 ∨ i = 1 ∨ i = 2 ∨ i = 3 ∨ i = 4) with rfl | rfl | rfl | rfl | rfl <;> rfl
  · rw [k3, shr_0]; rcases (by omega : i = 0 ∨ i = 1 ∨ i = 2 ∨ i = 3 ∨ i = 4) with rfl | rfl | rfl | rfl | rfl <;> rfl
section RPU
variable {ge : Nat → Nat} {am : Nat} {h : mm_M} {σ : rS}
set_option maxHeartbeats 4000000 in
theorem rt_puts (hM : RM am h) (hg : ge 0 ≤ am) {X : List Int32} (hl : X.length ≤ 5520) (hX : ∀ i, i < X.length → σ.2.2 22 i = tp X i) {k : Bool} {s : sB_} (hA : Rar σ k s) (Z : mm_M → Prop)
    (hZ : ∀ σ', frP σ σ' → hds σ' = sha X → Rar σ' k (ofr k s X) → Z (r_em am σ' h)) : wq_Model_puts ge am (nI X.length) (r_em am σ h) Z := by
  have hs := hM
  unfold RM at hs
  unfold wq_Model_puts wq_Model_puts_0 wq_Model_puts_19
  simp only [hs, rk, true_and]
  refine rt_hashes hM hg hl hX _ (fun σ1 F1 H1 => ?_)
  have P1 : frP σ σ1 := ⟨fun i _ _ _ => by rw [F1.1], F1.2.1, fun o j ho => F1.2.2 o j (by omega) (by omega) (by omega)⟩
  have A1 : Rar σ1 k s := Rar_of F1.1 (fun j => F1.2.2 _ _ (by decide) (by decide) (by decide)) hA
  obtain ⟨⟨b1, b2, b3, b4⟩, a2, a34⟩ := A1
  have same : ofr k s X = s → Z (r_em am σ1 h) := fun e => hZ σ1 P1 H1 (by rw [e]; exact ⟨⟨b1, b2, b3, b4⟩, a2, a34⟩)
  simp only [hs, rk, rI0, true_and]
  refine ⟨fun z => same ?_, fun z => ⟨fun z2 => ?_, fun z2 => same ?_⟩⟩
  · unfold ofr; rw [if_pos (a2.mp z)]
  rotate_left
  · -- full already
    have hk : ¬ k = false := fun w => z (a2.mpr w)
    obtain ⟨a3, a4⟩ := a34 (by cases k with | true => rfl | false => exact absurd rfl hk)
    have hf : s.2.2 = true := by
      cases hb : s.2.2 with
      | true => rfl
      | false => rw [hb, if_neg (by decide)] at a3; exact absurd a3 z2
    unfold ofr
    rw [if_neg hk]
    by_cases c : sha X ∈ s.1
    · exact cif_y c
    · rw [cif_n c, cif_y (a4 hf)]
      obtain ⟨s1, s2, s3⟩ := s
      have hf : s3 = true := hf
      rw [hf]
  have hk : ¬ k = false := fun w => z (a2.mpr w)
  obtain ⟨a3, a4⟩ := a34 (by cases k with | true => rfl | false => exact absurd rfl hk)
  have hf : s.2.2 = false := by
    cases hb : s.2.2 with
    | false => rfl
    | true => rw [hb, if_pos rfl] at a3; exact absurd (a3.symm.trans z2) (by decide)
  have b2' : σ1.1 59 = nI s.1.length := b2
  have b3' : σ1.1 60 = s.2.1 := b3
  unfold lp_Model_puts_22
  intro Y hY
  have key : ∀ (r i : Nat), i + r = s.1.length → (∀ (j : Nat) (q : qW), j < i → s.1[j]? = some q → ¬ q = sha X) → Y am (nI X.length) (nI i) (r_em am σ1 h) := by
    intro r
    induction r with
    | zero =>
      intro i hi hno
      have ei : i = s.1.length := by omega
      have hnm : ¬ sha X ∈ s.1 := by
        intro w
        obtain ⟨j, hj, e⟩ := List.getElem_of_mem w
        exact hno j _ (by omega) (by rw [List.getElem?_eq_getElem hj]) e
      refine hY _ _ _ _ ?_
      unfold wq_Model_puts_22
      simp only [hs, rk, rI0, rU0, b2', hg, true_and, forall_eq]
      refine ⟨fun _ => ?_, fun w => absurd (nI_le (by omega) (by omega)) w⟩
      have e600 : (nI s.1.length = 600) ↔ s.1.length = 600 := by
        show nI s.1.length = nI 600 ↔ _
        exact nI_eq (by omega) (by decide)
      rw [e600]
      refine ⟨fun n6 => ?_, fun n6 => ?_⟩
      · -- a new block
        have eo : ofr k s X = (s.1 ++ [sha X], s.2.1 + nI X.length, s.2.2) := by
          unfold ofr
          rw [if_neg hk, cif_n hnm, cif_n (by omega)]
        unfold lp_Model_puts_107
        intro W hW
        have loop : ∀ (r i : Nat) (τ : rS), i + r = 5 → τ.1 = σ1.1 → τ.2.1 = σ1.2.1 → (∀ o j, ¬ (o = 21 ∧ 5 * s.1.length ≤ j ∧ j < 5 * s.1.length + i) → τ.2.2 o j = σ1.2.2 o j) → (∀ j, j < i → τ.2.2 21 (5 * s.1.length + j) = qi (sha X) j) → W am (nI X.length) (nI i) (r_em am τ h) := by
          intro r
          induction r with
          | zero =>
            intro i τ hi t1 t2 t3 t4
            have e : i = 5 := by omega
            subst e
            refine hW _ _ _ _ ?_
            unfold wq_Model_puts_107
            refine ⟨fun _ => ?_, fun w => absurd (nI_le (a := 5) (Nat.le_refl 5) (by decide)) w⟩
            have t59 : τ.1 59 = nI s.1.length := by rw [t1]; exact b2'
            have t60 : (r_f τ 59 (nI s.1.length + 1)).1 60 = s.2.1 := by rw [rf1, if_neg (by decide), t1]; exact b3'
            simp only [hs, rk, rI0, rU0, t59, t60, hg, true_and, forall_eq]
            refine hZ _ ?_ ?_ ?_
            · refine frP_tr P1 ⟨fun i x1 x2 x3 => by rw [rf1, if_neg x2, rf1, if_neg x1, t1], t2, fun o j ho => t3 o j (fun w => by omega)⟩
            · exact (hds_of (σ := σ1) (fun j => t3 _ _ (fun w => absurd w.1 (by decide)))).trans H1
            · rw [eo]
              refine ⟨⟨?_, ?_, ?_, fun j q hj i hi => ?_⟩, ?_, fun _ => ⟨?_, fun w => ?_⟩⟩
              · rw [List.length_append]; show s.1.length + 1 ≤ 600; omega
              · rw [rf1, if_neg (by decide), rf1, if_pos rfl, ← nI_succ, List.length_append]; rfl
              · rw [rf1, if_pos rfl]
              · have hjl : j < (s.1 ++ [sha X]).length := (List.getElem?_eq_some_iff.mp hj).1
                rw [List.length_append] at hjl
                have hjl : j < s.1.length + 1 := hjl
                by_cases c : j = s.1.length
                · rw [List.getElem?_append_right (by omega), c, Nat.sub_self] at hj
                  have hj : some (sha X) = some q := hj
                  cases hj
                  rw [c]
                  exact t4 i hi
                · rw [List.getElem?_append_left (by omega)] at hj
                  have e := t3 21 (5 * j + i) (fun w => by omega)
                  exact e.trans (b4 j q hj i hi)
              · rw [rf1, if_neg (by decide), rf1, if_neg (by decide), t1]; exact a2
              · rw [rf1, if_neg (by decide), rf1, if_neg (by decide), t1]; exact a3
              · rw [hf] at w; cases w
          | succ r ih =>
            intro i τ hi t1 t2 t3 t4
            refine hW _ _ _ _ ?_
            unfold wq_Model_puts_107
            refine ⟨fun w => absurd w (nI_ge (b := 5) (by omega) (by decide)), fun _ => ?_⟩
            have t59 : τ.1 59 = nI s.1.length := by rw [t1]; exact b2'
            have q1 : (5 : Int32) * nI s.1.length + nI i = nI (5 * s.1.length + i) := by rw [show (5 : Int32) = nI 5 from rfl, pk_mul, nI_add]
            have w1 : vp_in (nI (5 * s.1.length + i)) 3000 := vp_in_nI (by omega) (by decide)
            have w2 : (nI (5 * s.1.length + i)).toNatClampNeg = 5 * s.1.length + i := nI_clamp (by omega)
            have w3 : vp_in (nI i) 5 := vp_in_nI (by omega) (by decide)
            have w4 : (nI i).toNatClampNeg = i := nI_clamp (by omega)
            have h24 : τ.2.2 24 i = qi (sha X) i := by rw [t3 _ _ (fun w => absurd w.1 (by decide)), ← hds_qi σ1 (by omega), H1]
            simp only [hs, rk, rn, rP, rI0, rI, rU, t59, q1, w1, w2, w3, w4, h24, ge0 hg, true_and, Option.some.injEq, exists_eq_left', forall_eq, Nat.reduceLT]
            rw [← nI_succ]
            refine ih (i + 1) _ (by omega) t1 t2 (fun o j w => ?_) (fun j hj => ?_)
            · rw [raa, if_neg (fun x => w ⟨x.1, by omega, by omega⟩)]
              exact t3 o j (fun x => w ⟨x.1, by omega, by omega⟩)
            · rw [raa]
              by_cases c : j = i
              · rw [if_pos ⟨rfl, by omega⟩, c]
              · rw [if_neg (fun x => c (by omega))]
                exact t4 j (by omega)
        exact loop 5 0 σ1 rfl rfl rfl (fun _ _ _ => rfl) (fun j hj => absurd hj (by omega))
      · -- no room
        have eo : ofr k s X = (s.1, s.2.1, true) := by
          unfold ofr
          rw [if_neg hk, cif_n hnm, cif_y (by omega)]
        refine hZ _ (frP_tr P1 ⟨fun i x1 x2 x3 => by rw [rf1, if_neg x3], rfl, fun _ _ _ => rfl⟩) H1 ?_
        rw [eo]
        refine ⟨Rst_of (σ := σ1) (by rw [rf1, if_neg (by decide)]) (by rw [rf1, if_neg (by decide)]) (fun _ => rfl) ⟨b1, b2, b3, b4⟩, by rw [rf1, if_neg (by decide)]; exact a2, fun _ => ⟨by rw [rf1, if_pos rfl, if_pos rfl], fun _ => by show 600 ≤ s.1.length; omega⟩⟩
    | succ r ih =>
      intro i hi hno
      have his : i < s.1.length := by omega
      obtain ⟨q, hq⟩ : ∃ q, s.1[i]? = some q := ⟨_, List.getElem?_eq_getElem his⟩
      have next : ¬ q = sha X → Y am (nI X.length) (nI i + 1) (r_em am σ1 h) := by
        intro hne
        rw [← nI_succ]
        refine ih (i + 1) (by omega) (fun j q' hj hq' => ?_)
        by_cases c : j = i
        · rw [c, hq] at hq'; cases hq'; exact hne
        · exact hno j q' (by omega) hq'
      refine hY _ _ _ _ ?_
      unfold wq_Model_puts_22
      simp only [hs, rk, rI0, b2', true_and]
      refine ⟨fun w => absurd w (nI_ge (by omega) (by omega)), fun _ => ?_⟩
      unfold lp_Model_puts_35
      intro W hW
      have e78 : ∀ fl : Int32, ((fl = 0 ∧ ¬ q = sha X) ∨ (fl = 1 ∧ q = sha X)) → wq_Model_puts_78 Y ge am (nI X.length) (nI i) fl (r_em am σ1 h) Z := by
        intro fl hfl
        unfold wq_Model_puts_78
        rcases hfl with ⟨w1, w2⟩ | ⟨w1, w2⟩
        · exact ⟨fun _ => next w2, fun w => absurd w1 w⟩
        · refine ⟨fun w => absurd w (by rw [w1]; decide), fun _ => same ?_⟩
          unfold ofr
          rw [if_neg hk]
          exact cif_y (by rw [← w2]; exact List.mem_of_getElem? hq)
      have loop : ∀ (r j : Nat) (fl : Int32), j + r = 5 → ((fl = 0 ∧ ¬ q = sha X) ∨ (fl = 1 ∧ ∀ x, x < j → qi q x = qi (sha X) x)) → W am (nI X.length) (nI i) fl (nI j) (r_em am σ1 h) := by
        intro r
        induction r with
        | zero =>
          intro j fl hj hfl
          have e : j = 5 := by omega
          subst e
          refine hW _ _ _ _ _ _ ?_
          unfold wq_Model_puts_35
          refine ⟨fun _ => e78 fl ?_, fun w => absurd (nI_le (a := 5) (Nat.le_refl 5) (by decide)) w⟩
          rcases hfl with w | ⟨w1, w2⟩
          · exact Or.inl w
          · exact Or.inr ⟨w1, qi_ext w2⟩
        | succ r ih =>
          intro j fl hj hfl
          refine hW _ _ _ _ _ _ ?_
          unfold wq_Model_puts_35 wq_Model_puts_71
          refine ⟨fun w => absurd w (nI_ge (b := 5) (by omega) (by decide)), fun _ => ?_⟩
          rcases hfl with ⟨w1, w2⟩ | ⟨w1, w2⟩
          · exact ⟨fun _ => e78 fl (Or.inl ⟨w1, w2⟩), fun w => absurd w1 w⟩
          · refine ⟨fun w => absurd w (by rw [w1]; decide), fun _ => ?_⟩
            have q1 : (5 : Int32) * nI i + nI j = nI (5 * i + j) := by rw [show (5 : Int32) = nI 5 from rfl, pk_mul, nI_add]
            have v1 : vp_in (nI (5 * i + j)) 3000 := vp_in_nI (by omega) (by decide)
            have v2 : (nI (5 * i + j)).toNatClampNeg = 5 * i + j := nI_clamp (by omega)
            have v3 : vp_in (nI j) 5 := vp_in_nI (by omega) (by decide)
            have v4 : (nI j).toNatClampNeg = j := nI_clamp (by omega)
            have h24 : σ1.2.2 24 j = qi (sha X) j := by rw [← hds_qi σ1 (by omega), H1]
            have h21 : σ1.2.2 21 (5 * i + j) = qi q j := b4 i q hq j (by omega)
            simp only [hs, rk, rn, rP, rI, q1, v1, v2, v3, v4, h24, h21, true_and, Option.some.injEq, exists_eq_left', Nat.reduceLT]
            rw [← nI_succ]
            refine ⟨fun w => ih (j + 1) 0 (by omega) (Or.inl ⟨rfl, fun e => w (by rw [e])⟩), fun w => ih (j + 1) 1 (by omega) (Or.inr ⟨rfl, fun x hx => ?_⟩)⟩
            by_cases c : x = j
            · rw [c]; exact w
            · exact w2 x (by omega)
      exact loop 5 0 1 rfl (Or.inr ⟨rfl, fun x hx => absurd hx (by omega)⟩)
  exact key s.1.length 0 (by omega) (fun j q hj => absurd hj (by omega))
set_option maxHeartbeats 1000000 in
theorem rt_lay (hM : RM am h) (hg : ge 0 ≤ am) {o N a t : Nat} {q : qW} (ho : (o = 25 ∧ N = 300) ∨ (o = 26 ∧ N = 40)) (ha : a + 5 ≤ N) (ht : t + 20 ≤ 5520) (hq : ∀ i, i < 5 → σ.2.2 o (a + i) = qi q i) (Z : Int32 → mm_M → Prop)
    (hZ : ∀ σ', σ'.1 = σ.1 → σ'.2.1 = σ.2.1 → (∀ o' j, ¬ (o' = 22 ∧ t ≤ j ∧ j < t + 20) → σ'.2.2 o' j = σ.2.2 o' j) → (∀ i, i < 20 → σ'.2.2 22 (t + i) = tp (be20 q) i) → Z (nI (t + 20)) (r_em am σ' h)) : wq_Model_layScore ge am (nI t) (some (am + o)) (nI a) (r_em am σ h) Z := by
  have hs := hM
  unfold RM at hs
  have hko : mm_k h (am + o) = ka_I ∧ mm_n h (am + o) = N := by
    rcases ho with ⟨rfl, rfl⟩ | ⟨rfl, rfl⟩
    · exact ⟨hs.2.2.2.2.2.2.2.2.2.2.2.2.2.2.2.2.2.2.2.2.2.2.2.2.2.1.2.1, hs.2.2.2.2.2.2.2.2.2.2.2.2.2.2.2.2.2.2.2.2.2.2.2.2.2.1.2.2⟩
    · exact ⟨hs.2.2.2.2.2.2.2.2.2.2.2.2.2.2.2.2.2.2.2.2.2.2.2.2.2.2.2.1, hs.2.2.2.2.2.2.2.2.2.2.2.2.2.2.2.2.2.2.2.2.2.2.2.2.2.2.2.2⟩
  have ho1 : 0 < o := by omega
  have ho2 : o < 27 := by omega
  unfold wq_Model_layScore wq_Model_layScore_0 lp_Model_layScore_3
  intro Y hY
  have key : ∀ (r i : Nat) (τ : rS), i + r = 5 → τ.1 = σ.1 → τ.2.1 = σ.2.1 → (∀ o' j, ¬ (o' = 22 ∧ t ≤ j ∧ j < t + 4 * i) → τ.2.2 o' j = σ.2.2 o' j) → (∀ x, x < 4 * i → τ.2.2 22 (t + x) = tp (be20 q) x) → Y am (nI t) (some (am + o)) (nI a) (nI i) (r_em am τ h) := by
    intro r
    induction r with
    | zero =>
      intro i τ hi t1 t2 t3 t4
      have e : i = 5 := by omega
      subst e
      refine hY _ _ _ _ _ _ ?_
      unfold wq_Model_layScore_3
      refine ⟨fun _ => ?_, fun w => absurd (nI_le (a := 5) (Nat.le_refl 5) (by decide)) w⟩
      rw [show nI t + 20 = nI (t + 20) from nI_add t 20]
      exact hZ τ t1 t2 t3 t4
    | succ r ih =>
      intro i τ hi t1 t2 t3 t4
      refine hY _ _ _ _ _ _ ?_
      unfold wq_Model_layScore_3 lp_Model_layScore_12
      refine ⟨fun w => absurd w (nI_ge (b := 5) (by omega) (by decide)), fun _ => ?_⟩
      intro W hW
      have loop : ∀ (r' k : Nat) (ρ : rS), k + r' = 4 → ρ.1 = σ.1 → ρ.2.1 = σ.2.1 → (∀ o' j, ¬ (o' = 22 ∧ t ≤ j ∧ j < t + (4 * i + k)) → ρ.2.2 o' j = σ.2.2 o' j) → (∀ x, x < 4 * i + k → ρ.2.2 22 (t + x) = tp (be20 q) x) → W am (nI t) (some (am + o)) (nI a) (nI i) (nI k) (r_em am ρ h) := by
        intro r'
        induction r' with
        | zero =>
          intro k ρ hk u1 u2 u3 u4
          have e : k = 4 := by omega
          subst e
          refine hW _ _ _ _ _ _ _ ?_
          unfold wq_Model_layScore_12
          refine ⟨fun _ => ?_, fun w => absurd (nI_le (a := 4) (Nat.le_refl 4) (by decide)) w⟩
          rw [← nI_succ]
          exact ih (i + 1) ρ (by omega) u1 u2 (by rw [show 4 * (i + 1) = 4 * i + 4 by omega]; exact u3) (by rw [show 4 * (i + 1) = 4 * i + 4 by omega]; exact u4)
        | succ r' ih' =>
          intro k ρ hk u1 u2 u3 u4
          refine hW _ _ _ _ _ _ _ ?_
          unfold wq_Model_layScore_12
          refine ⟨fun w => absurd w (nI_ge (b := 4) (by omega) (by decide)), fun _ => ?_⟩
          have q1 : (nI t + (4 : Int32) * nI i) + nI k = nI (t + (4 * i + k)) := by rw [show (4 : Int32) = nI 4 from rfl, pk_mul, nI_add, nI_add, Nat.add_assoc]
          have w1 : vp_in (nI (t + (4 * i + k))) 6080 := vp_in_nI (by omega) (by decide)
          have w2 : (nI (t + (4 * i + k))).toNatClampNeg = t + (4 * i + k) := nI_clamp (by omega)
          have w3 : vp_in (nI (a + i)) N := vp_in_nI (by omega) (by omega)
          have w4 : (nI (a + i)).toNatClampNeg = a + i := nI_clamp (by omega)
          have b1 : ρ.2.2 o (a + i) = qi q i := by rw [u3 _ _ (fun w => by omega)]; exact hq i (by omega)
          simp only [hs, hko, rk, rn, rP, rI am o ho1 ho2, rU, q1, nI_add, w1, w2, w3, w4, b1, ge0 hg, true_and, Option.some.injEq, exists_eq_left', forall_eq, Nat.reduceLT]
          rw [← nI_succ]
          refine ih' (k + 1) _ (by omega) u1 u2 (fun o' j w => ?_) (fun x hx => ?_)
          · rw [raa, if_neg (fun y => w ⟨y.1, by omega, by omega⟩)]
            exact u3 o' j (fun y => w ⟨y.1, by omega, by omega⟩)
          · rw [raa]
            by_cases c : x = 4 * i + k
            · rw [if_pos ⟨rfl, by omega⟩, c, be20_tp q i (by omega) k (by omega)]
            · rw [if_neg (fun y => c (by omega))]
              exact u4 x (by omega)
      exact loop 4 0 τ rfl t1 t2 t3 t4
  exact key 5 0 σ rfl rfl rfl (fun _ _ _ => rfl) (fun x hx => absurd hx (by omega))
end RPU
