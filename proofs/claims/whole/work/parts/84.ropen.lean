/-! the reference: one row changes; opens -/
theorem ra_n {σ : rS} {o o' k j : Nat} {x : Int32} (h : ¬ o' = o) : (r_a σ o k x).2.2 o' j = σ.2.2 o' j := by rw [raa, if_neg (fun z => h z.1)]
theorem ra_k {σ : rS} {o o' k j : Nat} {x : Int32} (h : ¬ j = k) : (r_a σ o k x).2.2 o' j = σ.2.2 o' j := by rw [raa, if_neg (fun z => h z.2)]
theorem ra_y {σ : rS} {o k : Nat} {x : Int32} : (r_a σ o k x).2.2 o k = x := by rw [raa, if_pos ⟨rfl, rfl⟩]
theorem frr_a {σ : rS} {o p : Nat} (x : Int32) (h : o ≤ 7) : frr p (p + 1) σ (r_a σ o p x) := fun o' j h7 _ _ => by
  rw [raa, if_neg]
  rintro ⟨z1, z2⟩
  have := h7 (by omega)
  omega
theorem frr_2 {a b : Nat} {σ σ1 σ2 : rS} (h1 : frr a b σ σ1) (h2 : frr a b σ1 σ2) : frr a b σ σ2 := frr_tr h1 h2 (by omega) (by omega) (by omega) (by omega)
theorem r60 (p : Nat) : 60 * 0 + p = p := by omega
section RW
variable {ge : Nat → Nat} {am : Nat} {h : mm_M} {σ0 σ σ' : rS} {L A : List Int32} {T : sT} {S J : List sT} {fm : sM} {fc gv : Nat} {tm : Int32} {ms : Nat} {sy : Int32}
/-- a row of the live tree has become f' -/
theorem RR_row {p : Nat} {f' : sF} (hp : p < 60) (h : ∀ k, rlf k → σ'.1 k = σ.1 k) (hfr : frr p (p + 1) σ σ') (hi : σ'.2.2 O_is p = 1) (hk : okF f') (hf : RF σ' p f') (H : RR σ0 σ L A T S J fm fc gv tm ms) : RR σ0 σ' L A (tset T p (some f')) S J fm fc gv tm ms := by
  refine RR_live h (frr_tr hfr (frr_rf p (p + 1) _) (by omega) (by omega) (by omega) (by omega)) (RT_set (t := 0) (p := p) (by rw [r60]; exact hfr) hp ?_ H.2.2.1) H
  rw [r60]
  exact Or.inr ⟨f', rfl, hi, hk, hf⟩
theorem RR_row0 {p : Nat} (hp : p < 60) (h : ∀ k, rlf k → σ'.1 k = σ.1 k) (hfr : frr p (p + 1) σ σ') (hi : σ'.2.2 O_is p = 0) (H : RR σ0 σ L A T S J fm fc gv tm ms) : RR σ0 σ' L A (tset T p none) S J fm fc gv tm ms := by
  refine RR_live h (frr_tr hfr (frr_rf p (p + 1) _) (by omega) (by omega) (by omega) (by omega)) (RT_set (t := 0) (p := p) (by rw [r60]; exact hfr) hp ?_ H.2.2.1) H
  rw [r60]
  exact Or.inl ⟨rfl, hi⟩
/-- changed -/
theorem RF_chg {p : Nat} {f : sF} (H : RF σ p f) (t : Int32) : RF (r_a (r_a σ O_version p (σ.2.2 O_version p + 1)) O_mtime p t) p (chg f t) := by
  obtain ⟨h1, h2, h3, h4, ⟨h5, h6⟩, h7, h8⟩ := H
  refine ⟨?_, ?_, ?_, ?_, ⟨?_, fun k hk => ?_⟩, ?_, fun k hk => ?_⟩
  · rw [ra_n (by decide), ra_n (by decide)]; exact h1
  · rw [ra_n (by decide), ra_n (by decide)]; exact h2
  · rw [ra_n (by decide), ra_y, h3]; rfl
  · rw [ra_y]; rfl
  · rw [ra_n (by decide), ra_n (by decide)]; exact h5
  · rw [ra_n (by decide), ra_n (by decide)]; exact h6 k hk
  · rw [ra_n (by decide), ra_n (by decide)]; exact h7
  · rw [ra_n (by decide), ra_n (by decide)]; exact h8 k hk
theorem frr_chg (p : Nat) (v t : Int32) : frr p (p + 1) σ (r_a (r_a σ O_version p v) O_mtime p t) := frr_2 (frr_a _ (by decide)) (frr_a _ (by decide))
theorem is_chg (p q : Nat) (v t : Int32) : (r_a (r_a σ O_version p v) O_mtime p t).2.2 O_is q = σ.2.2 O_is q := by rw [ra_n (by decide), ra_n (by decide)]
theorem okF_wdt {f : sF} {t : Int32} {D : List Int32} (hk : okF f) (h1 : D.length ≤ 512) (h2 : allB D) (h3 : ¬ 0 ≤ f_md f → D = []) : okF (wdt f t D) := ⟨hk.1, hk.2.1, h1, hk.2.2.2.1, h2, h3⟩
theorem okF_chg {f : sF} {t : Int32} (hk : okF f) : okF (chg f t) := okF_wdt hk hk.2.2.1 hk.2.2.2.2.1 hk.2.2.2.2.2
theorem nmem (X : List Int32) : allB ([] : List Int32) := allB_nil
set_option maxHeartbeats 2000000 in
theorem rt_open (hM : RM am h) (hg : ge 0 ≤ am) (hC : RR σ0 σ L A T S J fm fc gv tm ms) (hA : A.length = 7) {j : Nat} {x : Int32} {d : sD} (hr : rfi σ fm fc j x d) (hp : d_p d < 60) {f : sF} {Tr : sT} (hto : trOf T S (d_t d) = some Tr) (hf : Tr (d_p d) = some f) {m : Int32} (hm : σ.1 F_mMode = m) (he : σ.1 F_error = 0) (hsy : σ.1 F_sync = sy) (Z : mm_M → Prop)
    (hZ : ∀ σ', RP σ0 L A S J tm ms sy (spOpen T fm fc gv tm x d f m) σ' → Z (r_em am σ' h)) : wq_Model_opens ge am (nI j) (r_em am σ h) Z := by
  have hs := hM
  unfold RM at hs
  have er : ∀ k : Int32, spOpen T fm fc gv tm x d f m = (k, [], T, fm, fc, gv) → ¬ k = 0 → Z (r_em am (r_f σ F_error k) h) := fun k hk nk => hZ _ (RP_er hC hsy hk nk)
  obtain ⟨r1, r2, r3, r4, r5, r6, r7, r8, r9⟩ := hr
  have hj : vp_in (nI j) 24 := vp_in_nI (by omega) (by decide)
  have hjc : (nI j).toNatClampNeg = j := nI_clamp (by omega)
  obtain ⟨rT, t28⟩ := RR_tr hC hto
  obtain ⟨_, i1, k1, rf⟩ := RT_get rT hf
  obtain ⟨y, ey⟩ : ∃ y, y = 60 * d_t d + d_p d := ⟨_, rfl⟩
  have hy : y < 1680 := by omega
  have hin : vp_in (nI y) 1680 := vp_in_nI hy (by decide)
  have hcl : (nI y).toNatClampNeg = y := nI_clamp (by omega)
  rw [← ey] at rf i1
  have fin : ∀ (σ2 : rS) (f2 : sF) (T2 : sT), RR σ0 σ2 L A T2 S J (fset fm x (some (d_t d, d_p d, m, 0, 0))) fc gv tm ms → RF σ2 y f2 → σ2.2.2 O_fTree j = nI (d_t d) → σ2.2.2 O_fPath j = nI (d_p d) → σ2.1 F_error = 0 → σ2.1 F_sync = sy → spOpen T fm fc gv tm x d f m = (0, qidL (d_p d) f2 ++ le 4 0, T2, fset fm x (some (d_t d, d_p d, m, 0, 0)), fc, gv) → wq_Model_opens_246 ge am (nI j) (r_em am σ2 h) Z := by
    intro σ2 f2 T2 C2 n2 g1 g2 g3 g4 hsp
    unfold wq_Model_opens_246
    simp only [hs, rk, rn, rP, rI, hj, hjc, g1, g2, true_and, Option.some.injEq, exists_eq_left', Nat.reduceLT]
    refine rt_qid hM hg σ2 t28 hp C2.2.1.1.1 (by omega) (by rw [← ey]; exact n2) _ ?_
    have C3 := RR_ap (qidL (d_p d) f2) (by rw [qidL_len]; omega) C2
    simp only [hs, rk, true_and]
    refine rp_put (n := 4) hM hg _ C3.2.1.1.1 (by rw [List.length_append, qidL_len]; omega) _ _ ?_
    have C4 := RR_ap (le 4 0) (by rw [List.length_append, qidL_len, le_len]; omega) C3
    refine hZ _ ?_
    rw [hsp]
    refine ⟨?_, ?_, _, fun _ => rfl, ?_⟩
    · rw [ap_fd _ _ (by decide), ap_fd _ _ (by decide)]; exact g3
    · rw [ap_fd _ _ (by decide), ap_fd _ _ (by decide)]; exact g4
    · rw [List.append_assoc] at C4
      exact C4
  unfold wq_Model_opens wq_Model_opens_0
  simp only [hs, rk, rn, rP, rI, hj, hjc, r7, true_and, Option.some.injEq, exists_eq_left', Nat.reduceLT]
  refine ⟨fun q => ?_, fun q => ?_⟩
  rotate_left
  · unfold wq_Model_opens_15 wq_Model_opens_34
    simp only [hs, rk, true_and, Option.some.injEq, exists_eq_left']
    exact rq_fails1 hM hg σ 3 _ ⟨fun _ => er 3 (cif_y (Int32.not_lt.mp q)) (by decide), fun z => absurd z (by decide)⟩
  have n1 : ¬ 0 ≤ d_m d := Int32.not_le.mpr q
  unfold wq_Model_opens_15 wq_Model_opens_34 wq_Model_spot wq_Model_spot_0
  simp only [hs, rk, true_and, Option.some.injEq, exists_eq_left']
  refine rq_fails0 hM hg σ 3 _ ⟨fun z => absurd rfl z, fun _ => ?_⟩
  simp only [hs, rk, true_and]
  refine rq_isOddMode hM σ _ ?_
  rw [hm]
  by_cases hb : badM m
  · rw [if_neg hb]
    simp only [hs, rk, true_and]
    exact rq_fails1 hM hg σ 5 _ ⟨fun z => absurd z (by decide), fun _ => er 5 ((cif_n n1).trans (cif_y hb)) (by decide)⟩
  have hb' := Decidable.not_not.mp hb
  rw [if_pos hb']
  simp only [hs, rk, true_and]
  refine rq_fails0 hM hg σ 5 _ ⟨fun _ => ?_, fun z => absurd rfl z⟩
  have a3 := and3 m
  have n3 := hb'.2
  have p6 : (¬ m = 0 ∧ (¬ 0 ≤ f_md f ∨ ¬ d_t d = 0)) → wq_Model_opens_81 ge am (nI j) (nI y) (some am) 1 (r_em am σ h) Z := by
    intro n6
    unfold wq_Model_opens_81
    simp only [hs, rk, true_and, Option.some.injEq, exists_eq_left']
    exact rq_fails1 hM hg σ 6 _ ⟨fun z => absurd z (by decide), fun _ => er 6 ((cif_n n1).trans ((cif_n hb).trans (cif_y n6))) (by decide)⟩
  have rest : ¬ (¬ m = 0 ∧ (¬ 0 ≤ f_md f ∨ ¬ d_t d = 0)) → wq_Model_opens_81 ge am (nI j) (nI y) (some am) 0 (r_em am σ h) Z := by
    intro n6
    have p7 : lck (f_md f) m → wq_Model_opens_177 ge am (nI j) (nI y) (some am) (r_em am σ h) Z := by
      intro hl
      unfold wq_Model_opens_177 wq_Model_opens_182
      simp only [hs, rk, true_and, Option.some.injEq, exists_eq_left']
      exact rq_fails1 hM hg σ 7 _ ⟨fun z => absurd z (by decide), fun _ => er 7 ((cif_n n1).trans ((cif_n hb).trans ((cif_n n6).trans (cif_y hl)))) (by decide)⟩
    have go : ¬ lck (f_md f) m → wq_Model_opens_181 ge am (nI j) (nI y) (some am) (r_em am σ h) Z := by
      intro hl
      unfold wq_Model_opens_181 wq_Model_opens_182
      simp only [hs, rk, true_and, Option.some.injEq, exists_eq_left']
      refine rq_fails0 hM hg σ 7 _ ⟨fun _ => ?_, fun z => absurd rfl z⟩
      simp only [hs, rk, rn, rP, rI0, rI, rU, ra1, hj, hjc, hm, ge0 hg, true_and, Option.some.injEq, exists_eq_left', forall_eq, Nat.reduceLT]
      obtain ⟨σ1, e1⟩ : ∃ σ1, σ1 = r_a (r_a (r_a σ 15 j m) 16 j 0) 17 j (-1) := ⟨_, rfl⟩
      rw [← e1]
      have q1 : ∀ k, σ1.1 k = σ.1 k := fun k => by rw [e1]; rfl
      have q2 : ∀ o i, ¬ o = 15 → ¬ o = 16 → ¬ o = 17 → σ1.2.2 o i = σ.2.2 o i := fun o i z1 z2 z3 => by rw [e1, ra_n z3, ra_n z2, ra_n z1]
      have q3 : ∀ o i, ¬ i = j → σ1.2.2 o i = σ.2.2 o i := fun o i z => by rw [e1, ra_k z, ra_k z, ra_k z]
      have C1 : RR σ0 σ1 L A T S J (fset fm x (some (d_t d, d_p d, m, 0, 0))) fc gv tm ms := by
        refine RR_fd (fun k _ _ => q1 k) (fun o i ho => q2 o i (by omega) (by omega) (by omega)) (Rfd_set hC.2.2.2.2.2.1 r1 r3 r4 (fun o i _ _ z => q3 o i z) ?_ (q1 _) ?_) hC
        · rw [q2 _ _ (by decide) (by decide) (by decide)]; exact r3
        · refine ⟨?_, ?_, ?_, ?_, Or.inr ⟨?_, rfl⟩⟩
          · rw [q2 _ _ (by decide) (by decide) (by decide)]; exact r5
          · rw [q2 _ _ (by decide) (by decide) (by decide)]; exact r6
          · rw [e1, ra_n (by decide), ra_n (by decide), ra_y]; rfl
          · rw [e1, ra_n (by decide), ra_y]; rfl
          · rw [e1, ra_y]
      have rf1' : RF σ1 y f := by have := (RT_get (RR_tr C1 hto).1 hf).2.2.2; rw [← ey] at this; exact this
      have t1 : σ1.2.2 O_fTree j = nI (d_t d) := (q2 _ _ (by decide) (by decide) (by decide)).trans r5
      have t2 : σ1.2.2 O_fPath j = nI (d_p d) := (q2 _ _ (by decide) (by decide) (by decide)).trans r6
      refine ⟨fun z => ?_, fun z => ?_⟩
      · refine fin σ1 f T C1 rf1' t1 t2 ((q1 _).trans he) ((q1 _).trans hsy) ?_
        exact (cif_n n1).trans ((cif_n hb).trans ((cif_n n6).trans ((cif_n hl).trans (cif_n (fun y => y.1 z)))))
      · have l512 := k1.2.2.1
        simp only [hin, hcl, rf1'.2.2.2.2.2.1, true_and]
        have e0 : (nI (f_dt f).length ≤ 0) ↔ f_dt f = [] := by
          rw [show (0 : Int32) = nI 0 from rfl, nI_leI (by omega) (by decide)]
          exact ⟨fun y => List.eq_nil_of_length_eq_zero (by omega), fun y => by rw [y]; simp⟩
        refine ⟨fun w => ?_, fun w => ?_⟩
        · refine fin σ1 f T C1 rf1' t1 t2 ((q1 _).trans he) ((q1 _).trans hsy) ?_
          exact (cif_n n1).trans ((cif_n hb).trans ((cif_n n6).trans ((cif_n hl).trans (cif_n (fun v => v.2 (e0.mp w))))))
        · have hne : ¬ f_dt f = [] := fun v => w (e0.mpr v)
          have ht0 : d_t d = 0 := by
            by_cases w : d_t d = 0
            · exact w
            · exact absurd ⟨fun v => z (by rw [v]; decide), Or.inr w⟩ n6
          have hyp : y = d_p d := by omega
          refine rq_changed hM hg _ hy _ ?_
          obtain ⟨σ2, e2⟩ : ∃ σ2, σ2 = r_a σ1 O_size y 0 := ⟨_, rfl⟩
          have F2 : RF σ2 y (f_in f, f_nm f, f_md f, f_vs f, f_mt f, []) := by
            obtain ⟨u1, u2, u3, u4, ⟨u5, u6⟩, u7, u8⟩ := rf1'
            rw [e2]
            refine ⟨?_, ?_, ?_, ?_, ⟨?_, fun k hk => ?_⟩, ?_, fun k hk => absurd hk (by exact Nat.not_lt_zero k)⟩
            · rw [ra_n (by decide)]; exact u1
            · rw [ra_n (by decide)]; exact u2
            · rw [ra_n (by decide)]; exact u3
            · rw [ra_n (by decide)]; exact u4
            · rw [ra_n (by decide)]; exact u5
            · rw [ra_n (by decide)]; exact u6 k hk
            · rw [ra_y]; rfl
          have F3 := RF_chg F2 (σ2.1 F_time)
          have ft : σ2.1 F_time = tm := by rw [e2]; exact C1.2.2.2.2.2.2.1.2.1
          have cf : chg (f_in f, f_nm f, f_md f, f_vs f, f_mt f, []) tm = wdt f tm [] := rfl
          show wq_Model_opens_246 ge am (nI j) (r_em am (r_a (r_a (r_a σ1 O_size y 0) O_version y ((r_a σ1 O_size y 0).2.2 O_version y + 1)) O_mtime y ((r_a σ1 O_size y 0).1 F_time)) h) Z
          rw [← e2]
          rw [ft] at F3 ⊢
          rw [cf] at F3
          have G2 : frr y (y + 1) σ1 σ2 := by rw [e2]; exact frr_a _ (by decide)
          have G3 := frr_2 G2 (frr_chg (σ := σ2) y (σ2.2.2 O_version y + 1) tm)
          have i2 : σ2.2.2 O_is y = 1 := by rw [e2, ra_n (by decide), q2 _ _ (by decide) (by decide) (by decide)]; exact i1
          have hi3 := is_chg (σ := σ2) y y (σ2.2.2 O_version y + 1) tm
          rw [i2] at hi3
          obtain ⟨σ3, e3⟩ : ∃ σ3, σ3 = r_a (r_a σ2 O_version y (σ2.2.2 O_version y + 1)) O_mtime y tm := ⟨_, rfl⟩
          rw [← e3] at F3 G3 hi3 ⊢
          have q5 : ∀ k, σ3.1 k = σ1.1 k := fun k => by rw [e3, e2]; rfl
          have q6 : ∀ o i, 8 ≤ o → σ3.2.2 o i = σ1.2.2 o i := fun o i z => by rw [e3, e2, ra_n (by show ¬ o = 5; omega), ra_n (by show ¬ o = 4; omega), ra_n (by show ¬ o = 6; omega)]
          rw [hyp] at G3 hi3
          have F3' := F3
          rw [hyp] at F3'
          have C3 := RR_row hp (fun k _ => q5 k) G3 hi3 (okF_wdt k1 (by simp) allB_nil (fun _ => rfl)) F3' C1
          refine fin σ3 _ _ C3 F3 ((q6 _ _ (by decide)).trans t1) ((q6 _ _ (by decide)).trans t2) ((q5 _).trans ((q1 _).trans he)) ((q5 _).trans ((q1 _).trans hsy)) ?_
          exact (cif_n n1).trans ((cif_n hb).trans ((cif_n n6).trans ((cif_n hl).trans (cif_y ⟨z, hne⟩))))
    have e159 : ∀ w : Int32, ((¬ w = 0) ↔ (¬ m &&& 3 = 0 ∨ ¬ m &&& 16 = 0)) → ¬ (¬ m &&& 3 = 1 ∧ f_md f &&& 256 = 0) → wq_Model_opens_159 ge am (nI j) (nI y) w (some am) (r_em am σ h) Z := by
      intro w hw hn
      unfold wq_Model_opens_159
      simp only [hs, rk, rn, rP, rI, hin, hcl, rf.2.1, true_and, Option.some.injEq, exists_eq_left', Nat.reduceLT]
      refine ⟨fun z => go (fun l => ?_), fun z => ⟨fun v => go (fun l => ?_), fun v => p7 (Or.inr ⟨hw.mp z, v⟩)⟩⟩
      · rcases l with l | l
        · exact hn l
        · exact absurd z (hw.mpr l.1)
      · rcases l with l | l
        · exact hn l
        · exact v l.2
    have e138 : ∀ r w : Int32, ((¬ r = 0) ↔ ¬ m &&& 3 = 1) → ((¬ w = 0) ↔ (¬ m &&& 3 = 0 ∨ ¬ m &&& 16 = 0)) → wq_Model_opens_138 ge am (nI j) (nI y) r w (r_em am σ h) Z := by
      intro r w hr hw
      unfold wq_Model_opens_138
      simp only [hs, rk, rn, rP, rI, hin, hcl, rf.2.1, true_and, Option.some.injEq, exists_eq_left', Nat.reduceLT]
      exact ⟨fun z => e159 w hw (fun l => absurd z (hr.mpr l.1)), fun z => ⟨fun v => p7 (Or.inl ⟨hr.mp z, v⟩), fun v => e159 w hw (fun l => v l.2)⟩⟩
    have e111 : ∀ r : Int32, ((¬ r = 0) ↔ ¬ m &&& 3 = 1) → wq_Model_opens_111 ge am (nI j) (nI y) (m &&& 3) r (r_em am σ h) Z := by
      intro r hr
      unfold wq_Model_opens_111 wq_Model_opens_133
      simp only [hs, rk, rI0, hm, true_and]
      refine ⟨fun z => e138 r 1 hr ⟨fun _ => Or.inl (by rw [z]; decide), fun _ => by decide⟩, fun z1 => ⟨fun z => e138 r 1 hr ⟨fun _ => Or.inl (by rw [z]; decide), fun _ => by decide⟩, fun z2 => ⟨fun z => e138 r 0 hr ⟨fun v => absurd rfl v, fun v => ?_⟩, fun z => e138 r 1 hr ⟨fun _ => Or.inr z, fun _ => by decide⟩⟩⟩⟩
      rcases v with v | v
      · rcases a3 with a | a | a | a
        · exact absurd a v
        · exact absurd a z1
        · exact absurd a z2
        · exact absurd a n3
      · exact absurd z v
    unfold wq_Model_opens_81 wq_Model_opens_106
    simp only [hs, rk, true_and, Option.some.injEq, exists_eq_left']
    refine rq_fails0 hM hg σ 6 _ ⟨fun _ => ?_, fun z => absurd rfl z⟩
    simp only [hs, rk, rI0, hm, true_and]
    refine ⟨fun z => e111 1 ⟨fun _ => by rw [z]; decide, fun _ => by decide⟩, fun z1 => ⟨fun z2 => e111 0 ⟨fun v => absurd rfl v, fun v => ?_⟩, fun z => e111 1 ⟨fun _ => by rw [z]; decide, fun _ => by decide⟩⟩⟩
    rcases a3 with a | a | a | a
    · exact absurd a z1
    · exact absurd a v
    · exact absurd a z2
    · exact absurd a n3
  have p69 : (¬ 0 ≤ f_md f ∨ ¬ d_t d = 0) → wq_Model_opens_69 ge am (nI j) (nI y) (some am) (r_em am σ h) Z := by
    intro w
    unfold wq_Model_opens_69 wq_Model_opens_80
    simp only [hs, rk, rI0, hm, true_and]
    exact ⟨fun z => rest (fun v => v.1 z), fun z => p6 ⟨z, w⟩⟩
  simp only [hs, rk, rn, rP, rI, hj, hjc, r5, r6, r_sp, ← ey, true_and, Option.some.injEq, exists_eq_left', Nat.reduceLT]
  refine rq_isDirectory hM σ hy _ ?_
  rw [rf.2.1]
  by_cases hd : 0 ≤ f_md f
  · rw [if_pos hd]
    refine ⟨fun z => absurd rfl z, fun _ => ?_⟩
    simp only [hs, rk, rn, rP, rI, hj, hjc, r5, true_and, Option.some.injEq, exists_eq_left', Nat.reduceLT]
    have e0 : (nI (d_t d) = 0) ↔ d_t d = 0 := by
      show nI (d_t d) = nI 0 ↔ _
      exact nI_eq (by omega) (by decide)
    refine ⟨fun z => ?_, fun z => p69 (Or.inr (fun v => z (e0.mpr v)))⟩
    unfold wq_Model_opens_80
    exact rest (fun v => by rcases v.2 with v | v; exact v hd; exact v (e0.mp z))
  · rw [if_neg hd]
    exact ⟨fun _ => p69 (Or.inl hd), fun z => absurd z (by decide)⟩
end RW
