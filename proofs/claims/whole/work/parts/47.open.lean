/-! the class: open, stat, remove, clunk -/
noncomputable def jn (J : List sT) (T T' : sT) : List sT := cif (T' = T) J (pushJ J T)
/-- what a handler leaves -/
def Pst (ax : Nat) (κ0 : cS) (g : mm_M) (L A : List Int32) (S J : List sT) (tm : Int32) (ms : Nat) (R : sR) (κ' : cS) (g' : mm_M) : Prop := ext g g' ∧ ∃ A', (R.1 = 0 → A' = A ++ R.2.1) ∧ CC ax κ0 κ' g' L A' R.2.2.1 S J R.2.2.2.1 R.2.2.2.2.1 R.2.2.2.2.2 tm ms
section HS
variable {ge : Nat → Nat} {ax : Nat} {κ0 κ : cS} {g : mm_M} {L A : List Int32} {T : sT} {S J : List sT} {fm : sM} {fc gv : Nat} {tm : Int32} {ms : Nat}
theorem cq_bad (m : Int32) (h : mm_M) (Z : Int32 → mm_M → Prop) (h1 : badM m → Z 1 h) (h0 : ¬ badM m → Z 0 h) : wq_Server_isBadMode ge m h Z := by
  unfold wq_Server_isBadMode wq_Server_isBadMode_0 wq_Server_isBadMode_14 wq_Server_isBadMode_19
  unfold badM at h1 h0
  exact ⟨fun q => ⟨Or.inr rfl, h1 (fun z => q z.1)⟩, fun q => ⟨fun q2 => ⟨Or.inl rfl, h0 (fun z => z ⟨q, q2⟩)⟩, fun q2 => ⟨Or.inr rfl, h1 (fun z => z.2 q2)⟩⟩⟩
theorem cq_lacks (fmd m : Int32) (h : mm_M) (Z : Int32 → mm_M → Prop) (h1 : lck fmd m → Z 1 h) (h0 : ¬ lck fmd m → Z 0 h) : wq_Server_lacks ge fmd m h Z := by
  unfold lck at h1 h0
  have p44 : ∀ w : Int32, (w = 0 ∨ w = 1) → (w = 1 ↔ (¬ m &&& 3 = 0 ∨ ¬ m &&& 16 = 0)) → ¬ (¬ m &&& 3 = 1 ∧ fmd &&& 256 = 0) → wq_Server_lacks_44 ge fmd w h Z := by
    intro w hw hi hr
    unfold wq_Server_lacks_44 wq_Server_lacks_60 wq_Server_lacks_56 wq_Server_lacks_61
    refine ⟨fun q => ⟨Or.inl rfl, h0 (fun z => z.elim hr (fun y => ?_))⟩, fun q => ⟨fun q2 => ⟨Or.inl rfl, h0 (fun z => z.elim hr (fun y => q2 y.2))⟩, fun q2 => ⟨Or.inr rfl, h1 (Or.inr ⟨hi.mp (hw.resolve_left q), q2⟩)⟩⟩⟩
    have := hi.mpr y.1
    rw [q] at this
    exact absurd this (by decide)
  have p31 : ∀ w : Int32, (w = 0 ∨ w = 1) → (w = 1 ↔ (¬ m &&& 3 = 0 ∨ ¬ m &&& 16 = 0)) → ∀ v : Int32, (v = 0 ∨ v = 1) → (v = 1 ↔ ¬ m &&& 3 = 1) → wq_Server_lacks_31 ge fmd v w h Z := by
    intro w hw hi v hv hj
    unfold wq_Server_lacks_31 wq_Server_lacks_56 wq_Server_lacks_61
    refine ⟨fun q => p44 w hw hi (fun z => ?_), fun q => ⟨fun q2 => ⟨Or.inr rfl, h1 (Or.inl ⟨hj.mp (hv.resolve_left q), q2⟩)⟩, fun q2 => p44 w hw hi (fun z => q2 z.2)⟩⟩
    have := hj.mpr z.1
    rw [q] at this
    exact absurd this (by decide)
  have p12 : ∀ v : Int32, (v = 0 ∨ v = 1) → (v = 1 ↔ ¬ m &&& 3 = 1) → wq_Server_lacks_12 ge fmd m v h Z := by
    intro v hv hj
    unfold wq_Server_lacks_12 wq_Server_lacks_26
    exact ⟨fun q => p31 1 (Or.inr rfl) ⟨fun _ => Or.inl q, fun _ => rfl⟩ v hv hj, fun q => ⟨fun q2 => p31 0 (Or.inl rfl) ⟨fun z => absurd z (by decide), fun z => z.elim (fun y => absurd q y) (fun y => absurd q2 y)⟩ v hv hj, fun q2 => p31 1 (Or.inr rfl) ⟨fun _ => Or.inr q2, fun _ => rfl⟩ v hv hj⟩⟩
  unfold wq_Server_lacks wq_Server_lacks_0
  exact ⟨fun q => p12 0 (Or.inl rfl) ⟨fun z => absurd z (by decide), fun z => absurd q z⟩, fun q => p12 1 (Or.inr rfl) ⟨fun _ => q, fun _ => rfl⟩⟩
theorem cq_above (v : Int64) (l : Int32) (h : mm_M) (Z : Int32 → mm_M → Prop) (h1 : (v < 0 ∨ l.toInt64 < v) → Z 1 h) (h0 : ¬ (v < 0 ∨ l.toInt64 < v) → Z 0 h) : wq_Server_isAbove ge v l h Z := by
  unfold wq_Server_isAbove wq_Server_isAbove_0 wq_Server_isAbove_13 wq_Server_isAbove_18
  simp only [lg_cmp_lt, lg_cmp_le]
  exact ⟨fun q => ⟨Or.inr trivial, h1 (Or.inl q)⟩, fun q => ⟨fun q2 => ⟨Or.inl trivial, h0 (fun z => z.elim q (fun y => absurd q2 (Int64.not_le.mpr y)))⟩, fun q2 => ⟨Or.inr trivial, h1 (Or.inr (Int64.not_le.mp q2))⟩⟩⟩
/-- the row of a fid -/
def rw_ (κ : cS) (fm : sM) (i : Nat) (x : Int32) (d : sD) : Prop := i < 24 ∧ usd κ i ∧ κ.1 (8 + i) 1 = x ∧ fm x = some d ∧ crow κ i d
theorem crow_open {i : Nat} {d : sD} (h : crow κ i d) : (κ.1 (8 + i) 4 = 0 ↔ ¬ 0 ≤ d_m d) ∧ (¬ κ.1 (8 + i) 4 = 0 → κ.1 (8 + i) 5 = d_m d) := by
  rcases h.2.2.1 with z | z
  · exact ⟨⟨fun _ => by rw [z.2.1]; decide, fun _ => z.1⟩, fun q => absurd z.1 q⟩
  · exact ⟨⟨fun q => by rw [z.1] at q; exact absurd q (by decide), fun q => absurd z.2.1 q⟩, fun _ => z.2.2⟩
theorem crow_live {i : Nat} {d : sD} (h : crow κ i d) (ht : d_t d < 2 ^ 31) : (κ.1 (8 + i) 2 = -1 ↔ d_t d = 0) := by
  rw [h.1]
  refine ⟨fun q => ?_, fun q => by rw [q]; decide⟩
  by_cases z : d_t d = 0
  · exact z
  · exact absurd q (nI_m1_ne (by omega) ht)
/-- a fid opened -/
def c_op (κ : cS) (i : Nat) (m : Int32) : cS := c_u (c_u (c_u (c_u κ (8 + i) 4 1) (8 + i) 5 m) (8 + i) 6 0) (8 + i) 7 0
theorem c_op_o (κ : cS) (i : Nat) (m : Int32) (o j : Nat) (h : ¬ o = 8 + i ∨ j < 4) : (c_op κ i m).1 o j = κ.1 o j := by
  unfold c_op
  rw [cu1, if_neg (by omega), cu1, if_neg (by omega), cu1, if_neg (by omega), cu1, if_neg (by omega)]
theorem c_op_r (κ : cS) (i : Nat) (m : Int32) : (c_op κ i m).1 (8 + i) 4 = 1 ∧ (c_op κ i m).1 (8 + i) 5 = m ∧ (c_op κ i m).1 (8 + i) 6 = 0 ∧ (c_op κ i m).1 (8 + i) 7 = 0 := by
  unfold c_op
  simp [cu1]
theorem cq_openAs (hM : CM ax g) (hg : ge 0 ≤ ax) {i : Nat} (hi : i < 24) (m : Int32) (Z : mm_M → Prop) (hZ : Z (c_em ax (c_op κ i m) g)) : wq_Fid_openAs ge (ax + (8 + i)) m (c_em ax κ g) Z := by
  have mf := ((CM_f hM).2 i hi).2
  unfold wq_Fid_openAs wq_Fid_openAs_0 wq_Fid_rewind wq_Fid_rewind_0
  simp only [mf, ck, cU ax (8 + i) (by omega), geo hg, true_and, forall_eq]
  exact hZ
theorem CC_op {i : Nat} {x : Int32} {d : sD} {m : Int32} (hC : CC ax κ0 κ g L A T S J fm fc gv tm ms) (hr : rw_ κ fm i x d) (hm : 0 ≤ m) : CC ax κ0 (c_op κ i m) g L A T S J (fset fm x (some (d_t d, d_p d, m, 0, 0))) fc gv tm ms := by
  obtain ⟨r1, r2, r3, r4, r5⟩ := hr
  obtain ⟨o1, o2, o3, o4⟩ := c_op_r κ i m
  refine CC_fd (fun o j ho => c_op_o κ i m o j (Or.inl (by omega))) rfl hC ?_
  rw [← r3]
  refine Cfd_set hC.2.2.2.2.2.1 r1 r2 (fun o j _ _ h => c_op_o κ i m o j (by omega)) ⟨?_, ?_, Or.inr ⟨o1, hm, o2⟩, o3, o4⟩
  · rw [c_op_o _ _ _ _ _ (Or.inr (by decide))]; exact r5.1
  · rw [c_op_o _ _ _ _ _ (Or.inr (by decide))]; exact r5.2.1
theorem badM_pos {m : Int32} (h : ¬ badM m) : 0 ≤ m := by
  unfold badM at h
  have h1 : m &&& (-84) = 0 := by
    by_cases z : m &&& (-84) = 0
    · exact z
    · exact absurd (fun y => z y.1) h
  by_cases z : 0 ≤ m
  · exact z
  · exfalso
    have hb : bt m 31 = true := by
      have : m.toBitVec.msb = true := by
        have := Int32.not_le.mp z
        rw [Int32.lt_iff_toInt_lt] at this
        rw [BitVec.msb_eq_toInt]
        simpa using this
      rw [BitVec.msb_eq_getLsbD_last] at this
      exact this
    have : bt (m &&& (-84)) 31 = true := by rw [b_and, hb]; decide
    rw [h1, b_0] at this
    exact absurd this (by decide)
theorem no_bytes (hM : CM ax g) (hK : CK ge ax g) : fzd ax g (ge 2) [] := by
  have := CM_z hM
  obtain ⟨h0, ⟨h1, h2, h3, h4⟩, _⟩ := hK
  exact ⟨⟨by omega, by omega⟩, fun _ => rfl⟩
theorem T_ne {p : Nat} {f f' : sF} (hT : T p = some f) (h : ¬ f' = f) : ¬ tset T p (some f') = T := fun e => by
  have := congrFun e p
  rw [tset_y, hT] at this
  exact h (Option.some.inj this)
theorem vs_ne (f : sF) (t : Int32) (D : List Int32) : ¬ wdt f t D = f := fun e => by
  have h1 : f_vs (wdt f t D) = f_vs f := by rw [e]
  have h2 : f_vs f + 1 = f_vs f := h1
  have h3 : f_vs f + 1 - f_vs f = f_vs f - f_vs f := by rw [h2]
  rw [Int32.add_comm, Int32.add_sub_cancel, Int32.sub_self] at h3
  exact absurd h3 (by decide)
set_option maxHeartbeats 2000000 in
theorem cq_open (hM : CM ax g) (hK : CK ge ax g) (hC : CC ax κ0 κ g L A T S J fm fc gv tm ms) (hA : A.length = 7) {i : Nat} {x : Int32} {d : sD} (hr : rw_ κ fm i x d) (hp : d_p d < 60) (ht : d_t d ≤ S.length) {a : Nat} {f : sF} {Tr : sT} (hto : trOf T S (d_t d) = some Tr) (hf : Tr (d_p d) = some f) (hn : nd ax g a (d_p d) f) {m : Int32} (hm : κ.1 5 10 = m) (Z : Int32 → mm_M → Prop)
    (hZ : ∀ κ' g', Pst ax κ0 g L A S (jn J T (spOpen T fm fc gv tm x d f m).2.2.1) tm ms (spOpen T fm fc gv tm x d f m) κ' g' → Z (spOpen T fm fc gv tm x d f m).1 (c_em ax κ' g')) : wq_Server_open ge ax (some (ax + (8 + i))) (some a) (c_em ax κ g) Z := by
  have hg := hK.1
  have hr0 := hr
  obtain ⟨r1, r2, r3, r4, r5⟩ := hr
  have mf := ((CM_f hM).2 i r1).2
  obtain ⟨m0, m1⟩ := CM_0 hM
  have hS6 := hC.2.2.2.2.1.1
  obtain ⟨co1, co2⟩ := crow_open r5
  have cl := crow_live r5 (by omega)
  obtain ⟨an, ad, fa, f1, f2, hN⟩ := nd_H hn
  have er : ∀ (e : Int32), spOpen T fm fc gv tm x d f m = (e, [], T, fm, fc, gv) → ¬ e = 0 → Z e (c_em ax κ g) := by
    intro e he ne
    rw [he] at hZ
    refine hZ κ g ⟨ext_rf g, A, fun z => absurd z ne, ?_⟩
    have : jn J T T = J := cif_y rfl
    rw [this]
    exact hC
  unfold wq_Server_open wq_Server_open_0
  simp only [m0, m1, (CM_q hM).1, mf, ck, cP0, cI ax 5 (by decide), cI ax (8 + i) (by omega), hm, true_and, Option.some.injEq, exists_eq_left']
  refine ⟨fun q => ?_, fun q => er 3 (cif_y (Decidable.not_not.mp (fun z => q (co1.mpr z)))) (by decide)⟩
  have n1 : ¬ 0 ≤ d_m d := co1.mp q
  refine cq_bad m _ _ (fun hb => ⟨fun z => absurd z (by decide), fun _ => er 5 ((cif_n n1).trans (cif_y hb)) (by decide)⟩) (fun hb => ⟨fun _ => ?_, fun z => absurd rfl z⟩)
  have rest : ¬ (¬ m = 0 ∧ (¬ 0 ≤ f_md f ∨ ¬ d_t d = 0)) → wq_Server_open_48 ge ax (some (ax + (8 + i))) (some a) m (c_em ax κ g) Z := by
    intro n6
    unfold wq_Server_open_48
    refine ⟨a, rfl, (hN κ).1, ?_⟩
    rw [(hN κ).2.2.2.2.1]
    refine cq_lacks _ _ _ _ (fun hl => ⟨fun z => absurd z (by decide), fun _ => er 7 ((cif_n n1).trans ((cif_n hb).trans ((cif_n n6).trans (cif_y hl)))) (by decide)⟩) (fun hl => ⟨fun _ => ?_, fun z => absurd rfl z⟩)
    refine ⟨ax + (8 + i), rfl, mf, cq_openAs hM hg r1 m _ ?_⟩
    have C1 := CC_op hC hr0 (badM_pos hb)
    have go : ∀ (κ2 : cS) (g2 : mm_M) (a2 : Nat) (f2 : sF) (T2 : sT) (J2 : List sT), ext g g2 → CC ax κ0 κ2 g2 L A T2 S J2 (fset fm x (some (d_t d, d_p d, m, 0, 0))) fc gv tm ms → nd ax g2 a2 (d_p d) f2 → spOpen T fm fc gv tm x d f m = (0, qidL (d_p d) f2 ++ le 4 0, T2, fset fm x (some (d_t d, d_p d, m, 0, 0)), fc, gv) → J2 = jn J T T2 → wq_Server_open_118 ge ax (some a2) (c_em ax κ2 g2) Z := by
      intro κ2 g2 a2 f2 T2 J2 e2 C2 n2 hsp hJ
      have hM2 := CM_ext hM e2
      obtain ⟨w0, w1⟩ := CM_0 hM2
      have hb3 := CM_b3 hM2
      unfold wq_Server_open_118
      simp only [w0, w1, hb3.1, ck, cP0, true_and, Option.some.injEq, exists_eq_left']
      refine cq_putQid hb3 hg (by decide) rfl (by decide) _ C2.2.1.1.1 n2 (by omega) _ ?_
      have C3 := CC_ap (B := qidL (d_p d) f2) C2 (by rw [qidL_len]; omega)
      simp only [w0, w1, hb3.1, ck, cP0, true_and, Option.some.injEq, exists_eq_left']
      refine cq_put (n := 4) hb3 hg (by decide) rfl (by decide) _ C3.2.1.1.1 (by rw [List.length_append, qidL_len]; omega) _ _ ?_
      have C4 := CC_ap (B := le 4 0) C3 (by rw [List.length_append, qidL_len, le_len]; omega)
      rw [hsp] at hZ
      refine hZ _ g2 ⟨e2, _, fun _ => rfl, ?_⟩
      rw [← hJ]
      rw [List.append_assoc] at C4
      exact C4
    refine ⟨fun z => ?_, fun z => ?_⟩
    · refine go _ g a f T J (ext_rf g) C1 hn ?_ (cif_y rfl).symm
      exact (cif_n n1).trans ((cif_n hb).trans ((cif_n n6).trans ((cif_n hl).trans (cif_n (fun y => y.1 z)))))
    · obtain ⟨hok, haz, an', ad', hz1, hz2, n1', n2', n3', n4', n5', n6', n7', n8', n9', n10'⟩ := hn
      have hn : nd ax g a (d_p d) f := ⟨hok, haz, an', ad', hz1, hz2, n1', n2', n3', n4', n5', n6', n7', n8', n9', n10'⟩
      have hl5 := hok.2.2.1
      simp only [n1', n8', n10'.1, n10'.2.1, m0, ck, cn, toI, cPf haz.1, cI0, true_and, Option.some.injEq, exists_eq_left']
      have e0 : (nI (f_dt f).length ≤ 0) ↔ f_dt f = [] := by
        rw [show (0 : Int32) = nI 0 from rfl, nI_leI (by omega) (by decide)]
        exact ⟨fun y => List.eq_nil_of_length_eq_zero (by omega), fun y => by rw [y]; simp⟩
      refine ⟨fun y => ?_, fun y => ?_⟩
      · refine go _ g a f T J (ext_rf g) C1 hn ?_ (cif_y rfl).symm
        exact (cif_n n1).trans ((cif_n hb).trans ((cif_n n6).trans ((cif_n hl).trans (cif_n (fun w => w.2 (e0.mp y))))))
      · have hne : ¬ f_dt f = [] := fun w => y (e0.mpr w)
        have ht0 : d_t d = 0 := by
          by_cases w : d_t d = 0
          · exact w
          · exact absurd ⟨fun v => z (by rw [v]; decide), Or.inr w⟩ n6
        have hTT : T (d_p d) = some f := by
          unfold trOf at hto
          rw [if_pos ht0] at hto
          rw [Option.some.inj hto]
          exact hf
        have hsp : spOpen T fm fc gv tm x d f m = (0, qidL (d_p d) (wdt f tm []) ++ le 4 0, tset T (d_p d) (some (wdt f tm [])), fset fm x (some (d_t d, d_p d, m, 0, 0)), fc, gv) := (cif_n n1).trans ((cif_n hb).trans ((cif_n n6).trans ((cif_n hl).trans (cif_y ⟨z, hne⟩))))
        rw [C1.2.2.2.2.2.2.1.2.1]
        refine cq_wd hM hg hn (no_bytes hM hK) hK.2.2.2.1 (by simp) allB_nil (fun _ => rfl) tm _ (fun g1 e1 nd1 => ?_)
        have hM1 := CM_ext hM e1
        have C2 := CC_ext e1 C1
        obtain ⟨w0, w1⟩ := CM_0 hM1
        simp only [w0, w1, (CM_j hM1).1, ck, cP0, true_and, Option.some.injEq, exists_eq_left']
        refine cq_keep hM1 hg _ C2.2.2.1 C2.2.2.2.1 _ (fun nx h1 h2 h3 => ?_)
        have C3 := CC_kp C2 h1 h3
        simp only [w0, w1, (CM_t hM1).1, ck, cP0, true_and, Option.some.injEq, exists_eq_left']
        refine cq_tput hM1 hg hp nd1 _ ?_
        exact go _ g1 _ _ _ _ e1 (CC_put C3 hp nd1) nd1 hsp (cif_n (T_ne hTT (vs_ne _ _ _))).symm
  by_cases hm0 : m = 0
  · exact ⟨fun _ => rest (fun z => z.1 hm0), fun z => absurd hm0 z⟩
  · refine ⟨fun z => absurd z hm0, fun _ => ?_⟩
    refine ⟨(hN κ).1, nq_isDir (hN κ) _ ?_⟩
    unfold wq_Server_open_45
    by_cases hd : 0 ≤ f_md f
    · rw [if_pos hd]
      refine ⟨fun z => absurd rfl z, fun _ => ?_⟩
      simp only [mf, ck, cI ax (8 + i) (by omega), cl, true_and]
      exact ⟨fun z => rest (fun y => y.2.elim (fun w => w hd) (fun w => w z)), fun z => er 6 ((cif_n n1).trans ((cif_n hb).trans (cif_y ⟨hm0, Or.inr z⟩))) (by decide)⟩
    · rw [if_neg hd]
      exact ⟨fun _ => er 6 ((cif_n n1).trans ((cif_n hb).trans (cif_y ⟨hm0, Or.inl hd⟩))) (by decide), fun z => absurd z (by decide)⟩
end HS
