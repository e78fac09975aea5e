/-! the class: bytes set in the answer; read -/
theorem ti_l (x : Int32) : x.toInt64.toInt32 = x := by
  apply b_ext
  intro i hi
  rw [l_i _ hi, i_l _ (by omega), if_pos hi]
theorem lN_t32 {k : Nat} (h : k < 2 ^ 31) : (lN k).toInt32 = nI k := by rw [← nI_l h, ti_l]
theorem lN_toInt' {n : Nat} (h : n < 2 ^ 62) : (lN n).toInt = (n : Int) := Int64.toInt_ofNat_of_lt (by omega)
theorem lN_lt' {a b : Nat} (ha : a < 2 ^ 62) (hb : b < 2 ^ 62) : lN a < lN b ↔ a < b := by
  rw [Int64.lt_iff_toInt_lt, lN_toInt' ha, lN_toInt' hb]
  omega
theorem l_m32 (i : Nat) : bl 4294967295 i = decide (i < 32) := by
  rcases Nat.lt_or_ge i 64 with h | h
  · exact (by decide +kernel : ∀ i, i < 64 → bl 4294967295 i = decide (i < 32)) i h
  · rw [l_big h, decide_eq_false (by omega)]
theorem m32 {c : Nat} (hc : c < 2 ^ 32) : (nI c).toInt64 &&& 4294967295 = lN c := by
  apply l_ext
  intro i hi
  have e1 : bl (lN c) i = c.testBit i := by
    show (BitVec.ofNat 64 c).getLsbD i = _
    rw [BitVec.getLsbD_ofNat, decide_eq_true hi, Bool.true_and]
  have e2 : ∀ j, j < 32 → bt (nI c) j = c.testBit j := by
    intro j hj
    show (BitVec.ofNat 32 c).getLsbD j = _
    rw [BitVec.getLsbD_ofNat, decide_eq_true hj, Bool.true_and]
  rw [l_and, l_m32, e1, i_l _ hi]
  by_cases z : i < 32
  · rw [if_pos z, decide_eq_true z, Bool.and_true, e2 i z]
  · rw [decide_eq_false z, Bool.and_false]
    exact (Nat.testBit_lt_two_pow (Nat.lt_of_lt_of_le hc (Nat.pow_le_pow_right (by decide) (by omega)))).symm
theorem c_st_1 (o i : Nat) (v : Int32) : ∀ (n k : Nat) (κ : cS) (o' j : Nat), (c_st o i v k n κ).1 o' j = if o' = o + 1 ∧ i + k ≤ j ∧ j < i + k + n then sb (v >>> ((8 : Int32) * nI (j - i) &&& 31) &&& 255) else κ.1 o' j
  | 0, k, κ, o', j => by rw [if_neg (by omega)]; rfl
  | n + 1, k, κ, o', j => by
    show (c_st o i v (k + 1) n (c_s1 κ o i k v)).1 o' j = _
    rw [c_st_1 o i v n (k + 1) _ o' j]
    by_cases h1 : o' = o + 1 ∧ i + (k + 1) ≤ j ∧ j < i + (k + 1) + n
    · rw [if_pos h1, if_pos (by omega)]
    · rw [if_neg h1]
      unfold c_s1
      rw [cu1]
      by_cases h2 : o' = o + 1 ∧ j = i + k
      · rw [if_pos h2, if_pos (by omega), show j - i = k by omega]
      · rw [if_neg h2, if_neg (by omega)]
theorem c_st_2 (o i : Nat) (v : Int32) : ∀ (n k : Nat) (κ : cS), (c_st o i v k n κ).2 = κ.2
  | 0, _, _ => rfl
  | n + 1, k, κ => (c_st_2 o i v n (k + 1) _).trans rfl
theorem leF_get (v : Int64) : ∀ (n i j : Nat), j < n → (leF v i n)[j]? = some (r_b8 v (i + j))
  | 0, _, _, h => absurd h (by omega)
  | n + 1, i, 0, _ => rfl
  | n + 1, i, j + 1, h => by
    show (leF v (i + 1) n)[j]? = _
    rw [leF_get v n (i + 1) j (by omega), show i + 1 + j = i + (j + 1) by omega]
theorem le_get {v : Int64} {n j : Nat} (h : j < n) : (le n v)[j]? = some (r_b8 v j) := by
  unfold le
  rw [leF_get v n 0 j h, Nat.zero_add]
theorem c_L_st {κ : cS} {o n : Nat} {A Q B : List Int32} {v : Int32} (h : c_L κ o (A ++ Q ++ B)) (hQ : Q.length = n) (hn : n ≤ 4) : c_L (c_st o A.length v 0 n κ) o (A ++ le n v.toInt64 ++ B) := by
  refine ⟨?_, fun j x hj => ?_⟩
  · rw [c_st_1, if_neg (by omega), h.1]
    simp only [List.length_append, le_len, hQ]
  · rw [c_st_1]
    by_cases h1 : j < A.length
    · rw [if_neg (by omega)]
      rw [List.append_assoc, List.getElem?_append_left h1] at hj
      exact h.2 j x (by rw [List.append_assoc, List.getElem?_append_left h1]; exact hj)
    · by_cases h2 : j < A.length + n
      · rw [if_pos ⟨rfl, by omega, by omega⟩]
        rw [List.append_assoc, List.getElem?_append_right (by omega), List.getElem?_append_left (by rw [le_len]; omega), le_get (by omega), b8_i _ (by omega)] at hj
        rw [Option.some.inj hj]
      · rw [if_neg (by omega)]
        refine h.2 j x ?_
        rw [List.getElem?_append_right (by rw [List.length_append, le_len]; omega), List.length_append, le_len] at hj
        rw [List.getElem?_append_right (by rw [List.length_append, hQ]; omega), List.length_append, hQ]
        exact hj
section CS1
variable {ax : Nat} {κ0 κ : cS} {g : mm_M} {L A Q B : List Int32} {T : sT} {S J : List sT} {fm : sM} {fc gv : Nat} {tm : Int32} {ms : Nat}
theorem CC_st {n : Nat} {v : Int32} (h : CC ax κ0 κ g L (A ++ Q ++ B) T S J fm fc gv tm ms) (hQ : Q.length = n) (hn : n ≤ 4) : CC ax κ0 (c_st 3 A.length v 0 n κ) g L (A ++ le n v.toInt64 ++ B) T S J fm fc gv tm ms := by
  obtain ⟨h1, h2, h3, h4, h5, h6, ⟨h7, h8, h9⟩, h10, h11, h12⟩ := h
  have e : ∀ o j, ¬ o = 4 → (c_st 3 A.length v 0 n κ).1 o j = κ.1 o j := fun o j ho => by rw [c_st_1, if_neg (fun z => ho z.1)]
  have e22 : (c_st 3 A.length v 0 n κ).2.2 = κ.2.2 := by rw [c_st_2]
  refine ⟨⟨c_L_of (fun j => e _ _ (by decide)) (e _ _ (by decide)) h1.1, h1.2⟩, ⟨c_L_st h2.1 hQ hn, by have := h2.2; simp only [List.length_append, le_len, hQ] at this ⊢; exact this⟩, by rw [e22]; exact h3, Cjn_of (e _ _ (by decide)) (e _ _ (by decide)) (fun i j _ => by rw [e22]) h4, Csn_of (e _ _ (by decide)) (fun j => by rw [e22]) h5, Cfd_of (fun o j a b => e _ _ (by omega)) h6, ⟨?_, ?_, ?_⟩, ?_, ?_, fun o j ho => (e _ _ (by omega)).trans (h12 o j ho)⟩
  all_goals (rw [e _ _ (by decide)]; assumption)
end CS1
theorem fset_fset (fm : sM) (x : Int32) (a b : Option sD) : fset (fset fm x a) x b = fset fm x b := by
  funext y
  unfold fset
  split <;> rfl
section HRD
variable {ge : Nat → Nat} {ax : Nat} {κ0 κ : cS} {g : mm_M} {L A : List Int32} {T : sT} {S J : List sT} {fm : sM} {fc gv : Nat} {tm : Int32} {ms : Nat}
theorem cq_rtr (hM : CM ax g) (hC : CC ax κ0 κ g L A T S J fm fc gv tm ms) (hms : 64 ≤ ms ∧ ms ≤ 1000) {c : Nat} (hc : κ.1 5 9 = nI c) (hc2 : c < 2 ^ 32) (Z : Int32 → mm_M → Prop) (hZ : Z (nI (min c (ms - 11))) (c_em ax κ g)) : wq_Server_roomToRead ge ax (c_em ax κ g) Z := by
  obtain ⟨m0, m1⟩ := CM_0 hM
  unfold wq_Server_roomToRead wq_Server_roomToRead_0
  simp only [m0, m1, (CM_q hM).1, ck, cP0, cI0, cI ax 5 (by decide), hc, hC.2.2.2.2.2.2.1.2.2, m32 hc2, true_and, Option.some.injEq, exists_eq_left']
  rw [show (11 : Int32) = nI 11 from rfl, nI_sub (by omega), nI_l (by omega)]
  have e : (if lN (ms - 11) < lN c then lN (ms - 11) else lN c) = lN (min c (ms - 11)) := by
    by_cases z : ms - 11 < c
    · rw [if_pos ((lN_lt' (by omega) (by omega)).mpr z), Nat.min_eq_right (by omega)]
    · rw [if_neg (fun y => z ((lN_lt' (by omega) (by omega)).mp y)), Nat.min_eq_left (by omega)]
  rw [e, lN_t32 (by omega)]
  exact hZ
theorem cq_forR {i : Nat} {d : sD} (hM : CM ax g) (hi : i < 24) (hr : crow κ i d) (Z : Int32 → mm_M → Prop) (h1 : ¬ (¬ 0 ≤ d_m d ∨ d_m d &&& 3 = 1) → Z 1 (c_em ax κ g)) (h0 : (¬ 0 ≤ d_m d ∨ d_m d &&& 3 = 1) → Z 0 (c_em ax κ g)) : wq_Fid_isOpenForReading ge (ax + (8 + i)) (c_em ax κ g) Z := by
  have mf := ((CM_f hM).2 i hi).2
  obtain ⟨co1, co2⟩ := crow_open hr
  unfold wq_Fid_isOpenForReading wq_Fid_isOpenForReading_0 wq_Fid_isOpenForReading_21 wq_Fid_isOpenForReading_22
  simp only [mf, ck, cI ax (8 + i) (by omega), true_and]
  refine ⟨fun q => ⟨Or.inl trivial, h0 (Or.inl (co1.mp q))⟩, fun q => ?_⟩
  rw [co2 q]
  exact ⟨fun z => ⟨Or.inl trivial, h0 (Or.inr z)⟩, fun z => ⟨Or.inr trivial, h1 (fun y => y.elim (fun w => q (co1.mpr w)) z)⟩⟩
set_option maxHeartbeats 4000000 in
theorem cq_rdData (hM : CM ax g) (hK : CK ge ax g) (hC : CC ax κ0 κ g L A T S J fm fc gv tm ms) (hA : A.length = 7) (hms : 64 ≤ ms ∧ ms ≤ 1000) {i : Nat} {x : Int32} {d : sD} (hr : rw_ κ fm i x d) {f : sF} (hfile : 0 ≤ f_md f) {a : Nat} (hn : nd ax g a (d_p d) f) (Tr : sT) {off : Int64} {c : Nat} (hoff : κ.2.1 5 13 = off) (hc : κ.1 5 9 = nI c) (hc2 : c < 2 ^ 32) (Z : Int32 → mm_M → Prop)
    (hZ : ∀ κ' g', Pst ax κ0 g L A S J tm ms (spRead T Tr fm fc gv ms x d f off c) κ' g' → Z (spRead T Tr fm fc gv ms x d f off c).1 (c_em ax κ' g')) : wq_Server_readData ge ax (some (ax + (8 + i))) (some a) (c_em ax κ g) Z := by
  have hg := hK.1
  obtain ⟨r1, r2, r3, r4, r5⟩ := hr
  have mf := ((CM_f hM).2 i r1).2
  obtain ⟨m0, m1⟩ := CM_0 hM
  have hb3 := CM_b3 hM
  obtain ⟨hok, haz, an, ad, hz1, hz2, k1, k2, k3, k4, k5, k6, k7, k8, k9, k10⟩ := hn
  have hD5 := hok.2.2.1
  unfold wq_Server_readData wq_Server_readData_0
  refine ⟨_, rfl, mf, cq_forR hM r1 r5 _ (fun n3 => ⟨fun _ => ?_, fun z => absurd z (by decide)⟩) (fun y3 => ⟨fun z => absurd rfl z, fun _ => ?_⟩)⟩
  · have hs : spRead T Tr fm fc gv ms x d f off c = (0, le 4 (nI (min (min c (ms - 11)) ((f_dt f).length - rdOff (f_dt f) off))).toInt64 ++ slc (f_dt f) (rdOff (f_dt f) off) (min (min c (ms - 11)) ((f_dt f).length - rdOff (f_dt f) off)), T, fm, fc, gv) := (cif_n n3).trans (cif_y hfile)
    rw [hs] at hZ
    have fin : ∀ o : Nat, o = rdOff (f_dt f) off → o ≤ (f_dt f).length → wq_Server_readData_41 ge ax (some a) (nI (f_dt f).length) (nI o) (c_em ax κ g) Z := by
      intro o eo ho
      rw [← eo] at hZ
      unfold wq_Server_readData_41
      refine ⟨m0, cq_rtr hM hC hms hc hc2 _ ?_⟩
      have em : (if nI (f_dt f).length - nI o < nI (min c (ms - 11)) then nI (f_dt f).length - nI o else nI (min c (ms - 11))) = nI (min (min c (ms - 11)) ((f_dt f).length - o)) := by
        rw [nI_sub ho]
        by_cases z : (f_dt f).length - o < min c (ms - 11)
        · rw [if_pos (nI_lt z (by omega)), Nat.min_eq_right (a := min c (ms - 11)) (by omega)]
        · rw [if_neg (nI_nlt (by omega) (by omega)), Nat.min_eq_left (a := min c (ms - 11)) (by omega)]
      rw [em]
      simp only [m0, m1, hb3.1, ck, cP0, true_and, Option.some.injEq, exists_eq_left']
      refine cq_put (n := 4) hb3 hg (by decide) rfl (by decide) _ hC.2.1.1.1 (by omega) _ _ ?_
      have C1 := CC_ap (B := le 4 (nI (min (min c (ms - 11)) ((f_dt f).length - o))).toInt64) hC (by rw [le_len]; omega)
      simp only [m0, m1, k1, k8, hb3.1, ck, cP0, cPf haz.1, true_and, Option.some.injEq, exists_eq_left']
      refine cq_putAll hb3 hg (by decide) rfl (by decide) _ C1.2.1.1.1 hz2.1.1 k10 hok.2.2.2.2.1 (by omega) (by omega) (by rw [List.length_append, le_len]; omega) _ ?_
      have C2 := CC_ap (B := slc (f_dt f) o (min (min c (ms - 11)) ((f_dt f).length - o))) C1 (by rw [List.length_append, le_len, slc_len (by omega)]; omega)
      refine hZ _ g ⟨ext_rf g, _, fun _ => rfl, ?_⟩
      rw [List.append_assoc] at C2
      exact C2
    refine ⟨a, rfl, k1, ad, (cPf haz.1 κ g 6).trans k8, k10.1, ?_⟩
    simp only [m0, m1, (CM_q hM).1, k10.2.1, ck, cn, cP0, cL ax 5 (by decide), hoff, toI, true_and, Option.some.injEq, exists_eq_left']
    refine cq_above _ _ _ _ (fun hab => ⟨fun z => absurd z (by decide), fun _ => fin _ (cif_y hab).symm (Nat.le_refl _)⟩) (fun hab => ⟨fun _ => ?_, fun z => absurd rfl z⟩)
    obtain ⟨o, ho, ho1, ho2⟩ := l_of (n := (f_dt f).length) (by omega) (fun z => hab (Or.inl z)) (fun z => hab (Or.inr (by rw [nI_l (by omega)]; exact z)))
    simp only [m0, m1, (CM_q hM).1, ck, cP0, cL ax 5 (by decide), hoff, ho2, true_and, Option.some.injEq, exists_eq_left']
    refine fin o ?_ ho
    unfold rdOff
    rw [cif_n hab, ho2, nI_clamp (by omega)]
  · have hs : spRead T Tr fm fc gv ms x d f off c = (3, [], T, fm, fc, gv) := cif_y y3
    rw [hs] at hZ
    exact hZ _ g ⟨ext_rf g, A, fun z => absurd z (by show ¬ (3 : Int32) = 0; decide), hC⟩
end HRD
