/-! the class: putAll, putText, putQid, putStat -/
def slc (L : List Int32) (a m : Nat) : List Int32 := (L.drop a).take m
theorem slc_0 (L : List Int32) (a : Nat) : slc L a 0 = [] := rfl
theorem slc_s {L : List Int32} {a : Nat} (h : a < L.length) (m : Nat) : slc L a (m + 1) = L[a] :: slc L (a + 1) m := by
  unfold slc
  rw [List.drop_eq_getElem_cons h, List.take_succ_cons]
theorem slc_all (L : List Int32) : slc L 0 L.length = L := by unfold slc; rw [List.drop_zero, List.take_length]
theorem slc_len {L : List Int32} {a m : Nat} (h : a + m ≤ L.length) : (slc L a m).length = m := by
  unfold slc
  rw [List.length_take, List.length_drop]
  omega
theorem slc_B {L : List Int32} (h : allB L) (a m : Nat) : allB (slc L a m) := fun x hx => h x (List.mem_of_mem_drop (List.mem_of_mem_take hx))
section PA
variable {ge : Nat → Nat} {ax o cap : Nat} {g : mm_M}
theorem cq_putAll (hb : BO ax g o cap) (hg : ge 0 ≤ ax) (ho : o + 1 < 90) (hp : pa o = false) (hc : cap < 2 ^ 31) (κ : cS) {t : Nat} (ht : κ.1 o 1 = nI t) {b : Nat} {L : List Int32} (hfz : fz ax b) (hL : bA g b L) (hB : allB L) (hL2 : L.length < 2 ^ 31) {s n : Nat} (hs : s + n ≤ L.length) (hn : t + n ≤ cap) (Z : mm_M → Prop)
    (hZ : Z (c_em ax (c_ap κ o (slc L s n)) g)) : wq_Bytes_putAll ge (ax + o) (some b) (nI s) (nI n) (c_em ax κ g) Z := by
  unfold wq_Bytes_putAll wq_Bytes_putAll_0 lp_Bytes_putAll_3
  intro X hX
  have key : ∀ (m k : Nat) (κ : cS) (u : Nat), k + m = n → κ.1 o 1 = nI u → u + m ≤ cap → Z (c_em ax (c_ap κ o (slc L (s + k) m)) g) → X (ax + o) (some b) (nI s) (nI n) (nI k) (c_em ax κ g) := by
    intro m
    induction m with
    | zero =>
      intro k κ u hk hu hu2 hz
      refine hX _ _ _ _ _ _ ?_
      unfold wq_Bytes_putAll_3
      have e : k = n := by omega
      subst e
      exact ⟨fun _ => hz, fun q => absurd (nI_le (Nat.le_refl _) (by omega)) q⟩
    | succ m ih =>
      intro k κ u hk hu hu2 hz
      refine hX _ _ _ _ _ _ ?_
      unfold wq_Bytes_putAll_3 wq_Bytes_putAll_37
      refine ⟨fun q => absurd q (nI_ge (by omega) (by omega)), fun _ => ?_⟩
      have hlt : s + k < L.length := by omega
      have gk := List.getElem?_eq_getElem hlt
      have hin : vp_in (nI (s + k)) L.length := vp_in_nI hlt hL2
      have hcl : (nI (s + k)).toNatClampNeg = s + k := nI_clamp (by omega)
      simp only [nI_add, ck, cn, hL.1, hL.2.1, hb.1, toI, hin, hcl, cIf hfz, hL.2.2 _ _ gk, true_and, Option.some.injEq, exists_eq_left']
      refine ⟨fun q => absurd q (nI_pos (by omega)), fun _ => ⟨fun q => absurd q (nI_ge (by omega) (by omega)), fun _ => ?_⟩⟩
      refine cq_put (n := 1) hb hg ho hp hc κ hu (by omega) _ _ ?_
      rw [le1, sbt_ (hB _ (List.getElem_mem hlt)), ← nI_succ]
      refine ih (k + 1) (c_pb κ o L[s + k]) (u + 1) (by omega) (c_pb_t _ hu) (by omega) ?_
      rw [slc_s hlt] at hz
      exact hz
  exact key n 0 κ t (by omega) ht hn hZ
theorem cq_putText (hb : BO ax g o cap) (hg : ge 0 ≤ ax) (ho : o + 1 < 90) (hp : pa o = false) (hc : cap < 2 ^ 31) (κ : cS) {t : Nat} (ht : κ.1 o 1 = nI t) {b : Nat} {L : List Int32} (hfz : fz ax b) (hL : bA g b L) (hB : allB L) (hL2 : L.length < 2 ^ 31) (hn : t + 2 + L.length ≤ cap) (Z : mm_M → Prop)
    (hZ : Z (c_em ax (c_ap κ o (le 2 (nI L.length).toInt64 ++ L)) g)) : wq_Bytes_putText ge (ax + o) (some b) (c_em ax κ g) Z := by
  unfold wq_Bytes_putText wq_Bytes_putText_0
  simp only [ck, cn, hL.1, hL.2.1, hb.1, toI, true_and, Option.some.injEq, exists_eq_left']
  refine cq_put (n := 2) hb hg ho hp hc κ ht (by omega) _ _ ?_
  simp only [ck, cn, hL.1, hL.2.1, hb.1, toI, true_and, Option.some.injEq, exists_eq_left']
  have t1 := c_ap_t (o := o) (le 2 (nI L.length).toInt64) ht
  rw [le_len] at t1
  refine cq_putAll (s := 0) hb hg ho hp hc _ t1 hfz hL hB hL2 (by omega) (by omega) _ ?_
  rw [slc_all, ← c_ap_app]
  exact hZ
theorem cq_putQid (hb : BO ax g o cap) (hg : ge 0 ≤ ax) (ho : o + 1 < 90) (hp : pa o = false) (hc : cap < 2 ^ 31) (κ : cS) {t : Nat} (ht : κ.1 o 1 = nI t) {a p : Nat} {f : sF} (hn : nd ax g a p f) (hl : t + 13 ≤ cap) (Z : mm_M → Prop)
    (hZ : Z (c_em ax (c_ap κ o (qidL p f)) g)) : wq_Bytes_putQid ge (ax + o) (some a) (c_em ax κ g) Z := by
  obtain ⟨an, ad, ha, h1, h2, hN⟩ := nd_H hn
  have go : ∀ x : Int64, x = (if 0 ≤ f_md f then 0 else 128) → wq_Bytes_putQid_15 ge (ax + o) (some a) (some (ax + o)) x (c_em ax κ g) Z := by
    intro x hx
    unfold wq_Bytes_putQid_15
    simp only [ck, hb.1, true_and, Option.some.injEq, exists_eq_left']
    refine cq_put (n := 1) hb hg ho hp hc κ ht (by omega) _ _ ?_
    have t1 := c_ap_t (o := o) (le 1 x) ht
    rw [le_len] at t1
    have q1 := hN (c_ap κ o (le 1 x))
    have kn : mm_k g a = kd_Node := q1.1
    simp only [ck, hb.1, kn, q1.2.2.2.2.2.1, true_and, Option.some.injEq, exists_eq_left']
    refine cq_put (n := 4) hb hg ho hp hc _ t1 (by omega) _ _ ?_
    have t2 := c_ap_t (o := o) (le 4 (f_vs f).toInt64) t1
    rw [le_len] at t2
    have q2 := hN (c_ap (c_ap κ o (le 1 x)) o (le 4 (f_vs f).toInt64))
    simp only [ck, hb.1, kn, q2.2.1, true_and, Option.some.injEq, exists_eq_left']
    refine cq_put (n := 8) hb hg ho hp hc _ t2 (by omega) _ _ ?_
    unfold qidL at hZ
    rw [c_ap_app, c_ap_app, ← hx] at hZ
    exact hZ
  unfold wq_Bytes_putQid wq_Bytes_putQid_0
  refine ⟨a, rfl, (hN κ).1, nq_isDir (hN κ) _ ⟨fun q => go _ ?_, fun q => go _ ?_⟩⟩
  · by_cases z : 0 ≤ f_md f
    · rw [if_pos z]
    · rw [if_neg z] at q; exact absurd q (by decide)
  · by_cases z : 0 ≤ f_md f
    · rw [if_pos z] at q; exact absurd rfl q
    · rw [if_neg z]
set_option maxHeartbeats 4000000 in
theorem cq_putStat (hb : BO ax g o cap) (hg : ge 0 ≤ ax) (ho : o + 1 < 90) (hp : pa o = false) (hc : cap < 2 ^ 31) (κ : cS) {t : Nat} (ht : κ.1 o 1 = nI t) {a p : Nat} {f : sF} (hn : nd ax g a p f) (hl : t + 52 + (f_nm f).length ≤ cap) (Z : mm_M → Prop)
    (hZ : Z (c_em ax (c_ap κ o (statL p f)) g)) : wq_Bytes_putStat ge (ax + o) (some a) (c_em ax κ g) Z := by
  obtain ⟨hok, haz, an, ad, hz1, hz2, hN0⟩ := hn
  have hn : nd ax g a p f := ⟨hok, haz, an, ad, hz1, hz2, hN0⟩
  have hN : ∀ κ, ndH (c_em ax κ g) a p f an ad := fun κ => ndH_em haz.1 hz1.1 hz2.1.1 hN0 κ
  obtain ⟨n1, n2, n3, n4, n5, n6, n7, n8, n9, n10⟩ := hN0
  have c2 : ∀ κ, mm_P (c_em ax κ g) a 2 = some an := fun κ => (hN κ).2.2.2.1
  have c3 : ∀ κ, mm_I (c_em ax κ g) a 3 = f_md f := fun κ => (hN κ).2.2.2.2.1
  have c5 : ∀ κ, mm_I (c_em ax κ g) a 5 = f_mt f := fun κ => (hN κ).2.2.2.2.2.2.1
  have c6 : ∀ κ, mm_P (c_em ax κ g) a 6 = some ad := fun κ => (hN κ).2.2.2.2.2.2.2.1
  have l20 := hok.2.1
  have tt : ∀ (κ : cS) (u n : Nat) (v : Int64), κ.1 o 1 = nI u → (c_ap κ o (le n v)).1 o 1 = nI (u + n) := fun κ u n v hu => by
    have := c_ap_t (o := o) (le n v) hu
    rw [le_len] at this
    exact this
  unfold wq_Bytes_putStat wq_Bytes_putStat_0
  refine ⟨a, rfl, n1, nq_statSize (hN κ) _ ⟨hb.1, ?_⟩⟩
  have e50 : nI (52 + (f_nm f).length) - 2 = nI (50 + (f_nm f).length) := by
    rw [show 52 + (f_nm f).length = (50 + (f_nm f).length) + 2 by omega, ← nI_add, show (2 : Int32) = nI 2 from rfl, Int32.add_sub_cancel]
  rw [e50]
  refine cq_put (n := 2) hb hg ho hp hc _ ht (by omega) _ _ ⟨hb.1, ?_⟩
  have t1 := tt _ _ 2 (nI (50 + (f_nm f).length)).toInt64 ht
  refine cq_put (n := 2) hb hg ho hp hc _ t1 (by omega) _ _ ⟨hb.1, ?_⟩
  have t2 := tt _ _ 2 0 t1
  refine cq_put (n := 4) hb hg ho hp hc _ t2 (by omega) _ _ ⟨hb.1, ?_⟩
  have t3 := tt _ _ 4 0 t2
  refine cq_putQid hb hg ho hp hc _ t3 hn (by omega) _ ?_
  have t4 := c_ap_t (o := o) (qidL p f) t3
  rw [qidL_len] at t4
  simp only [ck, n1, hb.1, c3, true_and, Option.some.injEq, exists_eq_left']
  refine cq_put (n := 4) hb hg ho hp hc _ t4 (by omega) _ _ ?_
  have t5 := tt _ _ 4 (f_md f).toInt64 t4
  simp only [ck, n1, hb.1, c5, true_and, Option.some.injEq, exists_eq_left']
  refine cq_put (n := 4) hb hg ho hp hc _ t5 (by omega) _ _ ?_
  have t6 := tt _ _ 4 (f_mt f).toInt64 t5
  simp only [ck, n1, hb.1, c5, true_and, Option.some.injEq, exists_eq_left']
  refine cq_put (n := 4) hb hg ho hp hc _ t6 (by omega) _ _ ?_
  have t7 := tt _ _ 4 (f_mt f).toInt64 t6
  simp only [ck, cn, n1, hb.1, c6, n10.1, n10.2.1, toI, true_and, Option.some.injEq, exists_eq_left']
  refine cq_put (n := 8) hb hg ho hp hc _ t7 (by omega) _ _ ?_
  have t8 := tt _ _ 8 (nI (f_dt f).length).toInt64 t7
  simp only [ck, cn, n1, hb.1, c2, true_and, Option.some.injEq, exists_eq_left']
  refine cq_putText hb hg ho hp hc _ t8 hz1.1 n9 hok.2.2.2.1 (by omega) (by omega) _ ?_
  have t9 := c_ap_t (o := o) (le 2 (nI (f_nm f).length).toInt64 ++ f_nm f) t8
  rw [List.length_append, le_len] at t9
  unfold lp_Bytes_putStat_81
  intro X hX
  have st : ∀ (κ : cS) (i : Int32) (u : Nat), ¬ (3 : Int32) ≤ i → κ.1 o 1 = nI u → u + 3 ≤ cap → X (ax + o) (i + 1) (c_em ax (c_ap κ o (le 2 1 ++ le 1 103)) g) → X (ax + o) i (c_em ax κ g) := by
    intro κ i u hi hu hu2 hx
    refine hX _ _ _ ?_
    unfold wq_Bytes_putStat_81
    refine ⟨fun q => absurd q hi, fun _ => ⟨hb.1, ?_⟩⟩
    refine cq_put (n := 2) hb hg ho hp hc _ hu (by omega) _ _ ⟨hb.1, ?_⟩
    refine cq_put (n := 1) hb hg ho hp hc _ (tt _ _ 2 1 hu) (by omega) _ _ ?_
    rw [← c_ap_app]
    exact hx
  have u3 : ∀ (κ : cS) (u : Nat), κ.1 o 1 = nI u → (c_ap κ o (le 2 1 ++ le 1 103)).1 o 1 = nI (u + 3) := fun κ u hu => by
    have := c_ap_t (o := o) (le 2 1 ++ le 1 103) hu
    rw [List.length_append, le_len, le_len] at this
    exact this
  refine st _ 0 _ (by decide) t9 (by omega) (st _ _ _ (by decide) (u3 _ _ t9) (by omega) (st _ _ _ (by decide) (u3 _ _ (u3 _ _ t9)) (by omega) (hX _ _ _ ?_)))
  unfold wq_Bytes_putStat_81
  refine ⟨fun _ => ?_, fun q => absurd (by decide) q⟩
  unfold statL endL at hZ
  rw [← le_6] at hZ
  simp only [← c_ap_app]
  simp only [List.append_assoc] at hZ ⊢
  exact hZ
end PA
