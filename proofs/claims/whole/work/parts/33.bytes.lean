/-! the class: Bytes, Node -/
theorem toI (n : Nat) : Nat.toInt32 n = nI n := rfl
theorem geo {ge : Nat → Nat} {ax : Nat} (hg : ge 0 ≤ ax) (o : Nat) : ge 0 ≤ ax + o := Nat.le_trans hg (Nat.le_add_right _ _)
section BB
variable {ge : Nat → Nat} {ax o cap : Nat} {g : mm_M}
theorem cq_put (hb : BO ax g o cap) (hg : ge 0 ≤ ax) (ho : o + 1 < 90) (hp : pa o = false) (hc : cap < 2 ^ 31) (κ : cS) {t n : Nat} (ht : κ.1 o 1 = nI t) (hn : t + n ≤ cap) (v : Int64) (Z : mm_M → Prop)
    (hZ : Z (c_em ax (c_ap κ o (le n v)) g)) : wq_Bytes_put ge (ax + o) v (nI n) (c_em ax κ g) Z := by
  obtain ⟨b1, b2, b3, b4⟩ := hb
  unfold wq_Bytes_put wq_Bytes_put_0 lp_Bytes_put_3
  intro X hX
  have key : ∀ (m i : Nat) (κ : cS) (u : Nat), i + m = n → κ.1 o 1 = nI u → u + m ≤ cap → Z (c_em ax (c_ap κ o (leF v i m)) g) → X (ax + o) v (nI n) (nI i) (c_em ax κ g) := by
    intro m
    induction m with
    | zero =>
      intro i κ u hi hu hu2 hz
      refine hX _ _ _ _ _ ?_
      unfold wq_Bytes_put_3
      have e : i = n := by omega
      subst e
      exact ⟨fun _ => hz, fun q => absurd (nI_le (Nat.le_refl _) (by omega)) q⟩
    | succ m ih =>
      intro i κ u hi hu hu2 hz
      refine hX _ _ _ _ _ ?_
      unfold wq_Bytes_put_3 wq_Bytes_put_49
      refine ⟨fun q => absurd q (nI_ge (by omega) (by omega)), fun _ => ?_⟩
      have hin : vp_in (κ.1 o 1) cap := by rw [hu]; exact vp_in_nI (by omega) hc
      simp only [b1, b2, b3, b4, ck, cn, cP ax o hp, cI ax o (by omega), cU ax (o + 1) ho, cU ax o (by omega), toI, hin, geo hg, true_and, Option.some.injEq, exists_eq_left', forall_eq, sb_put]
      refine ⟨fun q => absurd q (by rw [hu]; exact nI_ge (by omega) (by omega)), fun _ => ?_⟩
      rw [← nI_succ]
      have e2 : (c_u κ (o + 1) (κ.1 o 1).toNatClampNeg (sb (r_b8 v i))).1 o 1 = κ.1 o 1 := by rw [cu1, if_neg (fun z => absurd z.1 (by omega))]
      rw [e2]
      exact ih (i + 1) (c_pb κ o (r_b8 v i)) (u + 1) (by omega) (c_pb_t _ hu) (by omega) hz
  exact key n 0 κ t (by omega) ht hn hZ
theorem cq_at (hb : BO ax g o cap) (ho : o + 1 < 90) (hp : pa o = false) (hc : cap < 2 ^ 31) (κ : cS) {A : List Int32} (hA : c_L κ o A) (hB : allB A) (hl : A.length ≤ cap) (i : Int32) (Z : Int32 → mm_M → Prop)
    (h1 : ∀ (j : Nat) (x : Int32), i = nI j → A[j]? = some x → Z x (c_em ax κ g)) (h0 : (∀ j : Nat, j < A.length → ¬ i = nI j) → Z (-1) (c_em ax κ g)) : wq_Bytes_at ge (ax + o) i (c_em ax κ g) Z := by
  obtain ⟨b1, b2, b3, b4⟩ := hb
  unfold wq_Bytes_at wq_Bytes_at_0 wq_Bytes_at_12 wq_Bytes_at_26
  refine ⟨fun q => h0 (fun j hj e => ?_), fun q => ?_⟩
  · rw [e] at q; exact absurd q (nI_pos (by omega))
  · obtain ⟨j, hj2, rfl⟩ := nI_of q
    simp only [b1, b2, b3, b4, ck, cn, cP ax o hp, cI ax o (by omega), cI ax (o + 1) ho, hA.1, true_and, Option.some.injEq, exists_eq_left']
    refine ⟨fun q2 => ?_, fun q2 => h0 (fun k hk e => ?_)⟩
    · have hj : j < A.length := (nI_ltI hj2 (by omega)).mp q2
      have e : A[j]? = some A[j] := List.getElem?_eq_getElem hj
      rw [nI_clamp hj2, hA.2 j _ e, sbt_ (hB _ (List.getElem_mem hj))]
      exact ⟨vp_in_nI (by omega) hc, h1 j _ rfl e⟩
    · have := (nI_eq hj2 (by omega)).mp e
      subst this
      exact q2 (nI_lt hk (by omega))
theorem cq_size (hb : BO ax g o cap) (ho : o + 1 < 90) (κ : cS) (Z : Int32 → mm_M → Prop) (hZ : Z (κ.1 o 1) (c_em ax κ g)) : wq_Bytes_size ge (ax + o) (c_em ax κ g) Z := by
  obtain ⟨b1, b2, b3, b4⟩ := hb
  unfold wq_Bytes_size wq_Bytes_size_0
  simp only [b1, ck, cI ax o (by omega), true_and]
  exact hZ
theorem cq_room (hb : BO ax g o cap) (ho : o + 1 < 90) (hp : pa o = false) (κ : cS) (Z : Int32 → mm_M → Prop) (hZ : Z (nI cap - κ.1 o 1) (c_em ax κ g)) : wq_Bytes_room ge (ax + o) (c_em ax κ g) Z := by
  obtain ⟨b1, b2, b3, b4⟩ := hb
  unfold wq_Bytes_room wq_Bytes_room_0
  simp only [b1, b2, b3, b4, ck, cn, cP ax o hp, cI ax o (by omega), toI, true_and, Option.some.injEq, exists_eq_left']
  exact hZ
theorem cq_clear (hb : BO ax g o cap) (hg : ge 0 ≤ ax) (ho : o + 1 < 90) (κ : cS) (Z : mm_M → Prop) (hZ : Z (c_em ax (c_u κ o 1 0) g)) : wq_Bytes_clear ge (ax + o) (c_em ax κ g) Z := by
  obtain ⟨b1, b2, b3, b4⟩ := hb
  unfold wq_Bytes_clear wq_Bytes_clear_0
  simp only [b1, ck, cU ax o (by omega), geo hg, true_and, forall_eq]
  exact hZ
/-- a byte of the row becomes the byte k of v -/
def c_s1 (κ : cS) (o i k : Nat) (v : Int32) : cS := c_u κ (o + 1) (i + k) (sb (v >>> ((8 : Int32) * nI k &&& 31) &&& 255))
def c_st (o i : Nat) (v : Int32) : Nat → Nat → cS → cS
  | _, 0, κ => κ
  | k, n + 1, κ => c_st o i v (k + 1) n (c_s1 κ o i k v)
/-- set within the row -/
theorem cq_set (hb : BO ax g o cap) (hg : ge 0 ≤ ax) (ho : o + 1 < 90) (hp : pa o = false) (hc : cap < 2 ^ 31) (κ : cS) {t i n : Nat} (ht : κ.1 o 1 = nI t) (ht2 : t ≤ cap) (hi : i + n ≤ t) (v : Int32) (Z : mm_M → Prop)
    (hZ : Z (c_em ax (c_st o i v 0 n κ) g)) : wq_Bytes_set ge (ax + o) (nI i) v (nI n) (c_em ax κ g) Z := by
  obtain ⟨b1, b2, b3, b4⟩ := hb
  unfold wq_Bytes_set wq_Bytes_set_0 lp_Bytes_set_3
  intro X hX
  have key : ∀ (m k : Nat) (κ : cS), k + m = n → κ.1 o 1 = nI t → Z (c_em ax (c_st o i v k m κ) g) → X (ax + o) (nI i) v (nI n) (nI k) (c_em ax κ g) := by
    intro m
    induction m with
    | zero =>
      intro k κ hk hu hz
      refine hX _ _ _ _ _ _ ?_
      unfold wq_Bytes_set_3
      have e : k = n := by omega
      subst e
      exact ⟨fun _ => hz, fun q => absurd (nI_le (Nat.le_refl _) (by omega)) q⟩
    | succ m ih =>
      intro k κ hk hu hz
      refine hX _ _ _ _ _ _ ?_
      unfold wq_Bytes_set_3 wq_Bytes_set_41
      refine ⟨fun q => absurd q (nI_ge (by omega) (by omega)), fun _ => ⟨fun q => absurd q (nI_pos (by omega)), fun _ => ?_⟩⟩
      have hs : nI t - nI k = nI (t - k) := by
        have := nI_add (t - k) k
        rw [show t - k + k = t by omega] at this
        rw [← this, Int32.add_sub_cancel]
      have hin : vp_in (nI (i + k)) cap := vp_in_nI (by omega) hc
      have hcl : (nI (i + k)).toNatClampNeg = i + k := nI_clamp (by omega)
      simp only [b1, b2, b3, b4, ck, cn, cP ax o hp, cI ax o (by omega), cU ax (o + 1) ho, hu, hs, nI_add, hin, hcl, geo hg, true_and, Option.some.injEq, exists_eq_left', forall_eq]
      refine ⟨fun q => absurd q (nI_ge (by omega) (by omega)), fun _ => ?_⟩
      rw [← nI_succ]
      refine ih (k + 1) _ (by omega) (by rw [cu1, if_neg (fun z => absurd z.1 (by omega))]; exact hu) ?_
      rw [vp_sb]
      show Z (c_em ax (c_st o i v (k + 1) m (c_u κ (o + 1) (i + k) (sb (sb (v >>> ((8 : Int32) * nI k &&& 31)))))) g)
      rw [sb_sb, ← sb_a]
      exact hz
  exact key n 0 κ (by omega) ht hZ
/-- set outside the row changes nothing -/
theorem cq_set1_no (hb : BO ax g o cap) (ho : o + 1 < 90) (κ : cS) {t : Nat} (ht : κ.1 o 1 = nI t) (ht2 : t < 2 ^ 31) (i v : Int32) (hi : ∀ j : Nat, j < t → ¬ i = nI j) (Z : mm_M → Prop)
    (hZ : Z (c_em ax κ g)) : wq_Bytes_set ge (ax + o) i v 1 (c_em ax κ g) Z := by
  obtain ⟨b1, b2, b3, b4⟩ := hb
  unfold wq_Bytes_set wq_Bytes_set_0 lp_Bytes_set_3
  intro X hX
  have fin : X (ax + o) i v 1 (0 + 1) (c_em ax κ g) := by
    refine hX _ _ _ _ _ _ ?_
    unfold wq_Bytes_set_3
    exact ⟨fun _ => hZ, fun q => absurd (by decide) q⟩
  refine hX _ _ _ _ _ _ ?_
  unfold wq_Bytes_set_3 wq_Bytes_set_41
  refine ⟨fun q => absurd q (by decide), fun _ => ⟨fun _ => fin, fun q => ?_⟩⟩
  obtain ⟨j, hj2, rfl⟩ := nI_of q
  simp only [b1, ck, cI ax o (by omega), ht, true_and]
  refine ⟨fun _ => fin, fun q2 => ?_⟩
  rw [Int32.sub_zero] at q2
  exact absurd rfl (hi j (Nat.lt_of_not_le (fun z => q2 (nI_le z hj2))))
/-- the four bytes of a number, the highest first -/
def be4 (v : Int32) : List Int32 := [v >>> ((24 : Int32) &&& 31) &&& 255, v >>> ((16 : Int32) &&& 31) &&& 255, v >>> ((8 : Int32) &&& 31) &&& 255, v &&& 255]
theorem le1 (x : Int32) : le 1 x.toInt64 = [x &&& 255] := by
  show [r_b8 x.toInt64 0] = _
  rw [b8_0]
theorem cq_putHigh (hb : BO ax g o cap) (hg : ge 0 ≤ ax) (ho : o + 1 < 90) (hp : pa o = false) (hc : cap < 2 ^ 31) (κ : cS) {t : Nat} (ht : κ.1 o 1 = nI t) (hn : t + 4 ≤ cap) (v : Int32) (Z : mm_M → Prop)
    (hZ : Z (c_em ax (c_ap κ o (be4 v)) g)) : wq_Bytes_putHighestFirst ge (ax + o) v (c_em ax κ g) Z := by
  have k1 := hb.1
  unfold wq_Bytes_putHighestFirst wq_Bytes_putHighestFirst_0
  simp only [ck, k1, true_and]
  refine cq_put (n := 1) hb hg ho hp hc κ ht (by omega) _ _ ?_
  simp only [ck, k1, true_and]
  have t1 := c_ap_t (o := o) (le 1 (Int32.toInt64 (v >>> ((24 : Int32) &&& 31)))) ht
  rw [le_len] at t1
  refine cq_put (n := 1) hb hg ho hp hc _ t1 (by omega) _ _ ?_
  simp only [ck, k1, true_and]
  have t2 := c_ap_t (o := o) (le 1 (Int32.toInt64 (v >>> ((16 : Int32) &&& 31)))) t1
  rw [le_len] at t2
  refine cq_put (n := 1) hb hg ho hp hc _ t2 (by omega) _ _ ?_
  simp only [ck, k1, true_and]
  have t3 := c_ap_t (o := o) (le 1 (Int32.toInt64 (v >>> ((8 : Int32) &&& 31)))) t2
  rw [le_len] at t3
  refine cq_put (n := 1) hb hg ho hp hc _ t3 (by omega) _ _ ?_
  rw [le1, le1, le1, le1]
  exact hZ
end BB
