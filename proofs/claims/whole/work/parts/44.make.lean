/-! the class: what is made: texts, rows of data, nodes -/
theorem uI_I (h : mm_M) (a k : Nat) (x : Int32) (b j : Nat) : mm_I (mm_uI h a k x) b j = if b = a ∧ j = k then x else mm_I h b j := rfl
theorem uI_P (h : mm_M) (a k : Nat) (x : Int32) : mm_P (mm_uI h a k x) = mm_P h := rfl
theorem uI_k (h : mm_M) (a k : Nat) (x : Int32) : mm_k (mm_uI h a k x) = mm_k h := rfl
theorem uI_n (h : mm_M) (a k : Nat) (x : Int32) : mm_n (mm_uI h a k x) = mm_n h := rfl
theorem uI_z (h : mm_M) (a k : Nat) (x : Int32) : mm_z (mm_uI h a k x) = mm_z h := rfl
theorem uP_I (h : mm_M) (a k : Nat) (x : Option Nat) : mm_I (mm_uP h a k x) = mm_I h := rfl
theorem uP_P (h : mm_M) (a k : Nat) (x : Option Nat) (b j : Nat) : mm_P (mm_uP h a k x) b j = if b = a ∧ j = k then x else mm_P h b j := rfl
theorem uP_k (h : mm_M) (a k : Nat) (x : Option Nat) : mm_k (mm_uP h a k x) = mm_k h := rfl
theorem uP_n (h : mm_M) (a k : Nat) (x : Option Nat) : mm_n (mm_uP h a k x) = mm_n h := rfl
theorem uP_z (h : mm_M) (a k : Nat) (x : Option Nat) : mm_z (mm_uP h a k x) = mm_z h := rfl
theorem nw_z (h : mm_M) (kd n : Nat) : mm_z (mm_nw h kd n) = mm_z h + 1 := rfl
/-- m bytes of X come to the row b from s on -/
def rowI (h : mm_M) (b s : Nat) (X : List Int32) (m : Nat) : mm_M := (h.1, h.2.1, (fun c j => if c = b ∧ s ≤ j ∧ j < s + m then sb (tp X (j - s)) else mm_I h c j), h.2.2.2)
theorem rowI_0 (h : mm_M) (b s : Nat) (X : List Int32) : rowI h b s X 0 = h := by
  unfold rowI
  refine Prod.ext rfl (Prod.ext rfl (Prod.ext ?_ rfl))
  funext c j
  show (if c = b ∧ s ≤ j ∧ j < s + 0 then _ else mm_I h c j) = mm_I h c j
  rw [if_neg (by omega)]
theorem rowI_s (h : mm_M) (b s : Nat) (X : List Int32) (m : Nat) : mm_uI (rowI h b s X m) b (s + m) (sb (tp X m)) = rowI h b s X (m + 1) := by
  unfold rowI mm_uI
  refine Prod.ext rfl (Prod.ext rfl (Prod.ext ?_ rfl))
  funext c j
  show (if c = b ∧ j = s + m then sb (tp X m) else if c = b ∧ s ≤ j ∧ j < s + m then sb (tp X (j - s)) else mm_I h c j) = if c = b ∧ s ≤ j ∧ j < s + (m + 1) then sb (tp X (j - s)) else mm_I h c j
  by_cases e : c = b ∧ j = s + m
  · rw [if_pos e, if_pos (by omega), show j - s = m by omega]
  · rw [if_neg e]
    by_cases e2 : c = b ∧ s ≤ j ∧ j < s + m
    · rw [if_pos e2, if_pos (by omega)]
    · rw [if_neg e2, if_neg (by omega)]
theorem ext_rowI {g g' : mm_M} (h : ext g g') {b : Nat} (hb : mm_z g ≤ b) (s : Nat) (X : List Int32) (m : Nat) : ext g (rowI g' b s X m) := by
  refine ⟨h.1, fun c hc => ?_⟩
  obtain ⟨p1, p2, p3, p4, p5⟩ := h.2 c hc
  exact ⟨p1, p2, fun j => (if_neg (by omega)).trans (p3 j), p4, p5⟩
/-- a list written over another from s on -/
def ovw (D X : List Int32) (s : Nat) : List Int32 := D.take s ++ X ++ D.drop (s + X.length)
theorem ovw_len {D X : List Int32} {s : Nat} (h : s + X.length ≤ D.length) : (ovw D X s).length = D.length := by
  unfold ovw
  simp only [List.length_append, List.length_take, List.length_drop]
  omega
theorem ovw_get {D X : List Int32} {s : Nat} (h : s + X.length ≤ D.length) (j : Nat) : (ovw D X s)[j]? = if s ≤ j ∧ j < s + X.length then X[j - s]? else D[j]? := by
  unfold ovw
  by_cases h1 : j < s
  · rw [if_neg (by omega), List.append_assoc, List.getElem?_append_left (by rw [List.length_take]; omega), List.getElem?_take, if_pos h1]
  · by_cases h2 : j < s + X.length
    · rw [if_pos (by omega), List.append_assoc, List.getElem?_append_right (by rw [List.length_take]; omega), List.length_take, List.getElem?_append_left (by omega), show j - min s D.length = j - s by omega]
    · rw [if_neg (by omega), List.getElem?_append_right (by rw [List.length_append, List.length_take]; omega), List.length_append, List.length_take, List.getElem?_drop]
      congr 1
      omega
theorem ovw_B {D X : List Int32} (h1 : allB D) (h2 : allB X) (s : Nat) : allB (ovw D X s) := allB_app (allB_app (fun x hx => h1 x (List.mem_of_mem_take hx)) h2) (fun x hx => h1 x (List.mem_of_mem_drop hx))
theorem bA_rowI {g : mm_M} {b s : Nat} {D X : List Int32} (h : bA g b D) (hs : s + X.length ≤ D.length) : bA (rowI g b s X X.length) b (ovw D X s) := by
  refine ⟨h.1, (ovw_len hs).symm ▸ h.2.1, fun j x hj => ?_⟩
  rw [ovw_get hs] at hj
  show (if b = b ∧ s ≤ j ∧ j < s + X.length then sb (tp X (j - s)) else mm_I g b j) = sb x
  by_cases e : s ≤ j ∧ j < s + X.length
  · rw [if_pos e] at hj
    rw [if_pos ⟨rfl, e⟩, tp_some hj]
  · rw [if_neg e] at hj
    rw [if_neg (fun z => e z.2)]
    exact h.2.2 j x hj
theorem bA_other {g : mm_M} {b c s m : Nat} {D X : List Int32} (hbc : ¬ c = b) (h : bA g c D) : bA (rowI g b s X m) c D := ⟨h.1, h.2.1, fun j x hj => (if_neg (fun z => hbc z.1)).trans (h.2.2 j x hj)⟩
/-- zeros -/
def zer (n : Nat) : List Int32 := List.replicate n 0
theorem zer_B (n : Nat) : allB (zer n) := fun x hx => by rw [List.eq_of_mem_replicate hx]; show (0 : Int32) &&& 255 = 0; decide
theorem ovw_zer {X : List Int32} : ovw (zer X.length) X 0 = X := by
  unfold ovw zer
  simp
theorem bA_new (g : mm_M) (n : Nat) : bA (mm_nw g 101 n) (mm_z g) (zer n) := by
  refine ⟨by rw [mm_nw_k, if_pos rfl], by rw [mm_nw_n, if_pos rfl]; simp [zer], fun j x hj => ?_⟩
  have : x = 0 := List.eq_of_mem_replicate (List.mem_of_getElem? hj)
  rw [this]
  show mm_cl _ _ _ _ j = _
  unfold mm_cl
  rw [if_pos rfl]
  decide
section MK
variable {ge : Nat → Nat} {ax : Nat} {g : mm_M}
theorem cq_cpInto (hM : CM ax g) {κ : cS} {L X : List Int32} (hT : Ctp κ L) (hX : Ctx κ L X) {b s n : Nat} (hb : fz ax b) (hgb : ge 0 ≤ b) (hk : mm_k g b = ka_B) (hn : mm_n g b = n) (hn2 : n < 2 ^ 31) (hs : s + X.length ≤ n) (Z : mm_M → Prop)
    (hZ : Z (c_em ax κ (rowI g b s X X.length))) : wq_Request_copyTextInto ge (ax + 5) (some b) (nI s) (c_em ax κ g) Z := by
  obtain ⟨m1, m2⟩ := CM_q hM
  obtain ⟨l1, l2⟩ := Ctx_len hX
  have hl := hT.2.2
  unfold wq_Request_copyTextInto wq_Request_copyTextInto_0 lp_Request_copyTextInto_2
  intro Y hY
  have key : ∀ (m i : Nat), i + m = X.length → Y (ax + 5) (some b) (nI s) (nI i) (c_em ax κ (rowI g b s X i)) := by
    intro m
    induction m with
    | zero =>
      intro i hi
      have ei : i = X.length := by omega
      subst ei
      refine hY _ _ _ _ _ ?_
      unfold wq_Request_copyTextInto_2
      have k1 : mm_k (rowI g b s X X.length) (ax + 5) = kd_Request := m1
      simp only [k1, ck, cI ax 5 (by decide), l1, true_and]
      exact ⟨fun _ => hZ, fun q => absurd (nI_le (Nat.le_refl _) (by omega)) q⟩
    | succ m ih =>
      intro i hi
      refine hY _ _ _ _ _ ?_
      unfold wq_Request_copyTextInto_2 wq_Request_copyTextInto_45
      have hM' : CM ax (rowI g b s X i) := hM
      have k1 : mm_k (rowI g b s X i) (ax + 5) = kd_Request := m1
      have k2 : mm_P (rowI g b s X i) (ax + 5) 0 = some (ax + 1) := m2
      have k3 : mm_k (rowI g b s X i) b = ka_B := hk
      have k4 : mm_n (rowI g b s X i) b = n := hn
      have k5 : mm_k (rowI g b s X i) (ax + 1) = kd_Bytes := (CM_b1 hM).1
      have hin : vp_in (nI (s + i)) n := vp_in_nI (by omega) hn2
      have hcl : (nI (s + i)).toNatClampNeg = s + i := nI_clamp (by omega)
      simp only [k1, k2, k3, k4, k5, ck, cn, toI, cI ax 5 (by decide), cP ax 5 rfl, l1, nI_add, true_and, Option.some.injEq, exists_eq_left']
      refine ⟨fun z => absurd z (nI_ge (by omega) (by omega)), fun _ => ⟨fun z => absurd z (nI_pos (by omega)), fun _ => ⟨fun z => absurd z (nI_ge (by omega) (by omega)), fun _ => ?_⟩⟩⟩
      refine cq_ta hM' hT hX (by omega) _ (fun x hx => ?_)
      simp only [k3, k4, ck, cn, hin, hcl, hgb, cUf hb, true_and, Option.some.injEq, exists_eq_left', forall_eq]
      rw [vp_sb, show Int8.toInt32 (Int32.toInt8 x) = sb x from rfl, sb_sb, ← tp_some hx, rowI_s, ← nI_succ]
      exact ih (i + 1) (by omega)
  have := key X.length 0 (by omega)
  rw [rowI_0] at this
  exact this
theorem cq_cpText (hM : CM ax g) (hg : ge 0 ≤ ax) {κ : cS} {L X : List Int32} (hT : Ctp κ L) (hX : Ctx κ L X) (hX64 : X.length ≤ 64) (Z : Option Nat → mm_M → Prop)
    (hZ : ∀ g', ext g g' → mm_z g' = mm_z g + 1 → bA g' (mm_z g) X → Z (some (mm_z g)) (c_em ax κ g')) : wq_Request_copyText ge (ax + 5) (c_em ax κ g) Z := by
  obtain ⟨m1, m2⟩ := CM_q hM
  obtain ⟨l1, l2⟩ := Ctx_len hX
  have hz := CM_z hM
  have emax : (if (0 : Int32) < nI X.length then nI X.length else 0) = nI X.length := by
    by_cases z : X.length = 0
    · rw [z]; rfl
    · exact if_pos (nI_lt (a := 0) (by omega) (by omega))
  unfold wq_Request_copyText wq_Request_copyText_0
  simp only [m1, ck, cz, cI ax 5 (by decide), l1, emax, nI_clamp (show X.length < 2 ^ 31 by omega), true_and, forall_eq]
  refine ⟨nI_pos (by omega), hX64, ?_⟩
  rw [cNw (by omega)]
  have e1 := ext_nw g 101 X.length
  have hM1 := CM_ext hM e1
  refine ⟨(CM_q hM1).1, ?_⟩
  have hb0 := bA_new g X.length
  refine cq_cpInto (s := 0) (n := X.length) hM1 hT hX (by omega) (by omega) hb0.1 (by rw [hb0.2.1]; simp [zer]) (by omega) (by omega) _ ?_
  refine hZ _ (ext_rowI e1 (Nat.le_refl _) _ _ _) rfl ?_
  have := bA_rowI (s := 0) (X := X) hb0 (by simp [zer])
  rw [ovw_zer] at this
  exact this
/-- a node, laid -/
def nin (g : mm_M) (a : Nat) (x0 x1 : Int32) (p2 : Option Nat) (x3 x4 x5 : Int32) (p6 : Option Nat) : mm_M := mm_uP (mm_uI (mm_uI (mm_uI (mm_uP (mm_uI (mm_uI g a 0 x0) a 1 x1) a 2 p2) a 3 x3) a 4 x4) a 5 x5) a 6 p6
theorem cq_ni {κ : cS} {a : Nat} (ha : fz ax a) (hga : ge 0 ≤ a) (hk : mm_k g a = kd_Node) (x0 x1 : Int32) (p2 : Option Nat) (x3 x4 x5 : Int32) (p6 : Option Nat) (Z : mm_M → Prop) (hZ : Z (c_em ax κ (nin g a x0 x1 p2 x3 x4 x5 p6))) : wq_Node_init ge a x0 x1 p2 x3 x4 x5 p6 (c_em ax κ g) Z := by
  unfold wq_Node_init wq_Node_init_0
  simp only [hk, ck, uI_k, uP_k, hga, cUf ha, cUPf ha, true_and, forall_eq]
  exact hZ
theorem nin_ext {g0 : mm_M} (h : ext g0 g) {a : Nat} (ha : mm_z g0 ≤ a) (x0 x1 : Int32) (p2 : Option Nat) (x3 x4 x5 : Int32) (p6 : Option Nat) : ext g0 (nin g a x0 x1 p2 x3 x4 x5 p6) :=
  ext_uP (ext_uI (ext_uI (ext_uI (ext_uP (ext_uI (ext_uI h ha _ _) ha _ _) ha _ _) ha _ _) ha _ _) ha _ _) ha _ _
theorem nin_nd {a p an ad : Nat} {f : sF} (hok : okF f) (ha : fzz ax g a) (hk : mm_k g a = kd_Node) (hn : fzz ax g an) (hd : fzd ax g ad (f_dt f)) (h1 : ¬ an = a) (h2 : ¬ ad = a) (bn : bA g an (f_nm f)) (bd : bA g ad (f_dt f)) : nd ax (nin g a (nI p) (f_in f) (some an) (f_md f) (f_vs f) (f_mt f) (some ad)) a p f := by
  have bo : ∀ {c : Nat} {D : List Int32}, ¬ c = a → bA g c D → bA (nin g a (nI p) (f_in f) (some an) (f_md f) (f_vs f) (f_mt f) (some ad)) c D := by
    intro c D hc hb
    refine ⟨hb.1, hb.2.1, fun j x hj => ?_⟩
    unfold nin
    simp only [uI_I, uP_I, hc, false_and, if_false]
    exact hb.2.2 j x hj
  refine ⟨hok, ha, an, ad, hn, hd, hk, ?_, ?_, ?_, ?_, ?_, ?_, ?_, bo h1 bn, bo h2 bd⟩
  all_goals (unfold nin; simp [uI_I, uP_I, uI_P, uP_P])
/-- CHANGED: a node with other data -/
theorem cq_wd (hM : CM ax g) (hg : ge 0 ≤ ax) {κ : cS} {a p : Nat} {f : sF} (hn : nd ax g a p f) {D : List Int32} {ad' : Nat} (hd : fzd ax g ad' D) (hb : bA g ad' D) (hD : D.length ≤ 512) (hDB : allB D) (hdir : ¬ 0 ≤ f_md f → D = []) (tm : Int32) (Z : Option Nat → mm_M → Prop)
    (hZ : ∀ g', ext g g' → nd ax g' (mm_z g) p (f_in f, f_nm f, f_md f, f_vs f + 1, tm, D) → Z (some (mm_z g)) (c_em ax κ g')) : wq_Node_withData ge a (some ad') tm (c_em ax κ g) Z := by
  have hz := CM_z hM
  have e1 := ext_nw g 8 0
  have hn1 := nd_ext e1 hn
  obtain ⟨hok, haz, an, ad, hz1, hz2, n1, n2, n3, n4, n5, n6, n7, n8, n9, n10⟩ := hn1
  unfold wq_Node_withData wq_Node_withData_0
  simp only [cz, cNw (show ax + 90 ≤ mm_z g by omega), forall_eq, ck, n1, cIf haz.1, cPf haz.1, n2, n3, n4, n5, n6, true_and]
  have hk0 : mm_k (mm_nw g 8 0) (mm_z g) = kd_Node := by rw [mm_nw_k, if_pos rfl]
  have hne : ∀ c, fzz ax (mm_nw g 8 0) c → mm_k (mm_nw g 8 0) c = ka_B → ¬ c = mm_z g := fun c _ hc e => by rw [e, hk0] at hc; exact absurd hc (by decide)
  refine cq_ni (by omega) (by omega) hk0 _ _ _ _ _ _ _ _ ?_
  refine hZ _ (nin_ext e1 (Nat.le_refl _) _ _ _ _ _ _ _) ?_
  have up : fzz ax (mm_nw g 8 0) ad' := ⟨hd.1.1, Nat.lt_of_lt_of_le hd.1.2 e1.1⟩
  exact nin_nd (f := (f_in f, f_nm f, f_md f, f_vs f + 1, tm, D)) ⟨hok.1, hok.2.1, hD, hok.2.2.2.1, hDB, hdir⟩ ⟨by omega, by rw [nw_z]; omega⟩ hk0 hz1 ⟨up, hd.2⟩ (hne an hz1 n9.1) (hne ad' up (bA_ext e1 hd.1.2 hb).1) n9 (bA_ext e1 hd.1.2 hb)
/-- a row of data, made as long as N -/
def rsz (D : List Int32) (N : Nat) : List Int32 := D.take N ++ zer (N - D.length)
theorem rsz_len (D : List Int32) (N : Nat) : (rsz D N).length = N := by
  unfold rsz zer
  simp only [List.length_append, List.length_take, List.length_replicate]
  omega
theorem rsz_get (D : List Int32) (N j : Nat) (hj : j < N) : (rsz D N)[j]? = some (tp D j) := by
  unfold rsz zer
  by_cases h : j < D.length
  · rw [List.getElem?_append_left (by rw [List.length_take]; omega), List.getElem?_take, if_pos hj, tp_get h]
  · rw [List.getElem?_append_right (by rw [List.length_take]; omega), List.length_take, List.getElem?_replicate, if_pos (by omega)]
    unfold tp
    rw [List.getD_eq_getElem?_getD, List.getElem?_eq_none (by omega)]
    rfl
theorem rsz_B {D : List Int32} (h : allB D) (N : Nat) : allB (rsz D N) := allB_app (fun x hx => h x (List.mem_of_mem_take hx)) (zer_B _)
theorem fits_sb (x : Int32) : fits .byte (.int (sb x)) = true := by
  unfold fits
  have h1 := Int8.le_toInt x.toInt8
  have h2 := Int8.toInt_lt x.toInt8
  have e : (sb x).toInt = x.toInt8.toInt := Int8.toInt_toInt32 _
  have a1 : (-128 : Int32) ≤ sb x := by
    rw [Int32.le_iff_toInt_le, e, show (-128 : Int32).toInt = -128 by decide]
    exact h1
  have a2 : sb x ≤ (127 : Int32) := by
    rw [Int32.le_iff_toInt_le, e, show (127 : Int32).toInt = 127 by decide]
    omega
  simp [a1, a2]
theorem cq_cpOf (hM : CM ax g) (hg : ge 0 ≤ ax) {κ : cS} {b : Nat} {D : List Int32} (hd : fzd ax g b D) (hb : bA g b D) (hD : D.length ≤ 512) {N : Nat} (hN : N ≤ 512) (hne : N = D.length → ¬ D = []) (Z : Option Nat → mm_M → Prop)
    (hZ : ∀ g', ext g g' → mm_z g' = mm_z g + 1 → bA g' (mm_z g) (rsz D N) → Z (some (mm_z g)) (c_em ax κ g')) : wq_Arrays_copyOf_9075b ge (some b) (nI N) (c_em ax κ g) Z := by
  have hz := CM_z hM
  unfold wq_Arrays_copyOf_9075b
  rw [nI_clamp (by omega)]
  refine ⟨b, rfl, hb.1, nI_pos (by omega), hN, by rw [cn, hb.2.1]; exact hD, hd.1.2, by rw [cz]; omega, fun i hi => ?_, fun e => ?_, fun h1 e1 => ?_⟩
  · rw [cn, hb.2.1] at hi
    rw [cIf hd.1.1, hb.2.2 i _ (List.getElem?_eq_getElem hi)]
    exact fits_sb _
  · rw [cn, hb.2.1] at e
    by_cases z : b < ax
    · exact absurd (hd.2 z) (hne e)
    · omega
  · have ec : mm_cp (c_em ax κ g) b N = c_em ax κ (mm_cp g b N) := by
      unfold mm_cp c_em
      refine Prod.ext rfl (Prod.ext rfl (Prod.ext ?_ (Prod.ext ?_ (Prod.ext ?_ rfl))))
      · funext c j
        show (if c = mm_z g then (if j < mm_n g b ∧ j < N then (if c_in ax b then κ.1 (b - ax) j else mm_I g b j) else 0) else if c_in ax c then κ.1 (c - ax) j else mm_I g c j) = if c_in ax c then κ.1 (c - ax) j else (if c = mm_z g then (if j < mm_n g b ∧ j < N then mm_I g b j else 0) else mm_I g c j)
        have hbz := hd.1.1
        rw [if_neg (show ¬ c_in ax b by omega)]
        by_cases e2 : c = mm_z g
        · rw [if_pos e2, if_neg (show ¬ c_in ax c by omega), if_pos e2]
        · rw [if_neg e2, if_neg e2]
      · funext c j
        show (if c = mm_z g then 0 else if c_in ax c then κ.2.1 (c - ax) j else mm_L g c j) = if c_in ax c then κ.2.1 (c - ax) j else (if c = mm_z g then 0 else mm_L g c j)
        by_cases e2 : c_in ax c
        · rw [if_pos e2, if_pos e2, if_neg (by omega)]
        · rw [if_neg e2, if_neg e2]
      · funext c j
        show (if c = mm_z g then none else if c_in ax c ∧ pa (c - ax) = true then κ.2.2 (c - ax) j else mm_P g c j) = if c_in ax c ∧ pa (c - ax) = true then κ.2.2 (c - ax) j else (if c = mm_z g then none else mm_P g c j)
        by_cases e2 : c_in ax c ∧ pa (c - ax) = true
        · rw [if_pos e2, if_pos e2, if_neg (fun q => by have := e2.1; omega)]
        · rw [if_neg e2, if_neg e2]
    rw [e1, ec]
    refine hZ _ ⟨Nat.le_succ _, fun c hc => ?_⟩ rfl ?_
    · have hne : ¬ c = mm_z g := by omega
      refine ⟨?_, ?_, fun j => ?_, fun j => ?_, fun j => ?_⟩
      · show va_up g.1 (mm_z g) 101 c = _; unfold va_up; rw [if_neg hne]; rfl
      · show va_up g.2.1 (mm_z g) N c = _; unfold va_up; rw [if_neg hne]; rfl
      · show (if c = mm_z g then _ else mm_I g c j) = _; rw [if_neg hne]
      · show mm_cl _ _ _ c j = _; unfold mm_cl; rw [if_neg hne]; rfl
      · show mm_cl _ _ _ c j = _; unfold mm_cl; rw [if_neg hne]; rfl
    · refine ⟨?_, ?_, fun j x hj => ?_⟩
      · show va_up g.1 (mm_z g) 101 (mm_z g) = _; unfold va_up; rw [if_pos rfl]
      · show va_up g.2.1 (mm_z g) N (mm_z g) = _; unfold va_up; rw [if_pos rfl, rsz_len]
      · have hjN : j < N := by have := (List.getElem?_eq_some_iff.mp hj).1; rw [rsz_len] at this; exact this
        rw [rsz_get D N j hjN] at hj
        show (if mm_z g = mm_z g then (if j < mm_n g b ∧ j < N then mm_I g b j else 0) else _) = _
        rw [if_pos rfl, ← Option.some.inj hj]
        by_cases z : j < D.length
        · rw [if_pos ⟨by rw [hb.2.1]; exact z, hjN⟩]
          exact hb.2.2 j _ (tp_get z)
        · rw [if_neg (fun q => z (by rw [← hb.2.1]; exact q.1))]
          unfold tp
          rw [List.getD_eq_getElem?_getD, List.getElem?_eq_none (by omega)]
          decide
end MK
