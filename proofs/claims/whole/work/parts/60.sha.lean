/-! SHA-1, told once; the class's Sha -/
abbrev qW : Type := Int32 × Int32 × Int32 × Int32 × Int32
def padB (X : List Int32) (i : Nat) : Int32 := if i < X.length then tp X i else if i = X.length then 128 else 0
def pw (X : List Int32) (a : Nat) : Int32 := ((((((0 : Int32) <<< ((8 : Int32) &&& 31)) ||| padB X a) <<< ((8 : Int32) &&& 31) ||| padB X (a + 1)) <<< ((8 : Int32) &&& 31) ||| padB X (a + 2)) <<< ((8 : Int32) &&& 31)) ||| padB X (a + 3)
def ro1 (v : Int32) : Int32 := (v <<< ((1 : Int32) &&& 31)) ||| ((v.toUInt32 >>> ((31 : Int32).toUInt32 &&& Int32.toUInt32 31)).toInt32)
def ro5 (v : Int32) : Int32 := (v <<< ((5 : Int32) &&& 31)) ||| ((v.toUInt32 >>> ((27 : Int32).toUInt32 &&& Int32.toUInt32 31)).toInt32)
def ro30 (v : Int32) : Int32 := (v <<< ((30 : Int32) &&& 31)) ||| ((v.toUInt32 >>> ((2 : Int32).toUInt32 &&& Int32.toUInt32 31)).toInt32)
def bln (i : Nat) (b c d : Int32) : Int32 := if i < 20 then ((b &&& c) ||| ((b ^^^ (-1)) &&& d)) + 1518500249 else if i < 40 then ((b ^^^ c) ^^^ d) + 1859775393 else if i < 60 then (((b &&& c) ||| (b &&& d)) ||| (c &&& d)) + (-1894007588) else ((b ^^^ c) ^^^ d) + (-899497514)
def sstep (w : Nat → Int32) (i : Nat) (q : qW) : qW := (((ro5 q.1 + bln i q.2.1 q.2.2.1 q.2.2.2.1) + q.2.2.2.2) + w i, q.1, ro30 q.2.1, q.2.2.1, q.2.2.2.1)
def srnd (w : Nat → Int32) : Nat → qW → qW
  | 0, q => q
  | n + 1, q => sstep w n (srnd w n q)
def extS (w : Nat → Int32) : Nat → Nat → Int32
  | 0 => w
  | n + 1 => fun j => if j = 16 + n then ro1 (((extS w n (13 + n) ^^^ extS w n (8 + n)) ^^^ extS w n (2 + n)) ^^^ extS w n n) else extS w n j
def mixH (w : Nat → Int32) (h : qW) : qW := (h.1 + (srnd (extS w 64) 80 h).1, h.2.1 + (srnd (extS w 64) 80 h).2.1, h.2.2.1 + (srnd (extS w 64) 80 h).2.2.1, h.2.2.2.1 + (srnd (extS w 64) 80 h).2.2.2.1, h.2.2.2.2 + (srnd (extS w 64) 80 h).2.2.2.2)
def chk (X : List Int32) : Nat := (X.length + 8) / 64 + 1
def blkW (X : List Int32) (c : Nat) : Nat → Int32 := fun i => if c + 1 = chk X ∧ i = 15 then nI X.length * 8 else pw X (c * 64 + i * 4)
def sh0 : qW := (1732584193, -271733879, -1732584194, 271733878, -1009589776)
def shaN (X : List Int32) : Nat → qW
  | 0 => sh0
  | c + 1 => mixH (blkW X c) (shaN X c)
def sha (X : List Int32) : qW := shaN X (chk X)
theorem extS_congr {w w' : Nat → Int32} (h : ∀ i, i < 16 → w i = w' i) : ∀ (n j : Nat), j < 16 + n → extS w n j = extS w' n j
  | 0, j, hj => h j (by omega)
  | n + 1, j, hj => by
    have ih := extS_congr h n
    show (if j = 16 + n then _ else extS w n j) = (if j = 16 + n then _ else extS w' n j)
    by_cases e : j = 16 + n
    · rw [if_pos e, if_pos e, ih (13 + n) (by omega), ih (8 + n) (by omega), ih (2 + n) (by omega), ih n (by omega)]
    · rw [if_neg e, if_neg e, ih j (by omega)]
theorem srnd_congr {w w' : Nat → Int32} (q : qW) : ∀ n, (∀ i, i < n → w i = w' i) → srnd w n q = srnd w' n q
  | 0, _ => rfl
  | n + 1, h => by
    show sstep w n (srnd w n q) = sstep w' n (srnd w' n q)
    rw [srnd_congr q n (fun i hi => h i (by omega))]
    unfold sstep
    rw [h n (by omega)]
theorem mixH_congr {w w' : Nat → Int32} (h : ∀ i, i < 16 → w i = w' i) (q : qW) : mixH w q = mixH w' q := by
  unfold mixH
  rw [srnd_congr q 80 (fun i hi => extS_congr h 64 i (by omega))]
theorem nI_div64 {a : Nat} (ha : a < 2 ^ 20) : nI a / 64 = nI (a / 64) := by
  apply Int32.toInt_inj.mp
  rw [Int32.toInt_div_of_ne_right _ _ (by decide), nI_toInt (by omega), nI_toInt (by omega), show (64 : Int32).toInt = 64 by decide]
  show (a : Int).tdiv 64 = _
  rw [Int.tdiv_eq_ediv_of_nonneg (by omega)]
  omega
/-- only the rows of the hash change -/
def fr84 (κ κ' : cS) : Prop := κ'.2 = κ.2 ∧ ∀ o j, ¬ o = 84 → ¬ o = 85 → κ'.1 o j = κ.1 o j
theorem fr84_rf (κ : cS) : fr84 κ κ := ⟨rfl, fun _ _ _ _ => rfl⟩
theorem fr84_tr {a b c : cS} (h1 : fr84 a b) (h2 : fr84 b c) : fr84 a c := ⟨h2.1.trans h1.1, fun o j x y => (h2.2 o j x y).trans (h1.2 o j x y)⟩
def wds (κ : cS) : qW := (κ.1 84 0, κ.1 84 1, κ.1 84 2, κ.1 84 3, κ.1 84 4)
section SHA
variable {ge : Nat → Nat} {ax : Nat} {g : mm_M}
theorem cq_blend {i : Nat} (hi : i < 2 ^ 31) (b c d : Int32) (h : mm_M) (Z : Int32 → mm_M → Prop) (hZ : Z (bln i b c d) h) : wq_Sha_blend ge (nI i) b c d h Z := by
  unfold wq_Sha_blend wq_Sha_blend_0
  have c20 : ((20 : Int32) ≤ nI i) ↔ 20 ≤ i := nI_leI (a := 20) (by decide) hi
  have c40 : ((40 : Int32) ≤ nI i) ↔ 40 ≤ i := nI_leI (a := 40) (by decide) hi
  have c60 : ((60 : Int32) ≤ nI i) ↔ 60 ≤ i := nI_leI (a := 60) (by decide) hi
  rw [c20, c40, c60]
  unfold bln at hZ
  refine ⟨fun q => ⟨fun q2 => ⟨fun q3 => ?_, fun q3 => ?_⟩, fun q2 => ?_⟩, fun q => ?_⟩
  · rw [if_neg (by omega), if_neg (by omega), if_neg (by omega)] at hZ; exact hZ
  · rw [if_neg (by omega), if_neg (by omega), if_pos (by omega)] at hZ; exact hZ
  · rw [if_neg (by omega), if_pos (by omega)] at hZ; exact hZ
  · rw [if_pos (by omega)] at hZ; exact hZ
set_option maxHeartbeats 2000000 in
theorem cq_mix (hM : CM ax g) (hg : ge 0 ≤ ax) (κ : cS) (Z : mm_M → Prop) (hZ : ∀ κ', fr84 κ κ' → wds κ' = mixH (κ.1 85) (wds κ) → Z (c_em ax κ' g)) : wq_Sha_mix ge (ax + 83) (c_em ax κ g) Z := by
  obtain ⟨_, _, ⟨s1, s2, s3, s4, s5, s6, s7⟩, _⟩ := CM_a hM
  unfold wq_Sha_mix wq_Sha_mix_0 lp_Sha_mix_3
  intro X hX
  have key : ∀ (m n : Nat) (κ' : cS), n + m = 64 → κ'.2 = κ.2 → (∀ o j, ¬ o = 85 → κ'.1 o j = κ.1 o j) → κ'.1 85 = extS (κ.1 85) n → X (ax + 83) (nI (16 + n)) (c_em ax κ' g) := by
    intro m
    induction m with
    | zero =>
      intro n κ' hn e2 e1 e85
      have en : n = 64 := by omega
      subst en
      refine hX _ _ _ ?_
      unfold wq_Sha_mix_3
      refine ⟨fun _ => ?_, fun q => absurd (nI_le (a := 80) (by omega) (by decide)) q⟩
      have v : ∀ k, k < 5 → vp_in (nI k) 5 := fun k hk => vp_in_nI hk (by decide)
      have c0 : Int32.toNatClampNeg 0 = 0 := by decide
      have c1 : Int32.toNatClampNeg 1 = 1 := by decide
      have c2 : Int32.toNatClampNeg 2 = 2 := by decide
      have c3 : Int32.toNatClampNeg 3 = 3 := by decide
      have c4' : Int32.toNatClampNeg 4 = 4 := by decide
      have v0 : vp_in 0 5 := v 0 (by decide)
      have v1 : vp_in 1 5 := v 1 (by decide)
      have v2 : vp_in 2 5 := v 2 (by decide)
      have v3 : vp_in 3 5 := v 3 (by decide)
      have v4 : vp_in 4 5 := v 4 (by decide)
      have w84 : ∀ j, κ'.1 84 j = κ.1 84 j := fun j => e1 _ _ (by decide)
      simp only [s1, s2, s4, s5, ck, cn, cP ax 83 rfl, cI ax 84 (by decide), c0, c1, c2, c3, c4', v0, v1, v2, v3, v4, w84, true_and, Option.some.injEq, exists_eq_left']
      unfold lp_Sha_mix_108
      intro Y hY
      have loop : ∀ (m n : Nat) (q : qW), n + m = 80 → q = srnd (κ'.1 85) n (wds κ) → Y (ax + 83) q.1 q.2.1 q.2.2.1 q.2.2.2.1 q.2.2.2.2 (nI n) (c_em ax κ' g) := by
        intro m
        induction m with
        | zero =>
          intro n q hn hq
          have en : n = 80 := by omega
          subst en
          refine hY _ _ _ _ _ _ _ _ ?_
          unfold wq_Sha_mix_108
          refine ⟨fun _ => ?_, fun y => absurd (nI_le (a := 80) (Nat.le_refl _) (by decide)) y⟩
          simp only [s1, s2, s4, s5, ck, cn, cP ax 83 rfl, cI ax 84 (by decide), cU ax 84 (by decide), c0, c1, c2, c3, c4', v0, v1, v2, v3, v4, geo hg, true_and, Option.some.injEq, exists_eq_left', forall_eq]
          refine hZ _ ⟨e2, fun o j h1 h2 => ?_⟩ ?_
          · simp only [cu1, h1, false_and, if_false]
            exact e1 _ _ h2
          · unfold wds mixH
            simp only [cu1]
            rw [← e85, hq]
            simp [w84, wds]
        | succ m ih =>
          intro n q hn hq
          refine hY _ _ _ _ _ _ _ _ ?_
          unfold wq_Sha_mix_108
          refine ⟨fun y => absurd y (nI_ge (b := 80) (by omega) (by decide)), fun _ => ?_⟩
          refine cq_blend (by omega) _ _ _ _ _ ?_
          have hin : vp_in (nI n) 80 := vp_in_nI (by omega) (by decide)
          have hcl : (nI n).toNatClampNeg = n := nI_clamp (by omega)
          simp only [s1, s3, s6, s7, ck, cn, cP ax 83 rfl, cI ax 85 (by decide), hin, hcl, true_and, Option.some.injEq, exists_eq_left']
          rw [← nI_succ]
          have := ih (n + 1) (sstep (κ'.1 85) n q) (by omega) (by rw [hq]; rfl)
          exact this
      exact loop 80 0 (wds κ) (by omega) rfl
    | succ m ih =>
      intro n κ' hn e2 e1 e85
      refine hX _ _ _ ?_
      unfold wq_Sha_mix_3
      refine ⟨fun q => absurd q (nI_ge (b := 80) (by omega) (by decide)), fun _ => ?_⟩
      have q3 : nI (16 + n) - 3 = nI (13 + n) := by rw [show (3 : Int32) = nI 3 from rfl, nI_sub (by omega), show 16 + n - 3 = 13 + n by omega]
      have q8 : nI (16 + n) - 8 = nI (8 + n) := by rw [show (8 : Int32) = nI 8 from rfl, nI_sub (by omega), show 16 + n - 8 = 8 + n by omega]
      have q14 : nI (16 + n) - 14 = nI (2 + n) := by rw [show (14 : Int32) = nI 14 from rfl, nI_sub (by omega), show 16 + n - 14 = 2 + n by omega]
      have q16 : nI (16 + n) - 16 = nI n := by rw [show (16 : Int32) = nI 16 from rfl, nI_sub (by omega), show 16 + n - 16 = n by omega]
      have v : ∀ k, k < 80 → vp_in (nI k) 80 := fun k hk => vp_in_nI hk (by decide)
      have cl : ∀ k, k < 80 → (nI k).toNatClampNeg = k := fun k hk => nI_clamp (by omega)
      simp only [s1, s3, s6, s7, ck, cn, cP ax 83 rfl, cI ax 85 (by decide), cU ax 85 (by decide), q3, q8, q14, q16, v _ (show 13 + n < 80 by omega), v _ (show 8 + n < 80 by omega), v _ (show 2 + n < 80 by omega), v _ (show n < 80 by omega), v _ (show 16 + n < 80 by omega), cl _ (show 13 + n < 80 by omega), cl _ (show 8 + n < 80 by omega), cl _ (show 2 + n < 80 by omega), cl _ (show n < 80 by omega), cl _ (show 16 + n < 80 by omega), geo hg, true_and, Option.some.injEq, exists_eq_left', forall_eq]
      rw [← nI_succ]
      refine ih (n + 1) _ (by omega) e2 (fun o j ho => by rw [cu1, if_neg (fun z => ho z.1)]; exact e1 o j ho) ?_
      funext j
      rw [cu1, e85]
      show _ = (if j = 16 + n then ro1 (((extS (κ.1 85) n (13 + n) ^^^ extS (κ.1 85) n (8 + n)) ^^^ extS (κ.1 85) n (2 + n)) ^^^ extS (κ.1 85) n n) else extS (κ.1 85) n j)
      by_cases ej : j = 16 + n
      · rw [if_pos ⟨rfl, ej⟩, if_pos ej]; rfl
      · rw [if_neg (fun z => ej z.2), if_neg ej]
  exact key 64 0 κ (by omega) rfl (fun _ _ _ => rfl) rfl
/-- the bytes X lie in the row b from s on -/
def srcB (ax : Nat) (κ : cS) (g : mm_M) (b N s : Nat) (X : List Int32) : Prop := mm_k g b = ka_B ∧ mm_n g b = N ∧ N ≤ 6000 ∧ s + X.length ≤ N ∧ (b = ax + 87 ∨ fz ax b) ∧ ∀ (i : Nat) (x : Int32), X[i]? = some x → mm_I (c_em ax κ g) b (s + i) = sb x
theorem srcB_of {κ κ' : cS} {b N s : Nat} {X : List Int32} (h : srcB ax κ g b N s X) (e : ∀ j, κ'.1 87 j = κ.1 87 j) : srcB ax κ' g b N s X := by
  obtain ⟨h1, h2, h3, h4, h5, h6⟩ := h
  refine ⟨h1, h2, h3, h4, h5, fun i x hx => ?_⟩
  rw [← h6 i x hx]
  rcases h5 with z | z
  · rw [z, cI ax 87 (by decide), cI ax 87 (by decide), e]
  · rw [cIf z, cIf z]
theorem cq_pw {κ : cS} {b N s : Nat} {X : List Int32} (hX : srcB ax κ g b N s X) (hB : allB X) {a : Nat} (ha : a < 2 ^ 20) (Z : Int32 → mm_M → Prop) (hZ : Z (pw X a) (c_em ax κ g)) : wq_Sha_paddedWord ge (some b) (nI s) (nI X.length) (nI a) (c_em ax κ g) Z := by
  obtain ⟨h1, h2, h3, h4, h5, h6⟩ := hX
  unfold wq_Sha_paddedWord wq_Sha_paddedWord_0 lp_Sha_paddedWord_6
  intro Y hY
  have step : ∀ (k : Nat) (v : Int32), k < 4 → Y (some b) (nI s) (nI X.length) (nI a) ((v <<< ((8 : Int32) &&& 31)) ||| padB X (a + k)) (nI (a + k) + 1) (c_em ax κ g) → Y (some b) (nI s) (nI X.length) (nI a) v (nI (a + k)) (c_em ax κ g) := by
    intro k v hk hy
    refine hY _ _ _ _ _ _ _ ?_
    unfold wq_Sha_paddedWord_6
    rw [show nI a + 4 = nI (a + 4) from nI_add a 4]
    refine ⟨fun q => absurd q (nI_ge (by omega) (by omega)), fun _ => ?_⟩
    have p33 : ∀ s0 : Int32, (X.length ≤ a + k → s0 = padB X (a + k)) → wq_Sha_paddedWord_33 Y ge (some b) (nI s) (nI X.length) (nI a) v (nI (a + k)) (nI s + nI (a + k)) s0 (c_em ax κ g) Z := by
      intro s0 hs0
      unfold wq_Sha_paddedWord_33 wq_Sha_paddedWord_63
      rw [nI_add, nI_leI (by omega) (by omega)]
      refine ⟨fun q => by rw [hs0 q]; exact hy, fun q => ⟨fun y => absurd y (nI_pos (by omega)), fun _ => ?_⟩⟩
      have hlt : a + k < X.length := by omega
      have gx := List.getElem?_eq_getElem hlt
      simp only [h1, h2, ck, cn, toI, true_and, Option.some.injEq, exists_eq_left']
      refine ⟨fun y => absurd y (nI_ge (by omega) (by omega)), fun _ => ⟨vp_in_nI (by omega) (by omega), ?_⟩⟩
      rw [nI_clamp (by omega), h6 _ _ gx, sbt_ (hB _ (List.getElem_mem hlt))]
      have : padB X (a + k) = X[a + k] := by
        unfold padB
        rw [if_pos hlt, tp_some gx]
      rw [← this]
      exact hy
    rw [nI_eq (by omega) (by omega)]
    refine ⟨fun q => p33 0 (fun y => ?_), fun q => p33 128 (fun y => ?_)⟩
    · unfold padB; rw [if_neg (by omega), if_neg q]
    · unfold padB; rw [if_neg (by omega), if_pos q]
  have last : ∀ v : Int32, Z v (c_em ax κ g) → Y (some b) (nI s) (nI X.length) (nI a) v (nI (a + 4)) (c_em ax κ g) := fun v hv => by
    refine hY _ _ _ _ _ _ _ ?_
    unfold wq_Sha_paddedWord_6
    rw [show nI a + 4 = nI (a + 4) from nI_add a 4]
    exact ⟨fun _ => hv, fun q => absurd (nI_le (Nat.le_refl _) (by omega)) q⟩
  have s3 := step 3 _ (by decide) (by rw [← nI_succ]; exact last _ hZ)
  have s2 := step 2 _ (by decide) (by rw [← nI_succ]; exact s3)
  have s1 := step 1 _ (by decide) (by rw [← nI_succ]; exact s2)
  exact step 0 0 (by decide) (by rw [← nI_succ]; exact s1)
set_option maxHeartbeats 2000000 in
theorem cq_digest (hM : CM ax g) (hg : ge 0 ≤ ax) {κ : cS} {b N s : Nat} {X : List Int32} (hX : srcB ax κ g b N s X) (hB : allB X) (Z : mm_M → Prop) (hZ : ∀ κ', fr84 κ κ' → wds κ' = sha X → Z (c_em ax κ' g)) : wq_Sha_digest ge (ax + 83) (some b) (nI s) (nI X.length) (c_em ax κ g) Z := by
  obtain ⟨_, _, ⟨s1, s2, s3, s4, s5, s6, s7⟩, _⟩ := CM_a hM
  have hl : X.length ≤ 6000 := by have := hX.2.2.2.1; have := hX.2.2.1; omega
  have c0 : Int32.toNatClampNeg 0 = 0 := by decide
  have c1 : Int32.toNatClampNeg 1 = 1 := by decide
  have c2 : Int32.toNatClampNeg 2 = 2 := by decide
  have c3 : Int32.toNatClampNeg 3 = 3 := by decide
  have c4' : Int32.toNatClampNeg 4 = 4 := by decide
  have c15 : Int32.toNatClampNeg 15 = 15 := by decide
  have v0 : vp_in 0 5 := vp_in_nI (n := 0) (by decide) (by decide)
  have v1 : vp_in 1 5 := vp_in_nI (n := 1) (by decide) (by decide)
  have v2 : vp_in 2 5 := vp_in_nI (n := 2) (by decide) (by decide)
  have v3 : vp_in 3 5 := vp_in_nI (n := 3) (by decide) (by decide)
  have v4 : vp_in 4 5 := vp_in_nI (n := 4) (by decide) (by decide)
  have v15 : vp_in 15 80 := vp_in_nI (n := 15) (by decide) (by decide)
  unfold wq_Sha_digest wq_Sha_digest_0
  simp only [s1, s2, s4, s5, ck, cn, cP ax 83 rfl, cU ax 84 (by decide), c0, c1, c2, c3, c4', v0, v1, v2, v3, v4, geo hg, true_and, Option.some.injEq, exists_eq_left', forall_eq]
  rw [show nI X.length + 8 = nI (X.length + 8) from nI_add _ 8, nI_div64 (by omega), show nI ((X.length + 8) / 64) + 1 = nI (chk X) from (nI_succ _).symm]
  have hck : chk X < 2 ^ 20 := by unfold chk; omega
  obtain ⟨κ1, e1⟩ : ∃ κ1, κ1 = c_u (c_u (c_u (c_u (c_u κ 84 0 1732584193) 84 1 (-271733879)) 84 2 (-1732584194)) 84 3 271733878) 84 4 (-1009589776) := ⟨_, rfl⟩
  rw [← e1]
  have f1 : fr84 κ κ1 := by
    rw [e1]
    exact ⟨rfl, fun o j h1 h2 => by simp only [cu1, h1, false_and, if_false]⟩
  have w1 : wds κ1 = sh0 := by
    rw [e1]
    unfold wds sh0
    simp [cu1]
  unfold lp_Sha_digest_54
  intro Y hY
  have outer : ∀ (m c : Nat) (κ' : cS), c + m = chk X → fr84 κ κ' → wds κ' = shaN X c → Y (ax + 83) (some b) (nI s) (nI X.length) (nI (chk X)) (nI c) (c_em ax κ' g) := by
    intro m
    induction m with
    | zero =>
      intro c κ' hc f' w'
      have ec : c = chk X := by omega
      subst ec
      refine hY _ _ _ _ _ _ _ ?_
      unfold wq_Sha_digest_54
      exact ⟨fun _ => hZ κ' f' w', fun q => absurd (nI_le (Nat.le_refl _) (by omega)) q⟩
    | succ m ih =>
      intro c κ' hc f' w'
      refine hY _ _ _ _ _ _ _ ?_
      unfold wq_Sha_digest_54
      refine ⟨fun q => absurd q (nI_ge (by omega) (by omega)), fun _ => ?_⟩
      unfold lp_Sha_digest_64
      intro V hV
      -- the schedule is laid
      have mixed : ∀ κ2 : cS, fr84 κ κ2 → wds κ2 = wds κ' → (∀ i, i < 16 → κ2.1 85 i = blkW X c i) → wq_Sha_digest_120 Y ge (ax + 83) (some b) (nI s) (nI X.length) (nI (chk X)) (nI c) (c_em ax κ2 g) Z := by
        intro κ2 f2 w2 h85
        unfold wq_Sha_digest_120
        refine ⟨s1, cq_mix hM hg κ2 _ (fun κ3 f3 w3 => ?_)⟩
        rw [← nI_succ]
        refine ih (c + 1) κ3 (by omega) (fr84_tr f2 f3) ?_
        rw [w3, w2, w']
        exact mixH_congr h85 _
      have inner : ∀ (m i : Nat) (κ2 : cS), i + m = 16 → fr84 κ κ2 → wds κ2 = wds κ' → (∀ k, k < i → κ2.1 85 k = pw X (c * 64 + k * 4)) → V (ax + 83) (some b) (nI s) (nI X.length) (nI (chk X)) (nI c) (nI i) (c_em ax κ2 g) := by
        intro m
        induction m with
        | zero =>
          intro i κ2 hi f2 w2 h85
          have ei : i = 16 := by omega
          subst ei
          refine hV _ _ _ _ _ _ _ _ ?_
          unfold wq_Sha_digest_64
          refine ⟨fun _ => ?_, fun q => absurd (nI_le (a := 16) (Nat.le_refl _) (by decide)) q⟩
          have hck1 : 1 ≤ chk X := by unfold chk; omega
          rw [show (1 : Int32) = nI 1 from rfl, nI_sub hck1, nI_eq (by omega) (by omega)]
          refine ⟨fun q => mixed κ2 f2 w2 (fun k hk => ?_), fun q => ?_⟩
          · unfold blkW
            rw [if_neg (by omega)]
            exact h85 k hk
          · simp only [s1, s3, s6, s7, ck, cn, cP ax 83 rfl, cU ax 85 (by decide), c15, v15, geo hg, true_and, Option.some.injEq, exists_eq_left', forall_eq]
            refine mixed _ ⟨f2.1, fun o j h1 h2 => by rw [cu1, if_neg (fun z => h2 z.1)]; exact f2.2 o j h1 h2⟩ ?_ (fun k hk => ?_)
            · rw [← w2]
              unfold wds
              simp [cu1]
            · unfold blkW
              rw [cu1]
              by_cases ek : k = 15
              · rw [if_pos ⟨rfl, ek⟩, if_pos ⟨by omega, ek⟩]
              · rw [if_neg (fun z => ek z.2), if_neg (fun z => ek z.2)]
                exact h85 k hk
        | succ m ih2 =>
          intro i κ2 hi f2 w2 h85
          refine hV _ _ _ _ _ _ _ _ ?_
          unfold wq_Sha_digest_64
          refine ⟨fun q => absurd q (nI_ge (b := 16) (by omega) (by decide)), fun _ => ⟨s1, ?_⟩⟩
          rw [show nI c * 64 + nI i * 4 = nI (c * 64 + i * 4) from by rw [show (64 : Int32) = nI 64 from rfl, show (4 : Int32) = nI 4 from rfl, pk_mul, pk_mul, nI_add]]
          have hcl64 : c * 64 + i * 4 < 2 ^ 20 + 2000 := by unfold chk at hc hck; omega
          have hX2 := srcB_of (κ' := κ2) hX (fun j => f2.2 87 j (by decide) (by decide))
          refine cq_pw hX2 hB (by
            have h3 := hX.2.2.1
            unfold chk at hc
            have h4 := hX.2.2.2.1
            omega) _ ?_
          have hin : vp_in (nI i) 80 := vp_in_nI (by omega) (by decide)
          have hcl : (nI i).toNatClampNeg = i := nI_clamp (by omega)
          simp only [s3, s6, s7, ck, cn, cP ax 83 rfl, cU ax 85 (by decide), hin, hcl, geo hg, true_and, Option.some.injEq, exists_eq_left', forall_eq]
          rw [← nI_succ]
          refine ih2 (i + 1) _ (by omega) ⟨f2.1, fun o j h1 h2 => by rw [cu1, if_neg (fun z => h2 z.1)]; exact f2.2 o j h1 h2⟩ ?_ (fun k hk => ?_)
          · rw [← w2]
            unfold wds
            simp [cu1]
          · rw [cu1]
            by_cases ek : k = i
            · rw [if_pos ⟨rfl, ek⟩, ek]
            · rw [if_neg (fun z => ek z.2)]
              exact h85 k (by omega)
      exact inner 16 0 κ' (by omega) f' rfl (fun k hk => absurd hk (by omega))
  exact outer (chk X) 0 κ1 (by omega) f1 w1
end SHA
