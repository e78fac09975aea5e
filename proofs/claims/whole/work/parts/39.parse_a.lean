/-! numbers and texts of a message: what both sides read -/
def vN (t : Nat → Int32) (a : Nat) : Nat → Int64 → Int64
  | 0, v => v
  | k + 1, v => vN t a k ((v <<< ((8 : Int32).toInt64 &&& 63)) ||| Int32.toInt64 (t (a + k)))
def val (t : Nat → Int32) (a k : Nat) : Int64 := vN t a k 0
theorem r_nm_vN (σ : rS) (a : Nat) : ∀ (k : Nat) (v : Int64), r_nm σ a k v = vN (σ.2.2 O_tape) a k v
  | 0, _ => rfl
  | k + 1, v => r_nm_vN σ a k _
theorem vN_congr {t t' : Nat → Int32} {a : Nat} : ∀ (k : Nat) (v : Int64), (∀ j, j < k → t (a + j) = t' (a + j)) → vN t a k v = vN t' a k v
  | 0, _, _ => rfl
  | k + 1, v, h => by
    show vN t a k _ = vN t' a k _
    rw [h k (by omega)]
    exact vN_congr k _ (fun j hj => h j (by omega))
theorem val_congr {t t' : Nat → Int32} {a k : Nat} (h : ∀ j, j < k → t (a + j) = t' (a + j)) : val t a k = val t' a k := vN_congr k 0 h
theorem isB_l {x : Int32} (h : isB x) {i : Nat} (hi : i < 64) : bl x.toInt64 i = (decide (i < 8) && bt x i) := by
  rw [i_l x hi]
  by_cases z : i < 8
  · rw [if_pos (by omega), decide_eq_true z, Bool.true_and]
  · rw [decide_eq_false z, Bool.false_and]
    split
    · exact isB_bt h (by omega)
    · exact isB_bt h (by omega)
theorem vN_bit {t : Nat → Int32} {a : Nat} (hB : ∀ j, isB (t j)) : ∀ (k : Nat) (v : Int64) (i : Nat), i < 64 → bl (vN t a k v) i = if i < 8 * k then bt (t (a + i / 8)) (i % 8) else bl v (i - 8 * k)
  | 0, v, i, hi => by rw [if_neg (by omega)]; rfl
  | k + 1, v, i, hi => by
    show bl (vN t a k _) i = _
    rw [vN_bit hB k _ i hi]
    by_cases z : i < 8 * k
    · rw [if_pos z, if_pos (by omega)]
    · rw [if_neg z, l_or]
      have sh : bl (v <<< ((8 : Int32).toInt64 &&& 63)) (i - 8 * k) = (decide (8 * 1 ≤ i - 8 * k) && bl v (i - 8 * k - 8 * 1)) := l_shl 1 (by decide) v (by omega)
      rw [sh, isB_l (hB _) (by omega)]
      by_cases y : i < 8 * (k + 1)
      · rw [if_pos y, decide_eq_false (by omega), decide_eq_true (by omega), Bool.false_and, Bool.false_or, Bool.true_and, show i / 8 = k by omega, show i % 8 = i - 8 * k by omega]
      · rw [if_neg y, decide_eq_true (by omega), decide_eq_false (by omega), Bool.true_and, Bool.false_and, Bool.or_false, show i - 8 * (k + 1) = i - 8 * k - 8 * 1 by omega]
theorem val_bit {t : Nat → Int32} {a k : Nat} (hB : ∀ j, isB (t j)) {i : Nat} (hi : i < 64) : bl (val t a k) i = (decide (i < 8 * k) && bt (t (a + i / 8)) (i % 8)) := by
  unfold val
  rw [vN_bit hB k 0 i hi]
  by_cases z : i < 8 * k
  · rw [if_pos z, decide_eq_true z, Bool.true_and]
  · rw [if_neg z, decide_eq_false z, Bool.false_and, l_0]
/-- as the class reads it -/
def clN (t : Nat → Int32) (a : Nat) : Nat → Nat → Int64 → Int64
  | _, 0, v => v
  | i, m + 1, v => clN t a (i + 1) m (v ||| (Int32.toInt64 (t (a + i)) <<< (((8 : Int32) * nI i).toInt64 &&& 63)))
theorem clN_bit {t : Nat → Int32} {a : Nat} (hB : ∀ j, isB (t j)) : ∀ (m i : Nat) (v : Int64) (x : Nat), i + m ≤ 8 → x < 64 → bl (clN t a i m v) x = (bl v x || (decide (8 * i ≤ x) && (decide (x < 8 * (i + m)) && bt (t (a + x / 8)) (x % 8))))
  | 0, i, v, x, hi, hx => by
    show bl v x = _
    by_cases z : 8 * i ≤ x
    · rw [decide_eq_false (show ¬ x < 8 * (i + 0) by omega), Bool.false_and, Bool.and_false, Bool.or_false]
    · rw [decide_eq_false z, Bool.false_and, Bool.or_false]
  | m + 1, i, v, x, hi, hx => by
    show bl (clN t a (i + 1) m _) x = _
    rw [clN_bit hB m (i + 1) _ x (by omega) hx, l_or, l_shl i (by omega) _ hx, isB_l (hB _) (by omega), show i + 1 + m = i + (m + 1) by omega]
    by_cases y : 8 * i ≤ x
    · by_cases z : x < 8 * (i + 1)
      · rw [decide_eq_true y, decide_eq_true (show x - 8 * i < 8 by omega), decide_eq_false (show ¬ 8 * (i + 1) ≤ x by omega), decide_eq_true (show x < 8 * (i + (m + 1)) by omega), show x / 8 = i by omega, show x % 8 = x - 8 * i by omega]
        simp
      · rw [decide_eq_true y, decide_eq_false (show ¬ x - 8 * i < 8 by omega), decide_eq_true (show 8 * (i + 1) ≤ x by omega)]
        simp
    · rw [decide_eq_false y, decide_eq_false (show ¬ 8 * (i + 1) ≤ x by omega)]
      simp
theorem clN_val {t : Nat → Int32} {a k : Nat} (hB : ∀ j, isB (t j)) (hk : k ≤ 8) : clN t a 0 k 0 = val t a k := by
  apply l_ext
  intro i hi
  rw [clN_bit hB k 0 0 i (by omega) hi, val_bit hB hi, l_0, Bool.false_or, decide_eq_true (by omega), Bool.true_and, Nat.zero_add]
/-- a small number -/
theorem small_of {x : Int32} {n : Nat} (hn : n < 32) (h : ∀ i, n ≤ i → i < 32 → bt x i = false) : ∃ l : Nat, l < 2 ^ n ∧ x = nI l := by
  refine ⟨x.toBitVec.toNat, ?_, ?_⟩
  · refine Nat.lt_pow_two_of_testBit _ (fun i hi => ?_)
    by_cases z : i < 32
    · exact h i hi z
    · exact BitVec.getLsbD_of_ge x.toBitVec i (by omega)
  · exact Int32.toBitVec_inj.mp (by show _ = BitVec.ofNat 32 _; simp)
theorem val_small {t : Nat → Int32} {a k : Nat} (hB : ∀ j, isB (t j)) (hk : k < 4) : ∃ l : Nat, l < 2 ^ (8 * k) ∧ (val t a k).toInt32 = nI l := small_of (by omega) (fun i h1 h2 => by rw [l_i _ h2, val_bit hB (by omega), decide_eq_false (by omega), Bool.false_and])
/-- the length of a text at a -/
def tl (t : Nat → Int32) (a : Nat) : Nat := (val t a 2).toInt32.toNatClampNeg
theorem tl_eq {t : Nat → Int32} {a : Nat} (hB : ∀ j, isB (t j)) : (val t a 2).toInt32 = nI (tl t a) ∧ tl t a < 65536 := by
  obtain ⟨l, h1, h2⟩ := val_small (a := a) (k := 2) hB (by decide)
  unfold tl
  rw [h2, nI_clamp (by omega)]
  exact ⟨rfl, h1⟩
/-- reading stands at a place, or is ill -/
def qn (e k : Nat) (st : Option Nat) : Option Nat := st.bind (fun a => if a + k ≤ e then some (a + k) else none)
def at0 (st : Option Nat) : Nat := st.getD 0
def qs (e l : Nat) (st : Option Nat) : Option Nat := st.bind (fun a => if a + l ≤ e then some (a + l) else none)
def qt (t : Nat → Int32) (e : Nat) (st : Option Nat) : Option Nat := qs e (tl t (at0 st)) (qn e 2 st)
theorem qn_some {e k b : Nat} {st : Option Nat} (h : qn e k st = some b) : st = some (b - k) ∧ k ≤ b ∧ b ≤ e := by
  cases st with
  | none => cases h
  | some a =>
    unfold qn at h
    simp only [Option.bind_some] at h
    by_cases z : a + k ≤ e
    · rw [if_pos z] at h
      cases h
      exact ⟨by congr 1; omega, by omega, z⟩
    · rw [if_neg z] at h; cases h
theorem qs_some {e k b : Nat} {st : Option Nat} (h : qs e k st = some b) : st = some (b - k) ∧ k ≤ b ∧ b ≤ e := qn_some h
theorem qn_none (e k : Nat) : qn e k none = none := rfl
/-! the class: how the reading stands -/
def flg (st : Option Nat) : Int32 := match st with
  | none => 0
  | some _ => 1
def RC (κ : cS) (e : Nat) (st : Option Nat) : Prop := κ.1 5 1 = nI e ∧ κ.1 5 3 = flg st ∧ ∃ a : Nat, a ≤ e ∧ κ.1 5 2 = nI a ∧ ∀ b, st = some b → b = a
/-- the tape as a function -/
def tp (L : List Int32) : Nat → Int32 := fun j => L.getD j 0
theorem tp_B {L : List Int32} (h : allB L) (j : Nat) : isB (tp L j) := by
  unfold tp
  rw [List.getD_eq_getElem?_getD]
  cases e : L[j]? with
  | none => show (0 : Int32) &&& 255 = 0; decide
  | some x => exact h x (List.mem_of_getElem? e)
theorem tp_some {L : List Int32} {j : Nat} {x : Int32} (h : L[j]? = some x) : tp L j = x := by
  unfold tp
  rw [List.getD_eq_getElem?_getD, h]
  rfl
theorem tp_get {L : List Int32} {j : Nat} (h : j < L.length) : L[j]? = some (tp L j) := by
  rw [List.getElem?_eq_getElem h, tp_some (List.getElem?_eq_getElem h)]
/-- place and flag of the reading, set anew -/
def c_rd (κ : cS) (A B : Int32) : cS := c_u (c_u κ 5 2 A) 5 3 B
theorem c_rd_same {κ : cS} : c_rd κ (κ.1 5 2) (κ.1 5 3) = κ := by
  unfold c_rd c_u
  refine Prod.ext ?_ rfl
  funext o j
  show (if o = 5 ∧ j = 3 then κ.1 5 3 else if o = 5 ∧ j = 2 then κ.1 5 2 else κ.1 o j) = κ.1 o j
  by_cases h1 : o = 5 ∧ j = 3
  · rw [if_pos h1, h1.1, h1.2]
  · rw [if_neg h1]
    by_cases h2 : o = 5 ∧ j = 2
    · rw [if_pos h2, h2.1, h2.2]
    · rw [if_neg h2]
theorem c_rd_f (κ : cS) (B : Int32) : c_u κ 5 3 B = c_rd κ (κ.1 5 2) B := by
  unfold c_rd c_u
  refine Prod.ext ?_ rfl
  funext o j
  show (if o = 5 ∧ j = 3 then B else κ.1 o j) = (if o = 5 ∧ j = 3 then B else if o = 5 ∧ j = 2 then κ.1 5 2 else κ.1 o j)
  by_cases h1 : o = 5 ∧ j = 3
  · rw [if_pos h1, if_pos h1]
  · rw [if_neg h1, if_neg h1]
    by_cases h2 : o = 5 ∧ j = 2
    · rw [if_pos h2, h2.1, h2.2]
    · rw [if_neg h2]
theorem c_rd_a (κ : cS) (A : Int32) : c_u κ 5 2 A = c_rd κ A (κ.1 5 3) := by
  unfold c_rd c_u
  refine Prod.ext ?_ rfl
  funext o j
  show (if o = 5 ∧ j = 2 then A else κ.1 o j) = (if o = 5 ∧ j = 3 then κ.1 5 3 else if o = 5 ∧ j = 2 then A else κ.1 o j)
  by_cases h1 : o = 5 ∧ j = 3
  · rw [if_pos h1, if_neg (by omega), h1.1, h1.2]
  · rw [if_neg h1]
theorem c_rd1 (κ : cS) (A B : Int32) (o j : Nat) (h : ¬ (o = 5 ∧ (j = 2 ∨ j = 3))) : (c_rd κ A B).1 o j = κ.1 o j := by
  unfold c_rd
  rw [cu1, if_neg (fun z => h ⟨z.1, Or.inr z.2⟩), cu1, if_neg (fun z => h ⟨z.1, Or.inl z.2⟩)]
theorem c_rd2 (κ : cS) (A B : Int32) : (c_rd κ A B).2 = κ.2 := rfl
section RQ
variable {ge : Nat → Nat} {ax : Nat} {g : mm_M}
theorem c_L_of {κ κ' : cS} {o : Nat} {L : List Int32} (e : ∀ j, κ'.1 (o + 1) j = κ.1 (o + 1) j) (e1 : κ'.1 o 1 = κ.1 o 1) (h : c_L κ o L) : c_L κ' o L := ⟨e1.trans h.1, fun j x hj => (e j).trans (h.2 j x hj)⟩
theorem cq_long (hM : CM ax g) (hg : ge 0 ≤ ax) (κ : cS) {L : List Int32} (hL : c_L κ 1 L) (hB : allB L) (hl : L.length ≤ 1400) {e k : Nat} {st : Option Nat} (he : e ≤ L.length) (hR : RC κ e st) (hk : 0 < k) (hk8 : k ≤ 8) (Z : Int64 → mm_M → Prop)
    (hZ : ∀ A B v, RC (c_rd κ A B) e (qn e k st) → (∀ b, qn e k st = some b → v = val (tp L) (at0 st) k) → Z v (c_em ax (c_rd κ A B) g)) : wq_Request_longNumber ge (ax + 5) (nI k) (c_em ax κ g) Z := by
  obtain ⟨m1, m2⟩ := CM_q hM
  obtain ⟨r1, r2, a, r3, r4, r5⟩ := hR
  have hs : nI e - nI a = nI (e - a) := by
    have := nI_add (e - a) a
    rw [show e - a + a = e by omega] at this
    rw [← this, Int32.add_sub_cancel]
  unfold wq_Request_longNumber wq_Request_longNumber_0
  simp only [m1, ck, cI ax 5 (by decide), cU ax 5 (by decide), r1, r4, hs, geo hg, true_and, forall_eq, nI_leI (show k < 2 ^ 31 by omega) (show e - a < 2 ^ 31 by omega)]
  refine ⟨fun q => ?_, fun q => ?_⟩
  · unfold lp_Request_longNumber_25
    intro X hX
    have key : ∀ (m i : Nat) (v : Int64), i + m = k → Z (clN (tp L) a i m v) (c_em ax (c_u κ 5 2 (nI (a + k))) g) → X (ax + 5) (nI k) v (nI i) (c_em ax κ g) := by
      intro m
      induction m with
      | zero =>
        intro i v hi hz
        refine hX _ _ _ _ _ ?_
        unfold wq_Request_longNumber_25
        have ek : i = k := by omega
        subst ek
        simp only [m1, ck, cI ax 5 (by decide), cU ax 5 (by decide), r4, geo hg, true_and, forall_eq, nI_add]
        exact ⟨fun _ => hz, fun q => absurd (nI_le (Nat.le_refl _) (by omega)) q⟩
      | succ m ih =>
        intro i v hi hz
        refine hX _ _ _ _ _ ?_
        unfold wq_Request_longNumber_25
        refine ⟨fun q => absurd q (nI_ge (by omega) (by omega)), fun _ => ?_⟩
        simp only [m1, m2, (CM_b1 hM).1, ck, cI ax 5 (by decide), cP ax 5 rfl, r4, true_and, Option.some.injEq, exists_eq_left', nI_add]
        have hlt : a + i < L.length := by omega
        refine cq_at (CM_b1 hM) (by decide) rfl (by decide) κ hL hB hl _ _ (fun j x ej hj => ?_) (fun hn => absurd rfl (hn (a + i) hlt))
        have := (nI_eq (by omega) (by have := (List.getElem?_eq_some_iff.mp hj).1; omega)).mp ej
        subst this
        rw [← nI_succ]
        refine ih (i + 1) _ (by omega) ?_
        rw [← tp_some hj]
        exact hz
    refine key k 0 0 (by omega) ?_
    rw [clN_val (tp_B hB) hk8, c_rd_a]
    refine hZ _ _ _ ⟨r1, ?_, a + k, by omega, rfl, fun b hb => ?_⟩ (fun b hb => ?_)
    · show κ.1 5 3 = _
      rw [r2]
      cases st with
      | none => rfl
      | some b =>
        unfold qn
        simp only [Option.bind_some]
        rw [r5 b rfl, if_pos (by omega)]
        rfl
    · obtain ⟨h1, h2, h3⟩ := qn_some hb
      have := r5 _ h1
      omega
    · obtain ⟨h1, h2, h3⟩ := qn_some hb
      have := r5 _ h1
      rw [h1]
      show val (tp L) a k = val (tp L) (b - k) k
      rw [this]
  · rw [c_rd_f]
    have hq : qn e k st = none := by
      cases st with
      | none => rfl
      | some b =>
        unfold qn
        simp only [Option.bind_some]
        rw [r5 b rfl, if_neg (by omega)]
    refine hZ _ _ _ ⟨r1, by rw [hq]; rfl, a, r3, r4, fun b hb => by rw [hq] at hb; cases hb⟩ (fun b hb => by rw [hq] at hb; cases hb)
theorem cq_num (hM : CM ax g) (hg : ge 0 ≤ ax) (κ : cS) {L : List Int32} (hL : c_L κ 1 L) (hB : allB L) (hl : L.length ≤ 1400) {e k : Nat} {st : Option Nat} (he : e ≤ L.length) (hR : RC κ e st) (hk : 0 < k) (hk8 : k ≤ 8) (Z : Int32 → mm_M → Prop)
    (hZ : ∀ A B v, RC (c_rd κ A B) e (qn e k st) → (∀ b, qn e k st = some b → v = (val (tp L) (at0 st) k).toInt32) → Z v (c_em ax (c_rd κ A B) g)) : wq_Request_number ge (ax + 5) (nI k) (c_em ax κ g) Z := by
  unfold wq_Request_number wq_Request_number_0
  refine ⟨(CM_q hM).1, cq_long hM hg κ hL hB hl he hR hk hk8 _ (fun A B v h1 h2 => hZ A B _ h1 (fun b hb => by rw [h2 b hb]))⟩
theorem cq_skip (hM : CM ax g) (hg : ge 0 ≤ ax) (κ : cS) {e : Nat} {st : Option Nat} (he : e ≤ 1400) (hR : RC κ e st) (x : Int32) (l : Nat) (hl : ∀ b, st = some b → (¬ x < 0 ∧ x = nI l) ∨ (x < 0 ∧ e < b + l)) (hl2 : l < 2 ^ 31) (Z : mm_M → Prop)
    (hZ : ∀ A B, RC (c_rd κ A B) e (qs e l st) → Z (c_em ax (c_rd κ A B) g)) : wq_Request_skip ge (ax + 5) x (c_em ax κ g) Z := by
  obtain ⟨m1, m2⟩ := CM_q hM
  obtain ⟨r1, r2, a, r3, r4, r5⟩ := hR
  have hs : nI e - nI a = nI (e - a) := by
    have := nI_add (e - a) a
    rw [show e - a + a = e by omega] at this
    rw [← this, Int32.add_sub_cancel]
  have bad : (∀ b, st = some b → e < b + l) → Z (c_em ax (c_u κ 5 3 0) g) := by
    intro hb
    rw [c_rd_f]
    have hq : qs e l st = none := by
      cases st with
      | none => rfl
      | some b =>
        have := hb b rfl
        unfold qs
        simp only [Option.bind_some]
        rw [if_neg (by omega)]
    exact hZ _ _ ⟨r1, by rw [hq]; rfl, a, r3, r4, fun b hb => by rw [hq] at hb; cases hb⟩
  unfold wq_Request_skip wq_Request_skip_0 wq_Request_skip_17 wq_Request_skip_35
  simp only [m1, ck, cI ax 5 (by decide), cU ax 5 (by decide), r1, r4, hs, geo hg, true_and, forall_eq]
  refine ⟨fun q => bad (fun b hb => ?_), fun q => ⟨fun q2 => ?_, fun q2 => bad (fun b hb => ?_)⟩⟩
  · rcases hl b hb with z | z
    · exact absurd q z.1
    · exact z.2
  · obtain ⟨l', hl', rfl⟩ := nI_of q
    have hle : l' ≤ e - a := (nI_leI hl' (by omega)).mp q2
    rw [c_rd_a, nI_add]
    refine hZ _ _ ⟨r1, ?_, a + l', by omega, rfl, fun b hb => ?_⟩
    · show κ.1 5 3 = _
      rw [r2]
      cases st with
      | none => rfl
      | some b =>
        have e1 : b = a := r5 b rfl
        rcases hl b rfl with z | z
        · have := (nI_eq hl' hl2).mp z.2
          subst this
          unfold qs
          simp only [Option.bind_some]
          rw [if_pos (by omega)]
          rfl
        · exact absurd z.1 q
    · obtain ⟨h1, h2, h3⟩ := qs_some hb
      have e1 := r5 _ h1
      rcases hl _ h1 with z | z
      · have := (nI_eq hl' hl2).mp z.2
        omega
      · exact absurd z.1 q
  · have e1 := r5 b hb
    rcases hl b hb with z | z
    · rw [z.2, nI_leI hl2 (by omega)] at q2
      omega
    · exact z.2
end RQ
