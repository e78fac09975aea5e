/-! the class reads a message: texts, names, data -/
def fr5 (κ κ' : cS) (S : List Nat) : Prop := κ'.2.2 = κ.2.2 ∧ (∀ o j, ¬ (o = 5 ∧ j ∈ S) → κ'.1 o j = κ.1 o j) ∧ ∀ o j, ¬ (o = 5 ∧ j ∈ S) → κ'.2.1 o j = κ.2.1 o j
theorem fr5_tr {a b c : cS} {S S' : List Nat} (h1 : fr5 a b S) (h2 : fr5 b c S') : fr5 a c (S ++ S') := by
  refine ⟨h2.1.trans h1.1, fun o j h => ?_, fun o j h => ?_⟩
  · exact (h2.2.1 o j (fun z => h ⟨z.1, List.mem_append_right _ z.2⟩)).trans (h1.2.1 o j (fun z => h ⟨z.1, List.mem_append_left _ z.2⟩))
  · exact (h2.2.2 o j (fun z => h ⟨z.1, List.mem_append_right _ z.2⟩)).trans (h1.2.2 o j (fun z => h ⟨z.1, List.mem_append_left _ z.2⟩))
theorem fr5_mono {a b : cS} {S S' : List Nat} (h : fr5 a b S) (hs : ∀ j, j ∈ S → j ∈ S') : fr5 a b S' := ⟨h.1, fun o j q => h.2.1 o j (fun z => q ⟨z.1, hs j z.2⟩), fun o j q => h.2.2 o j (fun z => q ⟨z.1, hs j z.2⟩)⟩
theorem fr5_rf (κ : cS) : fr5 κ κ [] := ⟨rfl, fun _ _ _ => rfl, fun _ _ _ => rfl⟩
theorem fr5_u (κ : cS) (j : Nat) (x : Int32) : fr5 κ (c_u κ 5 j x) [j] := ⟨rfl, fun o k h => by rw [cu1, if_neg (fun z => h ⟨z.1, by simp [z.2]⟩)], fun _ _ _ => rfl⟩
theorem fr5_ul (κ : cS) (j : Nat) (x : Int64) : fr5 κ (c_ul κ 5 j x) [j] := ⟨rfl, fun _ _ _ => rfl, fun o k h => by rw [cul2, if_neg (fun z => h ⟨z.1, by simp [z.2]⟩)]⟩
theorem fr5_rd (κ : cS) (A B : Int32) : fr5 κ (c_rd κ A B) [2, 3] := ⟨rfl, fun o k h => c_rd1 κ A B o k (fun z => h ⟨z.1, by simp; exact z.2⟩), fun _ _ _ => rfl⟩
theorem fr5_i {κ κ' : cS} {S : List Nat} (h : fr5 κ κ' S) {j : Nat} (hj : ¬ j ∈ S) : κ'.1 5 j = κ.1 5 j := h.2.1 5 j (fun z => hj z.2)
theorem fr5_l {κ κ' : cS} {S : List Nat} (h : fr5 κ κ' S) {j : Nat} (hj : ¬ j ∈ S) : κ'.2.1 5 j = κ.2.1 5 j := h.2.2 5 j (fun z => hj z.2)
/-- the tape holds L -/
def Ctp (κ : cS) (L : List Int32) : Prop := c_L κ 1 L ∧ allB L ∧ L.length ≤ 1400
theorem Ctp_5 {κ κ' : cS} {S : List Nat} {L : List Int32} (f : fr5 κ κ' S) (h : Ctp κ L) : Ctp κ' L := ⟨c_L_of (fun j => f.2.1 _ _ (fun z => absurd z.1 (by decide))) (f.2.1 _ _ (fun z => absurd z.1 (by decide))) h.1, h.2⟩
theorem RC_u {κ : cS} {e : Nat} {st : Option Nat} (h : RC κ e st) {j : Nat} (h1 : ¬ j = 1) (h2 : ¬ j = 2) (h3 : ¬ j = 3) (x : Int32) : RC (c_u κ 5 j x) e st := by
  obtain ⟨r1, r2, a, r3, r4, r5⟩ := h
  refine ⟨?_, ?_, a, r3, ?_, r5⟩
  · rw [cu1, if_neg (fun z => h1 z.2.symm)]; exact r1
  · rw [cu1, if_neg (fun z => h3 z.2.symm)]; exact r2
  · rw [cu1, if_neg (fun z => h2 z.2.symm)]; exact r4
theorem RC_ul {κ : cS} {e : Nat} {st : Option Nat} (h : RC κ e st) (j : Nat) (x : Int64) : RC (c_ul κ 5 j x) e st := h
/-- the text of the request is X -/
def Ctx (κ : cS) (L X : List Int32) : Prop := ∃ a l : Nat, κ.1 5 14 = nI a ∧ κ.1 5 15 = nI l ∧ a + l ≤ L.length ∧ X = slc L a l
theorem Ctx_5 {κ κ' : cS} {S : List Nat} {L X : List Int32} (f : fr5 κ κ' S) (h1 : ¬ 14 ∈ S) (h2 : ¬ 15 ∈ S) (h : Ctx κ L X) : Ctx κ' L X := by
  obtain ⟨a, l, q1, q2, q3⟩ := h
  exact ⟨a, l, (fr5_i f h1).trans q1, (fr5_i f h2).trans q2, q3⟩
def txt (L : List Int32) (s : Option Nat) : List Int32 := slc L (at0 s + 2) (tl (tp L) (at0 s))
theorem qt_some {t : Nat → Int32} {e b : Nat} {st : Option Nat} (h : qt t e st = some b) : st = some (at0 st) ∧ b = at0 st + 2 + tl t (at0 st) ∧ b ≤ e := by
  unfold qt at h
  obtain ⟨h1, h2, h3⟩ := qs_some h
  obtain ⟨h4, h5, h6⟩ := qn_some h1
  refine ⟨?_, ?_, h3⟩
  · cases st with
    | none => cases h4
    | some a => rfl
  · have : at0 st = b - tl t (at0 st) - 2 := congrArg at0 h4
    omega
theorem qt_none (t : Nat → Int32) (e : Nat) : qt t e none = none := rfl
section RQ2
variable {ge : Nat → Nat} {ax : Nat} {g : mm_M}
theorem cq_N (hM : CM ax g) (hg : ge 0 ≤ ax) {κ : cS} {L : List Int32} (hT : Ctp κ L) {e : Nat} {st : Option Nat} (he : e ≤ L.length) (hR : RC κ e st) (k : Nat) (hk : 0 < k) (hk8 : k ≤ 8) (Z : Int32 → mm_M → Prop)
    (hZ : ∀ κ' v, fr5 κ κ' [2, 3] → Ctp κ' L → RC κ' e (qn e k st) → (∀ b, qn e k st = some b → v = (val (tp L) (at0 st) k).toInt32) → Z v (c_em ax κ' g)) : wq_Request_number ge (ax + 5) (nI k) (c_em ax κ g) Z :=
  cq_num hM hg κ hT.1 hT.2.1 hT.2.2 he hR hk hk8 Z (fun A B v h1 h2 => hZ _ v (fr5_rd κ A B) (Ctp_5 (fr5_rd κ A B) hT) h1 h2)
theorem cq_NL (hM : CM ax g) (hg : ge 0 ≤ ax) {κ : cS} {L : List Int32} (hT : Ctp κ L) {e : Nat} {st : Option Nat} (he : e ≤ L.length) (hR : RC κ e st) (k : Nat) (hk : 0 < k) (hk8 : k ≤ 8) (Z : Int64 → mm_M → Prop)
    (hZ : ∀ κ' v, fr5 κ κ' [2, 3] → Ctp κ' L → RC κ' e (qn e k st) → (∀ b, qn e k st = some b → v = val (tp L) (at0 st) k) → Z v (c_em ax κ' g)) : wq_Request_longNumber ge (ax + 5) (nI k) (c_em ax κ g) Z :=
  cq_long hM hg κ hT.1 hT.2.1 hT.2.2 he hR hk hk8 Z (fun A B v h1 h2 => hZ _ v (fr5_rd κ A B) (Ctp_5 (fr5_rd κ A B) hT) h1 h2)
theorem cq_T (hM : CM ax g) (hg : ge 0 ≤ ax) {κ : cS} {L : List Int32} (hT : Ctp κ L) {e : Nat} {st : Option Nat} (he : e ≤ L.length) (hR : RC κ e st) (Z : mm_M → Prop)
    (hZ : ∀ κ', fr5 κ κ' [2, 3, 15, 14, 2, 3] → Ctp κ' L → RC κ' e (qt (tp L) e st) → (∀ b, qt (tp L) e st = some b → Ctx κ' L (txt L st) ∧ κ'.1 5 15 = nI (tl (tp L) (at0 st)) ∧ κ'.1 5 14 = nI (at0 st + 2)) → Z (c_em ax κ' g)) : wq_Request_readText ge (ax + 5) (c_em ax κ g) Z := by
  have m1 := (CM_q hM).1
  unfold wq_Request_readText wq_Request_readText_0
  refine ⟨m1, cq_N hM hg hT he hR 2 (by decide) (by decide) _ (fun κ1 v f1 T1 R1 V1 => ?_)⟩
  simp only [m1, ck, cI ax 5 (by decide), cU ax 5 (by decide), geo hg, true_and, forall_eq]
  obtain ⟨κ2, e2⟩ : ∃ κ2, κ2 = c_u (c_u κ1 5 15 v) 5 14 ((c_u κ1 5 15 v).1 5 2) := ⟨_, rfl⟩
  have f2 : fr5 κ1 κ2 ([15] ++ [14]) := by rw [e2]; exact fr5_tr (fr5_u _ _ _) (fr5_u _ _ _)
  have R2 : RC κ2 e (qn e 2 st) := by rw [e2]; exact RC_u (RC_u R1 (by decide) (by decide) (by decide) _) (by decide) (by decide) (by decide) _
  have v15 : κ2.1 5 15 = v := by rw [e2, cu1, if_neg (by decide), cu1, if_pos ⟨rfl, rfl⟩]
  have v14 : κ2.1 5 14 = κ1.1 5 2 := by rw [e2, cu1, if_pos ⟨rfl, rfl⟩, cu1, if_neg (by decide)]
  rw [← e2, v15]
  obtain ⟨q1, q2⟩ := tl_eq (t := tp L) (a := at0 st) (tp_B hT.2.1)
  refine cq_skip hM hg κ2 (by have := hT.2.2; omega) R2 v (tl (tp L) (at0 st)) (fun b hb => Or.inl ?_) (by omega) _ (fun A B R3 => ?_)
  · rw [V1 b hb, q1]
    exact ⟨nI_pos (by omega), rfl⟩
  · have f3 := fr5_rd κ2 A B
    have ff : fr5 κ (c_rd κ2 A B) [2, 3, 15, 14, 2, 3] := fr5_tr f1 (fr5_tr f2 f3)
    refine hZ _ ff (Ctp_5 ff hT) R3 (fun b hb => ?_)
    obtain ⟨w1, w2, w3⟩ := qt_some hb
    have hs : qn e 2 st = some (at0 st + 2) := by
      rw [w1]
      unfold qn
      simp only [Option.bind_some]
      rw [if_pos (by omega)]
      rfl
    have p15 : (c_rd κ2 A B).1 5 15 = nI (tl (tp L) (at0 st)) := by rw [fr5_i f3 (by decide), v15, V1 _ hs, q1]
    have p14 : (c_rd κ2 A B).1 5 14 = nI (at0 st + 2) := by
      obtain ⟨_, _, a, r3, r4, r5⟩ := R1
      rw [fr5_i f3 (by decide), v14, r4, r5 _ hs]
    exact ⟨⟨at0 st + 2, _, p14, p15, by omega, rfl⟩, p15, p14⟩
def qts (t : Nat → Int32) (e : Nat) : Nat → Option Nat → Option Nat
  | 0, st => st
  | m + 1, st => qts t e m (qt t e st)
theorem qts_none (t : Nat → Int32) (e : Nat) : ∀ m, qts t e m none = none
  | 0 => rfl
  | m + 1 => qts_none t e m
/-- names, from a place on -/
def nms (L : List Int32) (e : Nat) : Nat → Option Nat → List (List Int32)
  | 0, _ => []
  | m + 1, st => txt L st :: nms L e m (qt (tp L) e st)
theorem nms_len (L : List Int32) (e : Nat) : ∀ (m : Nat) (st : Option Nat), (nms L e m st).length = m
  | 0, _ => rfl
  | m + 1, st => by show (nms L e m _).length + 1 = _; rw [nms_len L e m]
theorem cq_Ts (hM : CM ax g) (hg : ge 0 ≤ ax) {κ : cS} {L : List Int32} (hT : Ctp κ L) {e : Nat} {st : Option Nat} (he : e ≤ L.length) (hR : RC κ e st) (Z : mm_M → Prop)
    (hZ : ∀ κ', fr5 κ κ' [2, 3, 9, 4, 15, 14] → Ctp κ' L → RC κ' e (qts (tp L) e (tl (tp L) (at0 st)) (qn e 2 st)) → (∀ b, qn e 2 st = some b → κ'.1 5 9 = nI (tl (tp L) (at0 st)) ∧ κ'.1 5 4 = nI b) → Z (c_em ax κ' g)) : wq_Request_readNames ge (ax + 5) (c_em ax κ g) Z := by
  have m1 := (CM_q hM).1
  unfold wq_Request_readNames wq_Request_readNames_0
  refine ⟨m1, cq_N hM hg hT he hR 2 (by decide) (by decide) _ (fun κ1 v f1 T1 R1 V1 => ?_)⟩
  simp only [m1, ck, cI ax 5 (by decide), cU ax 5 (by decide), geo hg, true_and, forall_eq]
  obtain ⟨κ2, e2⟩ : ∃ κ2, κ2 = c_u (c_u κ1 5 9 v) 5 4 ((c_u κ1 5 9 v).1 5 2) := ⟨_, rfl⟩
  have f2 : fr5 κ1 κ2 ([9] ++ [4]) := by rw [e2]; exact fr5_tr (fr5_u _ _ _) (fr5_u _ _ _)
  have R2 : RC κ2 e (qn e 2 st) := by rw [e2]; exact RC_u (RC_u R1 (by decide) (by decide) (by decide) _) (by decide) (by decide) (by decide) _
  have v9 : κ2.1 5 9 = v := by rw [e2, cu1, if_neg (by decide), cu1, if_pos ⟨rfl, rfl⟩]
  have v4 : κ2.1 5 4 = κ1.1 5 2 := by rw [e2, cu1, if_pos ⟨rfl, rfl⟩, cu1, if_neg (by decide)]
  rw [← e2]
  obtain ⟨q1, q2⟩ := tl_eq (t := tp L) (a := at0 st) (tp_B hT.2.1)
  have ff : fr5 κ κ2 [2, 3, 9, 4] := fr5_tr f1 f2
  have fin : ∀ κ', fr5 κ2 κ' [2, 3, 15, 14] → RC κ' e (qts (tp L) e (tl (tp L) (at0 st)) (qn e 2 st)) → Z (c_em ax κ' g) := by
    intro κ' f R
    have f' : fr5 κ κ' [2, 3, 9, 4, 15, 14] := fr5_mono (fr5_tr ff f) (by decide)
    refine hZ κ' f' (Ctp_5 f' hT) R (fun b hb => ⟨?_, ?_⟩)
    · rw [fr5_i f (by decide), v9, V1 b hb, q1]
    · obtain ⟨_, _, a, r3, r4, r5⟩ := R1
      rw [fr5_i f (by decide), v4, r4, r5 b hb]
  unfold lp_Request_readNames_19
  intro X hX
  cases hs : qn e 2 st with
  | none =>
    rw [hs] at R2 fin
    refine hX _ _ _ ?_
    unfold wq_Request_readNames_19 wq_Request_readNames_44
    have z := fin κ2 (fr5_mono (fr5_rf κ2) (by decide)) (by rw [qts_none]; exact R2)
    have r3 : κ2.1 5 3 = 0 := R2.2.1
    simp only [m1, ck, cI ax 5 (by decide), r3, true_and]
    exact ⟨fun _ => z, fun _ => ⟨fun _ => z, fun q => absurd trivial q⟩⟩
  | some b0 =>
    have hv : v = nI (tl (tp L) (at0 st)) := by rw [V1 b0 hs, q1]
    have key : ∀ (m i : Nat) (κ' : cS) (s : Option Nat), i + m = tl (tp L) (at0 st) → fr5 κ2 κ' [2, 3, 15, 14] → Ctp κ' L → RC κ' e s → qts (tp L) e m s = qts (tp L) e (tl (tp L) (at0 st)) (qn e 2 st) → X (ax + 5) (nI i) (c_em ax κ' g) := by
      intro m
      induction m with
      | zero =>
        intro i κ' s hi f T R hq
        refine hX _ _ _ ?_
        unfold wq_Request_readNames_19 wq_Request_readNames_44
        have z := fin κ' f (by rw [← hq]; exact R)
        have r9 : κ'.1 5 9 = nI (tl (tp L) (at0 st)) := by rw [fr5_i f (by decide), v9, hv]
        simp only [m1, ck, cI ax 5 (by decide), r9, true_and]
        exact ⟨fun _ => z, fun q => absurd (nI_le (by omega) (by omega)) q⟩
      | succ m ih =>
        intro i κ' s hi f T R hq
        refine hX _ _ _ ?_
        unfold wq_Request_readNames_19 wq_Request_readNames_44
        have r9 : κ'.1 5 9 = nI (tl (tp L) (at0 st)) := by rw [fr5_i f (by decide), v9, hv]
        have r3 : κ'.1 5 3 = flg s := R.2.1
        simp only [m1, ck, cI ax 5 (by decide), r9, r3, true_and]
        refine ⟨fun q => absurd q (nI_ge (by omega) (by omega)), fun _ => ⟨fun q => ?_, fun q => ?_⟩⟩
        · cases s with
          | none => exact fin κ' f (by rw [← hq, qts_none]; exact R)
          | some b => exact absurd q (by show ¬ (1 : Int32) = 0; decide)
        · refine cq_T hM hg T he R _ (fun κ3 f3 T3 R3 _ => ?_)
          rw [← nI_succ]
          exact ih (i + 1) κ3 _ (by omega) (fr5_mono (fr5_tr f f3) (by decide)) T3 R3 hq
    exact key _ 0 κ2 _ (by omega) (fr5_mono (fr5_rf κ2) (by decide)) (Ctp_5 ff hT) R2 rfl
end RQ2
