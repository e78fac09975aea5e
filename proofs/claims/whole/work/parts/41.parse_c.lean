/-! the class reads a message: data, the stat -/
def c4 (t : Nat → Int32) (a : Nat) : Nat := (val t a 4).toBitVec.toNat
theorem c4_lt {t : Nat → Int32} {a : Nat} (hB : ∀ j, isB (t j)) : c4 t a < 2 ^ 32 := by
  refine Nat.lt_pow_two_of_testBit _ (fun i hi => ?_)
  by_cases z : i < 64
  · have := val_bit (a := a) (k := 4) hB z
    rw [decide_eq_false (by omega), Bool.false_and] at this
    exact this
  · exact BitVec.getLsbD_of_ge _ i (by omega)
theorem c4_l (t : Nat → Int32) (a : Nat) : val t a 4 = lN (c4 t a) := by
  apply Int64.toBitVec_inj.mp
  show _ = BitVec.ofNat 64 _
  unfold c4
  simp
theorem c4_i {t : Nat → Int32} {a : Nat} : (val t a 4).toInt32 = nI (c4 t a) := by
  apply b_ext
  intro i hi
  rw [l_i _ hi]
  show (val t a 4).toBitVec.getLsbD i = (BitVec.ofNat 32 (c4 t a)).getLsbD i
  rw [BitVec.getLsbD_ofNat, decide_eq_true hi, Bool.true_and]
  rfl
theorem nI_neg {n : Nat} (h1 : 2 ^ 31 ≤ n) (h2 : n < 2 ^ 32) : nI n < 0 := by
  by_cases q : nI n < 0
  · exact q
  · exfalso
    obtain ⟨j, hj, e⟩ := nI_of q
    have e2 : (BitVec.ofNat 32 n).toNat = (BitVec.ofNat 32 j).toNat := congrArg (fun x : Int32 => x.toBitVec.toNat) e
    rw [BitVec.toNat_ofNat, BitVec.toNat_ofNat, Nat.mod_eq_of_lt h2, Nat.mod_eq_of_lt (by omega)] at e2
    omega
def qd (t : Nat → Int32) (e : Nat) (st : Option Nat) : Option Nat := qs e (c4 t (at0 st)) (qn e 4 st)
theorem qs_min {e l : Nat} (he : e ≤ 1400) (hl : 5000 ≤ l) (st : Option Nat) : qs e 5000 st = qs e l st := by
  cases st with
  | none => rfl
  | some a =>
    unfold qs
    simp only [Option.bind_some]
    rw [if_neg (by omega), if_neg (by omega)]
theorem val_1 {t : Nat → Int32} {a : Nat} (hB : ∀ j, isB (t j)) : (val t a 1).toInt32 = t a := by
  apply b_ext
  intro i hi
  rw [l_i _ hi, val_bit hB (by omega)]
  by_cases z : i < 8
  · rw [decide_eq_true (by omega), Bool.true_and, show i / 8 = 0 by omega, show i % 8 = i by omega]; rfl
  · rw [decide_eq_false (by omega), Bool.false_and, isB_bt (hB a) (by omega)]
theorem qn_qn (e i k : Nat) (st : Option Nat) : qn e k (qn e i st) = if (∃ a, st = some a ∧ a + i ≤ e) then qn e (i + k) st else none := by
  cases st with
  | none => rw [if_neg (fun z => by obtain ⟨a, h, _⟩ := z; cases h)]; rfl
  | some a =>
    unfold qn
    simp only [Option.bind_some]
    by_cases h : a + i ≤ e
    · rw [if_pos h, if_pos ⟨a, rfl, h⟩]
      simp only [Option.bind_some, Nat.add_assoc]
    · rw [if_neg h, if_neg (fun z => by obtain ⟨b, h1, h2⟩ := z; cases h1; exact h h2)]
      rfl
theorem qn_add (e i k : Nat) (st : Option Nat) : qn e k (qn e i st) = qn e (i + k) st := by
  rw [qn_qn]
  split
  · rfl
  · rename_i z
    cases st with
    | none => rfl
    | some a =>
      unfold qn
      simp only [Option.bind_some]
      rw [if_neg (fun y => z ⟨a, rfl, by omega⟩)]
theorem qn_at {e k b : Nat} {st : Option Nat} (h : qn e k st = some b) : b = at0 st + k ∧ st = some (at0 st) := by
  obtain ⟨h1, h2, h3⟩ := qn_some h
  have := congrArg at0 h1
  have e2 : at0 st = b - k := this
  exact ⟨by omega, by rw [e2]; exact h1⟩
theorem qn_to {e k a : Nat} (h : a + k ≤ e) : qn e k (some a) = some (a + k) := by
  unfold qn
  simp only [Option.bind_some]
  rw [if_pos h]
/-- the stat of a message -/
def st1 (e : Nat) (s : Option Nat) : Option Nat := qn e 2 s
def st2 (e : Nat) (s : Option Nat) : Option Nat := qn e 2 (st1 e s)
def st3 (e : Nat) (s : Option Nat) : Option Nat := qn e 19 (st2 e s)
def st4 (e : Nat) (s : Option Nat) : Option Nat := qn e 4 (st3 e s)
def st5 (e : Nat) (s : Option Nat) : Option Nat := qn e 4 (st4 e s)
def st6 (e : Nat) (s : Option Nat) : Option Nat := qn e 4 (st5 e s)
def st7 (e : Nat) (s : Option Nat) : Option Nat := qn e 8 (st6 e s)
def st8 (t : Nat → Int32) (e : Nat) (s : Option Nat) : Option Nat := qt t e (st7 e s)
def st9 (t : Nat → Int32) (e : Nat) (s : Option Nat) : Option Nat := qt t e (st8 t e s)
def st10 (t : Nat → Int32) (e : Nat) (s : Option Nat) : Option Nat := qt t e (st9 t e s)
def st11 (t : Nat → Int32) (e : Nat) (s : Option Nat) : Option Nat := qt t e (st10 t e s)
/-- its two lengths are right -/
def stl_ok (t : Nat → Int32) (e : Nat) (s : Option Nat) : Prop := at0 (st1 e s) + tl t (at0 s) = e ∧ tl t (at0 (st1 e s)) + 2 = tl t (at0 s)
noncomputable def qst (t : Nat → Int32) (e : Nat) (s : Option Nat) : Option Nat := @ite _ (stl_ok t e s) (Classical.propDecidable _) (st11 t e s) none
def restO (t : Nat → Int32) (e : Nat) (s : Option Nat) : Prop := (∀ j, j < 19 → t (at0 (st2 e s) + j) = 255) ∧ (val t (at0 (st4 e s)) 4).toInt32 = -1 ∧ tl t (at0 (st8 t e s)) = 0 ∧ tl t (at0 (st9 t e s)) = 0 ∧ tl t (at0 (st10 t e s)) = 0
theorem stat_some {t : Nat → Int32} {e b : Nat} {s : Option Nat} (h : st11 t e s = some b) : (∃ b, st10 t e s = some b) ∧ (∃ b, st9 t e s = some b) ∧ (∃ b, st8 t e s = some b) ∧ (∃ b, st7 e s = some b) ∧ (∃ b, st6 e s = some b) ∧ (∃ b, st5 e s = some b) ∧ (∃ b, st4 e s = some b) ∧ (∃ b, st3 e s = some b) ∧ (∃ b, st2 e s = some b) ∧ (∃ b, st1 e s = some b) := by
  have h10 := (qt_some h).1
  have h9 := (qt_some h10).1
  have h8 := (qt_some h9).1
  have h7 := (qt_some h8).1
  have h6 := (qn_some h7).1
  have h5 := (qn_some h6).1
  have h4 := (qn_some h5).1
  have h3 := (qn_some h4).1
  have h2 := (qn_some h3).1
  have h1 := (qn_some h2).1
  exact ⟨⟨_, h10⟩, ⟨_, h9⟩, ⟨_, h8⟩, ⟨_, h7⟩, ⟨_, h6⟩, ⟨_, h5⟩, ⟨_, h4⟩, ⟨_, h3⟩, ⟨_, h2⟩, ⟨_, h1⟩⟩
theorem tl_neg2 {t : Nat → Int32} {a b : Nat} (hB : ∀ j, isB (t j)) : (nI (tl t a) = nI (tl t b) - 2) ↔ tl t a + 2 = tl t b := by
  have h1 := (tl_eq (a := a) hB).2
  have h2 := (tl_eq (a := b) hB).2
  have e : ∀ x y : Nat, x < 65536 → y < 65536 → (nI x = nI y - 2 ↔ nI (x + 2) = nI y) := by
    intro x y _ _
    rw [← nI_add]
    refine ⟨fun h => by rw [h, show nI 2 = (2 : Int32) from rfl, Int32.sub_add_cancel], fun h => by rw [← h, show nI 2 = (2 : Int32) from rfl, Int32.add_sub_cancel]⟩
  rw [e _ _ h1 h2, nI_eq (by omega) (by omega)]
section RQ3
variable {ge : Nat → Nat} {ax : Nat} {g : mm_M}
theorem cq_D (hM : CM ax g) (hg : ge 0 ≤ ax) {κ : cS} {L : List Int32} (hT : Ctp κ L) {e : Nat} {st : Option Nat} (he : e ≤ L.length) (hR : RC κ e st) (Z : mm_M → Prop)
    (hZ : ∀ κ', fr5 κ κ' [2, 3, 9, 15, 14] → Ctp κ' L → RC κ' e (qd (tp L) e st) → (∀ b, qd (tp L) e st = some b → κ'.1 5 9 = nI (c4 (tp L) (at0 st)) ∧ Ctx κ' L (slc L (at0 st + 4) (c4 (tp L) (at0 st)))) → Z (c_em ax κ' g)) : wq_Request_readData ge (ax + 5) (c_em ax κ g) Z := by
  have m1 := (CM_q hM).1
  unfold wq_Request_readData wq_Request_readData_0
  refine ⟨m1, cq_N hM hg hT he hR 4 (by decide) (by decide) _ (fun κ1 v f1 T1 R1 V1 => ?_)⟩
  simp only [m1, ck, cI ax 5 (by decide), cU ax 5 (by decide), geo hg, true_and, forall_eq]
  obtain ⟨κ2, e2⟩ : ∃ κ2, κ2 = c_u (c_u (c_u κ1 5 9 v) 5 15 ((c_u κ1 5 9 v).1 5 9)) 5 14 ((c_u (c_u κ1 5 9 v) 5 15 ((c_u κ1 5 9 v).1 5 9)).1 5 2) := ⟨_, rfl⟩
  have f2 : fr5 κ1 κ2 ([9] ++ [15] ++ [14]) := by rw [e2]; exact fr5_tr (fr5_tr (fr5_u _ _ _) (fr5_u _ _ _)) (fr5_u _ _ _)
  have R2 : RC κ2 e (qn e 4 st) := by rw [e2]; exact RC_u (RC_u (RC_u R1 (by decide) (by decide) (by decide) _) (by decide) (by decide) (by decide) _) (by decide) (by decide) (by decide) _
  have v9 : κ2.1 5 9 = v := by rw [e2, cu1, if_neg (by decide), cu1, if_neg (by decide), cu1, if_pos ⟨rfl, rfl⟩]
  have v15 : κ2.1 5 15 = v := by rw [e2, cu1, if_neg (by decide), cu1, if_pos ⟨rfl, rfl⟩, cu1, if_pos ⟨rfl, rfl⟩]
  have v14 : κ2.1 5 14 = κ1.1 5 2 := by rw [e2, cu1, if_pos ⟨rfl, rfl⟩, cu1, if_neg (by decide), cu1, if_neg (by decide)]
  rw [← e2, v9]
  have hc := c4_lt (t := tp L) (a := at0 st) (tp_B hT.2.1)
  have fin : ∀ A B, RC (c_rd κ2 A B) e (qd (tp L) e st) → Z (c_em ax (c_rd κ2 A B) g) := by
    intro A B R3
    have f3 := fr5_rd κ2 A B
    have ff : fr5 κ (c_rd κ2 A B) [2, 3, 9, 15, 14] := fr5_mono (fr5_tr f1 (fr5_tr f2 f3)) (by decide)
    refine hZ _ ff (Ctp_5 ff hT) R3 (fun b hb => ?_)
    obtain ⟨w1, w2, w3⟩ := qs_some hb
    obtain ⟨w4, w5⟩ := qn_at w1
    have hs := V1 _ w1
    rw [c4_i] at hs
    have p14 : (c_rd κ2 A B).1 5 14 = nI (at0 st + 4) := by
      obtain ⟨_, _, a, r3, r4, r5⟩ := R1
      rw [fr5_i f3 (by decide), v14, r4, ← r5 _ w1, w4]
    exact ⟨by rw [fr5_i f3 (by decide), v9, hs], at0 st + 4, _, p14, by rw [fr5_i f3 (by decide), v15, hs], by omega, rfl⟩
  have he14 : e ≤ 1400 := by have := hT.2.2; omega
  by_cases big : c4 (tp L) (at0 st) < 2 ^ 31
  · refine cq_skip hM hg κ2 he14 R2 v (c4 (tp L) (at0 st)) (fun b hb => Or.inl ?_) big _ (fun A B R3 => fin A B R3)
    rw [V1 b hb, c4_i]
    exact ⟨nI_pos big, rfl⟩
  · refine cq_skip hM hg κ2 he14 R2 v 5000 (fun b hb => Or.inr ?_) (by decide) _ (fun A B R3 => fin A B (by rw [qs_min he14 (show 5000 ≤ c4 (tp L) (at0 st) by omega)] at R3; exact R3))
    rw [V1 b hb, c4_i]
    exact ⟨nI_neg (by omega) hc, by omega⟩
set_option maxHeartbeats 4000000 in
theorem cq_S (hM : CM ax g) (hg : ge 0 ≤ ax) {κ : cS} {L : List Int32} (hT : Ctp κ L) {e : Nat} {s : Option Nat} (he : e ≤ L.length) (hR : RC κ e s) (Z : mm_M → Prop)
    (hZ : ∀ κ', fr5 κ κ' [2, 3, 11, 12, 13, 14, 15, 16] → Ctp κ' L → RC κ' e (qst (tp L) e s) → (∀ b, qst (tp L) e s = some b → κ'.1 5 11 = (val (tp L) (at0 (st3 e s)) 4).toInt32 ∧ κ'.1 5 12 = (val (tp L) (at0 (st5 e s)) 4).toInt32 ∧ κ'.2.1 5 13 = val (tp L) (at0 (st6 e s)) 8 ∧ Ctx κ' L (txt L (st7 e s)) ∧ (¬ κ'.1 5 16 = 0 ↔ restO (tp L) e s)) → Z (c_em ax κ' g)) : wq_Request_readStat ge (ax + 5) (c_em ax κ g) Z := by
  have m1 := (CM_q hM).1
  have tB := tp_B hT.2.1
  have he14 : e ≤ 1400 := by have := hT.2.2; omega
  -- the ill end
  have ill : ∀ κ', fr5 κ κ' [2, 3, 11, 12, 13, 14, 15, 16] → (∃ s', RC κ' e s') → qst (tp L) e s = none → Z (c_em ax (c_u κ' 5 3 0) g) := by
    intro κ' f hr hq
    obtain ⟨s', r1, r2, a, r3, r4, r5⟩ := hr
    have f' : fr5 κ (c_u κ' 5 3 0) [2, 3, 11, 12, 13, 14, 15, 16] := fr5_mono (fr5_tr f (fr5_u κ' 3 0)) (by decide)
    refine hZ _ f' (Ctp_5 f' hT) ⟨?_, ?_, a, r3, ?_, fun b hb => ?_⟩ (fun b hb => by rw [hq] at hb; cases hb)
    · rw [cu1, if_neg (by decide)]; exact r1
    · rw [cu1, if_pos ⟨rfl, rfl⟩, hq]; rfl
    · rw [cu1, if_neg (by decide)]; exact r4
    · rw [hq] at hb; cases hb
  unfold wq_Request_readStat wq_Request_readStat_0
  refine ⟨m1, cq_N hM hg hT he hR 2 (by decide) (by decide) _ (fun κ1 v f1 T1 R1 V1 => ⟨m1, ?_⟩)⟩
  have f1' : fr5 κ κ1 [2, 3, 11, 12, 13, 14, 15, 16] := fr5_mono f1 (by decide)
  have n1 : ∀ b, qn e 2 s = some b → v = nI (tl (tp L) (at0 s)) := fun b hb => by rw [V1 b hb, (tl_eq tB).1]
  obtain ⟨r1, r2, a1, r3, r4, r5⟩ := R1
  have R1 : RC κ1 e (qn e 2 s) := ⟨r1, r2, a1, r3, r4, r5⟩
  have hs : nI e - nI a1 = nI (e - a1) := by
    have := nI_add (e - a1) a1
    rw [show e - a1 + a1 = e by omega] at this
    rw [← this, Int32.add_sub_cancel]
  unfold wq_Request_readStat_30
  simp only [m1, ck, cI ax 5 (by decide), cU ax 5 (by decide), r1, r4, hs, geo hg, true_and, forall_eq]
  refine ⟨fun q => ill κ1 f1' ⟨_, R1⟩ ?_, fun q => ?_⟩
  · unfold qst
    by_cases ok : stl_ok (tp L) e s
    · rw [if_pos ok]
      cases h11 : st11 (tp L) e s with
      | none => rfl
      | some b =>
        obtain ⟨_, _, _, _, _, _, _, _, _, ⟨b1, hb1⟩⟩ := stat_some h11
        exfalso
        apply q
        have hb1' : qn e 2 s = some b1 := hb1
        have ok1 : b1 + tl (tp L) (at0 s) = e := by have := ok.1; rw [hb1] at this; exact this
        rw [n1 b1 hb1', ← r5 b1 hb1']
        congr 1
        omega
    · rw [if_neg ok]
  · refine cq_N hM hg T1 he R1 2 (by decide) (by decide) _ (fun κ2 v2 f2 T2 R2 V2 => ?_)
    have f2' : fr5 κ κ2 [2, 3, 11, 12, 13, 14, 15, 16] := fr5_mono (fr5_tr f1 f2) (by decide)
    refine ⟨fun q2 => ?_, fun q2 => ?_⟩
    · -- the lengths are right, or the reading is ill already
      have okq : ∀ b, st11 (tp L) e s = some b → stl_ok (tp L) e s := by
        intro b h11
        obtain ⟨_, _, _, _, _, _, _, _, ⟨b2, hb2⟩, ⟨b1, hb1⟩⟩ := stat_some h11
        have hb1' : qn e 2 s = some b1 := hb1
        have hb2' : qn e 2 (qn e 2 s) = some b2 := hb2
        have z1 := n1 b1 hb1'
        have z2 : v2 = nI (tl (tp L) (at0 (qn e 2 s))) := by rw [V2 b2 hb2', (tl_eq tB).1]
        refine ⟨?_, ?_⟩
        · rw [show at0 (st1 e s) = b1 from congrArg at0 hb1]
          rw [z1, nI_eq (by have := (tl_eq (a := at0 s) tB).2; omega) (by omega)] at q
          have := r5 b1 hb1'
          omega
        · rw [z2, z1] at q2
          exact (tl_neg2 tB).mp q2
      have eqq : qst (tp L) e s = st11 (tp L) e s := by
        unfold qst
        by_cases ok : stl_ok (tp L) e s
        · rw [if_pos ok]
        · rw [if_neg ok]
          cases h11 : st11 (tp L) e s with
          | none => rfl
          | some b => exact absurd (okq b h11) ok
      rw [eqq] at hZ
      unfold lp_Request_readStat_40
      intro X hX
      have loop : ∀ (m i : Nat) (fl : Int32) (κ' : cS), i + m = 19 → (fl = 0 ∨ fl = 1) → fr5 κ κ' [2, 3] → Ctp κ' L → RC κ' e (qn e i (st2 e s)) → (∀ b, qn e i (st2 e s) = some b → (fl = 1 ↔ ∀ j, j < i → tp L (at0 (st2 e s) + j) = 255)) → X (ax + 5) fl (nI i) (c_em ax κ' g) := by
        intro m
        induction m with
        | zero =>
          intro i fl κ' hi hfl f T R hfi
          have ei : i = 19 := by omega
          subst ei
          refine hX _ _ _ _ ?_
          unfold wq_Request_readStat_40
          refine ⟨fun _ => ⟨m1, ?_⟩, fun z => absurd (nI_le (Nat.le_refl 19) (by decide)) z⟩
          refine cq_N hM hg T he R 4 (by decide) (by decide) _ (fun κ3 v3 f3 T3 R3 V3 => ?_)
          simp only [m1, ck, cU ax 5 (by decide), geo hg, true_and, forall_eq]
          have f3u := fr5_tr f3 (fr5_u κ3 11 v3)
          have R3' : RC (c_u κ3 5 11 v3) e (st4 e s) := RC_u R3 (by decide) (by decide) (by decide) _
          refine cq_N hM hg (Ctp_5 f3u T) he R3' 4 (by decide) (by decide) _ (fun κ4 v4 f4 T4 R4 V4 => ?_)
          have f4' : fr5 κ κ4 [2, 3, 11] := fr5_mono (fr5_tr f (fr5_tr f3u f4)) (by decide)
          have p11 : κ4.1 5 11 = v3 := by rw [fr5_i f4 (by decide), cu1, if_pos ⟨rfl, rfl⟩]
          have rest100 : ∀ gl : Int32, (gl = 0 ∨ gl = 1) → (∀ b, st5 e s = some b → (gl = 1 ↔ ((∀ j, j < 19 → tp L (at0 (st2 e s) + j) = 255) ∧ (val (tp L) (at0 (st4 e s)) 4).toInt32 = -1))) → wq_Request_readStat_100 ge (ax + 5) gl (c_em ax κ4 g) Z := by
            intro gl hgl hgi
            unfold wq_Request_readStat_100
            refine ⟨m1, cq_N hM hg T4 he R4 4 (by decide) (by decide) _ (fun κ5 v5 f5 T5 R5 V5 => ?_)⟩
            simp only [m1, ck, cU ax 5 (by decide), geo hg, true_and, forall_eq]
            have f5u := fr5_tr f5 (fr5_u κ5 12 v5)
            have R5' : RC (c_u κ5 5 12 v5) e (st6 e s) := RC_u R5 (by decide) (by decide) (by decide) _
            refine cq_NL hM hg (Ctp_5 f5u T4) he R5' 8 (by decide) (by decide) _ (fun κ6 v6 f6 T6 R6 V6 => ?_)
            simp only [m1, ck, cUL ax 5 (by decide), geo hg, true_and, forall_eq]
            have f6u := fr5_tr (fr5_tr f5u f6) (fr5_ul κ6 13 v6)
            have R6' : RC (c_ul κ6 5 13 v6) e (st7 e s) := R6
            refine cq_T hM hg (Ctp_5 f6u T4) he R6' _ (fun κ7 f7 T7 R7 V7 => ?_)
            have f7' : fr5 κ κ7 [2, 3, 11, 12, 13, 14, 15] := fr5_mono (fr5_tr f4' (fr5_tr f6u f7)) (by decide)
            have q11 : κ7.1 5 11 = v3 := by rw [fr5_i f7 (by decide), fr5_i f6u (by decide), p11]
            have q12 : κ7.1 5 12 = v5 := by
              rw [fr5_i f7 (by decide)]
              show κ6.1 5 12 = v5
              rw [fr5_i f6 (by decide), cu1, if_pos ⟨rfl, rfl⟩]
            have q13 : κ7.2.1 5 13 = v6 := by rw [fr5_l f7 (by decide), cul2, if_pos ⟨rfl, rfl⟩]
            simp only [m1, ck, cI ax 5 (by decide), true_and]
            unfold lp_Request_readStat_138
            intro Y hY
            have loop2 : ∀ (m i : Nat) (hl : Int32) (κ' : cS), i + m = 3 → (hl = 0 ∨ hl = 1) → fr5 κ7 κ' [2, 3, 14, 15] → Ctp κ' L → RC κ' e (qts (tp L) e i (st8 (tp L) e s)) → (∀ b, qts (tp L) e i (st8 (tp L) e s) = some b → (hl = 1 ↔ (gl = 1 ∧ ∀ j, j < i → tl (tp L) (at0 (qts (tp L) e j (st8 (tp L) e s))) = 0))) → Y (ax + 5) hl (κ7.1 5 14) (κ7.1 5 15) (nI i) (c_em ax κ' g) := by
              intro m
              induction m with
              | zero =>
                intro i hl κ' hi hhl f' T' R' hfi'
                have ei : i = 3 := by omega
                subst ei
                refine hY _ _ _ _ _ _ ?_
                unfold wq_Request_readStat_138
                refine ⟨fun _ => ?_, fun z => absurd (nI_le (Nat.le_refl 3) (by decide)) z⟩
                simp only [m1, ck, cU ax 5 (by decide), geo hg, true_and, forall_eq]
                refine ⟨hhl, ?_⟩
                obtain ⟨κ9, e9⟩ : ∃ κ9, κ9 = c_u (c_u (c_u κ' 5 14 (κ7.1 5 14)) 5 15 (κ7.1 5 15)) 5 16 hl := ⟨_, rfl⟩
                rw [← e9]
                have f9 : fr5 κ' κ9 ([14] ++ [15] ++ [16]) := by rw [e9]; exact fr5_tr (fr5_tr (fr5_u _ _ _) (fr5_u _ _ _)) (fr5_u _ _ _)
                have f9' : fr5 κ κ9 [2, 3, 11, 12, 13, 14, 15, 16] := fr5_mono (fr5_tr f7' (fr5_tr f' f9)) (by decide)
                have R9 : RC κ9 e (st11 (tp L) e s) := by rw [e9]; exact RC_u (RC_u (RC_u R' (by decide) (by decide) (by decide) _) (by decide) (by decide) (by decide) _) (by decide) (by decide) (by decide) _
                refine hZ κ9 f9' (Ctp_5 f9' hT) R9 (fun b h11 => ?_)
                obtain ⟨⟨b10, h10⟩, ⟨b9, h9⟩, ⟨b8, h8⟩, ⟨b7, h7⟩, ⟨b6, h6⟩, ⟨b5, h5⟩, ⟨b4, h4⟩, ⟨b3, h3⟩, _, _⟩ := stat_some h11
                have w14 : κ9.1 5 14 = κ7.1 5 14 := by rw [e9, cu1, if_neg (by decide), cu1, if_neg (by decide), cu1, if_pos ⟨rfl, rfl⟩]
                have w15 : κ9.1 5 15 = κ7.1 5 15 := by rw [e9, cu1, if_neg (by decide), cu1, if_pos ⟨rfl, rfl⟩]
                have w16 : κ9.1 5 16 = hl := by rw [e9, cu1, if_pos ⟨rfl, rfl⟩]
                refine ⟨?_, ?_, ?_, ?_, ?_⟩
                · rw [fr5_i f9 (by decide), fr5_i f' (by decide), q11, V3 b4 h4]; rfl
                · rw [fr5_i f9 (by decide), fr5_i f' (by decide), q12, V5 b6 h6]; rfl
                · rw [fr5_l f9 (by decide), fr5_l f' (by decide), q13, V6 b7 h7]
                · obtain ⟨a, l, x1, x2, x3, x4⟩ := (V7 b8 h8).1
                  exact ⟨a, l, w14.trans x1, w15.trans x2, x3, x4⟩
                · rw [w16]
                  have hh := hfi' b h11
                  have hg5 := hgi b5 h5
                  have h01 : (¬ hl = 0) ↔ hl = 1 := by rcases hhl with z | z <;> rw [z] <;> decide
                  rw [h01, hh, hg5]
                  unfold restO
                  refine ⟨fun z => ⟨z.1.1, z.1.2, z.2 0 (by decide), z.2 1 (by decide), z.2 2 (by decide)⟩, fun z => ⟨⟨z.1, z.2.1⟩, fun j hj => ?_⟩⟩
                  match j, hj with
                  | 0, _ => exact z.2.2.1
                  | 1, _ => exact z.2.2.2.1
                  | 2, _ => exact z.2.2.2.2
              | succ m ih =>
                intro i hl κ' hi hhl f' T' R' hfi'
                refine hY _ _ _ _ _ _ ?_
                unfold wq_Request_readStat_138 wq_Request_readStat_163 wq_Request_readStat_164
                refine ⟨fun z => absurd z (nI_ge (b := 3) (by omega) (by decide)), fun _ => ⟨m1, ?_⟩⟩
                refine cq_T hM hg T' he R' _ (fun κ8 f8 T8 R8 V8 => ?_)
                have step : ∀ (t1 : Nat → Int32) (k : Nat) (x : Option Nat), qts t1 e (k + 1) x = qt t1 e (qts t1 e k x) := by
                  intro t1 k
                  induction k with
                  | zero => intro x; rfl
                  | succ k ihk => intro x; exact ihk (qt t1 e x)
                have f8' : fr5 κ7 κ8 [2, 3, 14, 15] := fr5_mono (fr5_tr f' f8) (by decide)
                have R8' : RC κ8 e (qts (tp L) e (i + 1) (st8 (tp L) e s)) := by rw [step]; exact R8
                have back : ∀ b, qts (tp L) e (i + 1) (st8 (tp L) e s) = some b → ∃ b', qts (tp L) e i (st8 (tp L) e s) = some b' := fun b hb => by rw [step] at hb; exact ⟨_, (qt_some hb).1⟩
                have nxt : ∀ hl2 : Int32, (hl2 = 0 ∨ hl2 = 1) → (∀ b, qts (tp L) e (i + 1) (st8 (tp L) e s) = some b → (hl2 = 1 ↔ (hl = 1 ∧ tl (tp L) (at0 (qts (tp L) e i (st8 (tp L) e s))) = 0))) → Y (ax + 5) hl2 (κ7.1 5 14) (κ7.1 5 15) (nI i + 1) (c_em ax κ8 g) := by
                  intro hl2 h2 hh2
                  rw [← nI_succ]
                  refine ih (i + 1) hl2 κ8 (by omega) h2 f8' T8 R8' (fun b hb => ?_)
                  obtain ⟨b', hb'⟩ := back b hb
                  rw [hh2 b hb, hfi' b' hb']
                  refine ⟨fun z => ⟨z.1.1, fun j hj => ?_⟩, fun z => ⟨⟨z.1, fun j hj => z.2 j (by omega)⟩, z.2 i (by omega)⟩⟩
                  by_cases ej : j = i
                  · subst ej; exact z.2
                  · exact z.1.2 j (by omega)
                refine ⟨fun z => nxt 0 (Or.inl rfl) (fun b hb => ?_), fun z => ?_⟩
                · rw [z]
                  exact ⟨fun y => absurd y (by decide), fun y => absurd y.1 (by decide)⟩
                · have hl1 : hl = 1 := hhl.resolve_left z
                  simp only [m1, ck, cI ax 5 (by decide), true_and]
                  have p15 : ∀ b, qts (tp L) e (i + 1) (st8 (tp L) e s) = some b → κ8.1 5 15 = nI (tl (tp L) (at0 (qts (tp L) e i (st8 (tp L) e s)))) := fun b hb => by
                    rw [step] at hb
                    exact (V8 b hb).2.1
                  refine ⟨fun y => nxt 0 (Or.inl rfl) (fun b hb => ?_), fun y => nxt 1 (Or.inr rfl) (fun b hb => ?_)⟩
                  · rw [p15 b hb] at y
                    exact ⟨fun w => absurd w (by decide), fun w => absurd (by rw [w.2]; rfl) y⟩
                  · rw [p15 b hb, show (0 : Int32) = nI 0 from rfl, nI_eq (by have := (tl_eq (a := at0 (qts (tp L) e i (st8 (tp L) e s))) tB).2; omega) (by decide)] at y
                    exact ⟨fun _ => ⟨hl1, y⟩, fun _ => rfl⟩
            have R7' : RC κ7 e (qts (tp L) e 0 (st8 (tp L) e s)) := R7
            exact loop2 3 0 gl κ7 (by omega) hgl (fr5_mono (fr5_rf κ7) (by decide)) T7 R7' (fun b hb => ⟨fun z => ⟨z, fun j hj => absurd hj (by omega)⟩, fun z => z.1⟩)
          have b4of : ∀ b, st5 e s = some b → ∃ b', st4 e s = some b' ∧ ∃ b'', st3 e s = some b'' := fun b hb => ⟨_, (qn_some hb).1, _, (qn_some (qn_some hb).1).1⟩
          unfold wq_Request_readStat_99
          refine ⟨fun z => rest100 0 (Or.inl rfl) (fun b hb => ⟨fun y => absurd y (by decide), fun y => ?_⟩), fun z => ⟨fun z2 => rest100 0 (Or.inl rfl) (fun b hb => ⟨fun y => absurd y (by decide), fun y => ?_⟩), fun z2 => rest100 1 (Or.inr rfl) (fun b hb => ⟨fun _ => ?_, fun _ => rfl⟩)⟩⟩
          · exfalso
            apply z
            rw [V4 b hb]
            exact y.2
          · obtain ⟨_, _, b3, hb3⟩ := b4of b hb
            rw [z2] at hfi
            exact absurd ((hfi b3 hb3).mpr y.1) (by decide)
          · obtain ⟨_, _, b3, hb3⟩ := b4of b hb
            refine ⟨(hfi b3 hb3).mp (hfl.resolve_left z2), ?_⟩
            rw [V4 b hb] at z
            exact z
        | succ m ih =>
          intro i fl κ' hi hfl f T R hfi
          refine hX _ _ _ _ ?_
          unfold wq_Request_readStat_40 wq_Request_readStat_65 wq_Request_readStat_66
          refine ⟨fun z => absurd z (nI_ge (b := 19) (by omega) (by decide)), fun _ => ⟨m1, ?_⟩⟩
          refine cq_N hM hg T he R 1 (by decide) (by decide) _ (fun κ3 v3 f3 T3 R3 V3 => ?_)
          have f3' : fr5 κ κ3 [2, 3] := fr5_mono (fr5_tr f f3) (by decide)
          rw [qn_add] at R3 V3
          have back : ∀ b, qn e (i + 1) (st2 e s) = some b → ∃ b', qn e i (st2 e s) = some b' := fun b hb => by rw [← qn_add] at hb; exact ⟨_, (qn_some hb).1⟩
          have v3e : ∀ b, qn e (i + 1) (st2 e s) = some b → v3 = tp L (at0 (st2 e s) + i) := by
            intro b hb
            obtain ⟨b', hb'⟩ := back b hb
            rw [V3 b hb, val_1 tB, show at0 (qn e i (st2 e s)) = b' from congrArg at0 hb', (qn_at hb').1]
          have nxt : ∀ fl2 : Int32, (fl2 = 0 ∨ fl2 = 1) → (∀ b, qn e (i + 1) (st2 e s) = some b → (fl2 = 1 ↔ (fl = 1 ∧ tp L (at0 (st2 e s) + i) = 255))) → X (ax + 5) fl2 (nI i + 1) (c_em ax κ3 g) := by
            intro fl2 h2 hh2
            rw [← nI_succ]
            refine ih (i + 1) fl2 κ3 (by omega) h2 f3' T3 R3 (fun b hb => ?_)
            obtain ⟨b', hb'⟩ := back b hb
            rw [hh2 b hb, hfi b' hb']
            refine ⟨fun z j hj => ?_, fun z => ⟨fun j hj => z j (by omega), z i (by omega)⟩⟩
            by_cases ej : j = i
            · subst ej; exact z.2
            · exact z.1 j (by omega)
          refine ⟨fun z => nxt 0 (Or.inl rfl) (fun b hb => ⟨fun y => absurd y (by decide), fun y => absurd ((v3e b hb).trans y.2) z⟩), fun z => ⟨fun z2 => nxt 0 (Or.inl rfl) (fun b hb => ⟨fun y => absurd y (by decide), fun y => absurd (z2.symm.trans y.1) (by decide)⟩), fun z2 => nxt 1 (Or.inr rfl) (fun b hb => ⟨fun _ => ⟨hfl.resolve_left z2, (v3e b hb).symm.trans z⟩, fun _ => rfl⟩)⟩⟩
      have R2' : RC κ2 e (qn e 0 (st2 e s)) := by
        have : qn e 0 (st2 e s) = st2 e s := by
          cases h2 : st2 e s with
          | none => rfl
          | some b =>
            have := (qn_some h2).2.2
            exact qn_to (by omega)
        rw [this]
        exact R2
      exact loop 19 0 1 κ2 (by omega) (Or.inr rfl) (fr5_mono (fr5_tr f1 f2) (by decide)) T2 R2' (fun b hb => ⟨fun _ j hj => absurd hj (by omega), fun _ => rfl⟩)
    · rw [cU ax 5 (by decide)]
      refine ⟨m1, ill κ2 f2' ⟨_, R2⟩ ?_⟩
      unfold qst
      by_cases ok : stl_ok (tp L) e s
      · rw [if_pos ok]
        cases h11 : st11 (tp L) e s with
        | none => rfl
        | some b =>
          obtain ⟨_, _, _, _, _, _, _, _, ⟨b2, hb2⟩, ⟨b1, hb1⟩⟩ := stat_some h11
          exfalso
          apply q2
          have hb1' : qn e 2 s = some b1 := hb1
          have hb2' : qn e 2 (qn e 2 s) = some b2 := hb2
          rw [n1 b1 hb1', V2 b2 hb2', (tl_eq tB).1]
          exact (tl_neg2 tB).mpr ok.2
      · rw [if_neg ok]
end RQ3
