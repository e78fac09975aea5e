/-! the reference reads a message: numbers, texts, ones -/
def RD (σ : rS) (e B : Nat) (st : Option Nat) : Prop := σ.1 F_end = nI e ∧ ∃ a : Nat, σ.1 F_at = nI a ∧ a ≤ e + B ∧ ((st = some a ∧ a ≤ e ∧ σ.1 F_good = 1) ∨ (st = none ∧ σ.1 F_good = 0))
theorem RD_of {σ σ' : rS} {e B : Nat} {st : Option Nat} (h1 : σ'.1 F_end = σ.1 F_end) (h2 : σ'.1 F_at = σ.1 F_at) (h3 : σ'.1 F_good = σ.1 F_good) (H : RD σ e B st) : RD σ' e B st := by
  unfold RD
  rw [h1, h2, h3]
  exact H
theorem RD_f {σ : rS} {e B k : Nat} {st : Option Nat} (x : Int32) (h1 : ¬ k = 29) (h2 : ¬ k = 28) (h3 : ¬ k = 30) (H : RD σ e B st) : RD (r_f σ k x) e B st :=
  RD_of (by rw [rf1, if_neg (fun z => h1 z.symm)]) (by rw [rf1, if_neg (fun z => h2 z.symm)]) (by rw [rf1, if_neg (fun z => h3 z.symm)]) H
theorem RD_mono {σ : rS} {e B B' : Nat} {st : Option Nat} (h : B ≤ B') (H : RD σ e B st) : RD σ e B' st := by
  obtain ⟨h1, a, h2, h3, h4⟩ := H
  exact ⟨h1, a, h2, by omega, h4⟩
theorem RD_good {σ : rS} {e B : Nat} {st : Option Nat} (H : RD σ e B st) : (σ.1 F_good = 0 ↔ st = none) := by
  obtain ⟨h1, a, h2, h3, ⟨h4, _, h5⟩ | ⟨h4, h5⟩⟩ := H
  · rw [h5, h4]; exact ⟨fun z => absurd z (by decide), fun z => by cases z⟩
  · rw [h5, h4]; exact ⟨fun _ => rfl, fun _ => rfl⟩
theorem RD_some {σ : rS} {e B a : Nat} (H : RD σ e B (some a)) : σ.1 F_at = nI a ∧ a ≤ e := by
  obtain ⟨h1, b, h2, h3, ⟨h4, h5, _⟩ | ⟨h4, _⟩⟩ := H
  · cases h4; exact ⟨h2, h5⟩
  · cases h4
theorem RD_ill {σ : rS} {e B : Nat} {st : Option Nat} (H : RD σ e B st) : RD (r_f σ F_good 0) e B none := by
  obtain ⟨h1, a, h2, h3, _⟩ := H
  exact ⟨by rw [rf1, if_neg (by decide)]; exact h1, a, by rw [rf1, if_neg (by decide)]; exact h2, h3, Or.inr ⟨rfl, by rw [rf1, if_pos rfl]⟩⟩
section RPA
variable {ge : Nat → Nat} {am : Nat} {h : mm_M} {σ : rS} {L : List Int32} {e B : Nat} {st : Option Nat}
theorem rt_N (hM : RM am h) (hg : ge 0 ≤ am) (hta : Rta σ L) (he : e ≤ L.length) (hB : B ≤ 60) (hR : RD σ e B st) (k : Nat) (hk : 0 < k) (hk8 : k ≤ 8) (Z : Int64 → mm_M → Prop)
    (hZ : ∀ σ' v, (∀ i, ¬ i = 28 → ¬ i = 30 → σ'.1 i = σ.1 i) → σ'.2 = σ.2 → RD σ' e B (qn e k st) → (∀ b, qn e k st = some b → v = val (tp L) (at0 st) k) → Z v (r_em am σ' h)) : wq_Model_number ge am (nI k) (r_em am σ h) Z := by
  have hL := hta.2.2
  obtain ⟨h1, a, h2, h3, h4⟩ := hR
  refine rq_number' hM hg σ h2 h1 (by omega) (by omega) hk hk8 Z (hZ _ _ (fun i z1 z2 => ?_) ?_ ?_ ?_)
  · unfold r_ns
    split
    · rw [rf1, if_neg z1]
    · rw [rf1, if_neg z2]
  · unfold r_ns
    split <;> rfl
  · unfold r_ns
    by_cases c : a + k ≤ e
    · rw [if_pos c]
      refine ⟨by rw [rf1, if_neg (by decide)]; exact h1, a + k, by rw [rf1, if_pos rfl], by omega, ?_⟩
      rcases h4 with ⟨z1, z2, z3⟩ | ⟨z1, z2⟩
      · exact Or.inl ⟨by rw [z1, qn_to c], c, by rw [rf1, if_neg (by decide)]; exact z3⟩
      · exact Or.inr ⟨by rw [z1]; rfl, by rw [rf1, if_neg (by decide)]; exact z2⟩
    · rw [if_neg c]
      refine ⟨by rw [rf1, if_neg (by decide)]; exact h1, a, by rw [rf1, if_neg (by decide)]; exact h2, h3, Or.inr ⟨?_, by rw [rf1, if_pos rfl]⟩⟩
      rcases h4 with ⟨z1, z2, z3⟩ | ⟨z1, z2⟩
      · rw [z1]
        unfold qn
        simp only [Option.bind_some]
        rw [if_neg c]
      · rw [z1]; rfl
  · intro b hb
    obtain ⟨c1, c2⟩ := qn_at hb
    obtain ⟨_, _, c3⟩ := qn_some hb
    rcases h4 with ⟨z1, z2, z3⟩ | ⟨z1, z2⟩
    · have ea : at0 st = a := by rw [z1]; rfl
      unfold r_nr
      rw [if_pos (by omega), r_nm_vN, ea]
      exact vN_congr k 0 (fun j hj => hta.1 _ (by omega))
    · rw [z1] at hb; cases hb
theorem val2_l {t : Nat → Int32} {a : Nat} (hB : ∀ j, isB (t j)) : val t a 2 = lN (tl t a) := by
  obtain ⟨h1, h2⟩ := tl_eq (a := a) hB
  rw [← nI_l (by omega), ← h1]
  apply Int64.toBitVec_inj.mp
  refine BitVec.eq_of_getLsbD_eq (fun i hi => ?_)
  show bl (val t a 2) i = bl (val t a 2).toInt32.toInt64 i
  rw [i_l _ hi, val_bit hB hi]
  by_cases c : i < 32
  · rw [if_pos c, l_i _ c, val_bit hB hi]
  · rw [if_neg c, l_i _ (by decide), val_bit hB (by decide), decide_eq_false (by omega), decide_eq_false (by decide), Bool.false_and, Bool.false_and]
set_option maxHeartbeats 1000000 in
theorem rt_T (hM : RM am h) (hg : ge 0 ≤ am) (hta : Rta σ L) (he : e ≤ L.length) (hB : B ≤ 60) (hR : RD σ e B st) (Z : mm_M → Prop)
    (hZ : ∀ σ', (∀ i, ¬ i = 28 → ¬ i = 30 → ¬ i = 31 → ¬ i = 32 → σ'.1 i = σ.1 i) → σ'.2 = σ.2 → RD σ' e B (qt (tp L) e st) → (∀ b, qt (tp L) e st = some b → σ'.1 F_textAt = nI (at0 st + 2) ∧ σ'.1 F_textSize = nI (tl (tp L) (at0 st)) ∧ at0 st + 2 + tl (tp L) (at0 st) ≤ e) → Z (r_em am σ' h)) : wq_Model_text ge am (r_em am σ h) Z := by
  have hL := hta.2.2
  obtain ⟨h1, a, h2, h3, h4⟩ := hR
  refine rq_text hM hg σ h2 h1 (by omega) (by omega) Z (hZ _ ?_ ?_ ?_ ?_)
  · intro i z1 z2 z3 z4
    unfold r_tx r_ns
    dsimp only
    rw [rf1, if_neg z1]
    by_cases c : a + 2 ≤ e
    · rw [if_pos c]
      split
      · rw [rf1, if_neg z3, rf1, if_neg z4, rf1, if_neg z1]
      · rw [rf1, if_neg z2, rf1, if_neg z3, rf1, if_neg z4, rf1, if_neg z1]
    · rw [if_neg c]
      split
      · rw [rf1, if_neg z3, rf1, if_neg z4, rf1, if_neg z2]
      · rw [rf1, if_neg z2, rf1, if_neg z3, rf1, if_neg z4, rf1, if_neg z2]
  · unfold r_tx r_ns
    dsimp only
    by_cases c : a + 2 ≤ e
    · rw [if_pos c]
      split <;> rfl
    · rw [if_neg c]
      split <;> rfl
  · by_cases c : a + 2 ≤ e
    · have er : r_ns σ a e 2 = r_f σ F_at (nI (a + 2)) := by unfold r_ns; rw [if_pos c]
      have ev : r_nr σ a e 2 = val (tp L) a 2 := by
        unfold r_nr
        rw [if_pos c, r_nm_vN]
        exact vN_congr 2 0 (fun j hj => hta.1 _ (by omega))
      obtain ⟨t1, t2⟩ := tl_eq (t := tp L) (a := a) (tp_B hta.2.1)
      unfold r_tx
      dsimp only
      rw [er, ev, t1]
      obtain ⟨σ2, e2⟩ : ∃ σ2, σ2 = r_f (r_f (r_f σ F_at (nI (a + 2))) F_textSize (nI (tl (tp L) a))) F_textAt ((r_f (r_f σ F_at (nI (a + 2))) F_textSize (nI (tl (tp L) a))).1 F_at) := ⟨_, rfl⟩
      rw [← e2]
      have x1 : σ2.1 F_textSize = nI (tl (tp L) a) := by rw [e2, rf1, if_neg (by decide), rf1, if_pos rfl]
      have x2 : σ2.1 F_end = nI e := by rw [e2, rf1, if_neg (by decide), rf1, if_neg (by decide), rf1, if_neg (by decide)]; exact h1
      have x3 : σ2.1 F_at = nI (a + 2) := by rw [e2, rf1, if_neg (by decide), rf1, if_neg (by decide), rf1, if_pos rfl]
      have x4 : σ2.1 F_good = σ.1 F_good := by rw [e2, rf1, if_neg (by decide), rf1, if_neg (by decide), rf1, if_neg (by decide)]
      rw [x1, x2, x3, nI_sub c]
      by_cases c2 : tl (tp L) a ≤ e - (a + 2)
      · rw [if_pos (nI_le c2 (by omega)), x3, x4, x1]
        rcases h4 with ⟨z1, z2, z3⟩ | ⟨z1, z2⟩
        · rw [z3, if_neg (by decide), nI_add]
          refine ⟨by rw [rf1, if_neg (by decide)]; exact x2, a + 2 + tl (tp L) a, by rw [rf1, if_pos rfl], by omega, Or.inl ⟨?_, by omega, by rw [rf1, if_neg (by decide), x4]; exact z3⟩⟩
          unfold qt qs
          rw [z1, qn_to c]
          simp only [Option.bind_some]
          rw [if_pos (by show a + 2 + tl (tp L) a ≤ e; omega)]
          rfl
        · rw [z2, if_pos rfl, Int32.add_zero]
          exact ⟨by rw [rf1, if_neg (by decide)]; exact x2, a + 2, by rw [rf1, if_pos rfl], by omega, Or.inr ⟨by rw [z1]; rfl, by rw [rf1, if_neg (by decide), x4]; exact z2⟩⟩
      · rw [if_neg (fun z => c2 ((nI_leI (by omega) (by omega)).mp z))]
        have x5 : (r_f σ2 F_good 0).1 F_good = 0 := by rw [rf1, if_pos rfl]
        have x6 : (r_f σ2 F_good 0).1 F_at = nI (a + 2) := by rw [rf1, if_neg (by decide)]; exact x3
        rw [x5, x6, if_pos rfl, Int32.add_zero]
        refine ⟨by rw [rf1, if_neg (by decide), rf1, if_neg (by decide)]; exact x2, a + 2, by rw [rf1, if_pos rfl], by omega, Or.inr ⟨?_, by rw [rf1, if_neg (by decide), rf1, if_pos rfl]⟩⟩
        rcases h4 with ⟨z1, z2, z3⟩ | ⟨z1, z2⟩
        · unfold qt qs
          rw [z1, qn_to c]
          simp only [Option.bind_some]
          rw [if_neg (by show ¬ a + 2 + tl (tp L) a ≤ e; omega)]
        · rw [z1]; rfl
    · have er : r_ns σ a e 2 = r_f σ F_good 0 := by unfold r_ns; rw [if_neg c]
      unfold r_tx
      dsimp only
      rw [er]
      obtain ⟨σ2, e2⟩ : ∃ σ2, σ2 = r_f (r_f (r_f σ F_good 0) F_textSize (Int64.toInt32 (r_nr σ a e 2))) F_textAt ((r_f (r_f σ F_good 0) F_textSize (Int64.toInt32 (r_nr σ a e 2))).1 F_at) := ⟨_, rfl⟩
      rw [← e2]
      have x2 : σ2.1 F_end = nI e := by rw [e2, rf1, if_neg (by decide), rf1, if_neg (by decide), rf1, if_neg (by decide)]; exact h1
      have x3 : σ2.1 F_at = nI a := by rw [e2, rf1, if_neg (by decide), rf1, if_neg (by decide), rf1, if_neg (by decide)]; exact h2
      have x4 : σ2.1 F_good = 0 := by rw [e2, rf1, if_neg (by decide), rf1, if_neg (by decide), rf1, if_pos rfl]
      have hq : qt (tp L) e st = none := by
        rcases h4 with ⟨z1, z2, z3⟩ | ⟨z1, z2⟩
        · unfold qt qs qn
          rw [z1]
          simp only [Option.bind_some]
          rw [if_neg c]
          rfl
        · rw [z1]; rfl
      have fin : ∀ τ : rS, τ.1 F_end = nI e → τ.1 F_at = nI a → τ.1 F_good = 0 → RD (r_f τ F_at (τ.1 F_at + (if τ.1 F_good = 0 then 0 else τ.1 F_textSize))) e B (qt (tp L) e st) := by
        intro τ y1 y2 y3
        rw [y3, if_pos rfl, Int32.add_zero]
        exact ⟨by rw [rf1, if_neg (by decide)]; exact y1, a, by rw [rf1, if_pos rfl]; exact y2, h3, Or.inr ⟨hq, by rw [rf1, if_neg (by decide)]; exact y3⟩⟩
      by_cases cc : σ2.1 F_textSize ≤ σ2.1 F_end - σ2.1 F_at
      · rw [if_pos cc]
        exact fin σ2 x2 x3 x4
      · rw [if_neg cc]
        exact fin _ (by rw [rf1, if_neg (by decide)]; exact x2) (by rw [rf1, if_neg (by decide)]; exact x3) (by rw [rf1, if_pos rfl])
  · intro b hb
    obtain ⟨q1, q2, q3⟩ := qt_some hb
    rcases h4 with ⟨z1, z2, z3⟩ | ⟨z1, z2⟩
    · have ea : at0 st = a := by rw [z1]; rfl
      rw [ea] at q1 q2 ⊢
      have c : a + 2 ≤ e := by omega
      have er : r_ns σ a e 2 = r_f σ F_at (nI (a + 2)) := by unfold r_ns; rw [if_pos c]
      have ev : r_nr σ a e 2 = val (tp L) a 2 := by
        unfold r_nr
        rw [if_pos c, r_nm_vN]
        exact vN_congr 2 0 (fun j hj => hta.1 _ (by omega))
      obtain ⟨t1, t2⟩ := tl_eq (t := tp L) (a := a) (tp_B hta.2.1)
      unfold r_tx
      dsimp only
      rw [er, ev, t1]
      obtain ⟨σ2, e2⟩ : ∃ σ2, σ2 = r_f (r_f (r_f σ F_at (nI (a + 2))) F_textSize (nI (tl (tp L) a))) F_textAt ((r_f (r_f σ F_at (nI (a + 2))) F_textSize (nI (tl (tp L) a))).1 F_at) := ⟨_, rfl⟩
      rw [← e2]
      have x1 : σ2.1 F_textSize = nI (tl (tp L) a) := by rw [e2, rf1, if_neg (by decide), rf1, if_pos rfl]
      have x2 : σ2.1 F_end = nI e := by rw [e2, rf1, if_neg (by decide), rf1, if_neg (by decide), rf1, if_neg (by decide)]; exact h1
      have x3 : σ2.1 F_at = nI (a + 2) := by rw [e2, rf1, if_neg (by decide), rf1, if_neg (by decide), rf1, if_pos rfl]
      have x4 : σ2.1 F_textAt = nI (a + 2) := by rw [e2, rf1, if_pos rfl, rf1, if_neg (by decide), rf1, if_pos rfl]
      rw [x1, x2, x3, nI_sub c, if_pos (nI_le (by omega) (by omega)), x1]
      exact ⟨by rw [rf1, if_neg (by decide)]; exact x4, by rw [rf1, if_neg (by decide)]; exact x1, by omega⟩
    · rw [z1] at hb; cases hb
theorem rt_1 (hM : RM am h) (hg : ge 0 ≤ am) (hta : Rta σ L) (he : e ≤ L.length) (hB : B ≤ 60) (hR : RD σ e B st) (n : Nat) (hn : n ≤ 20) (Z : Int32 → mm_M → Prop)
    (hZ : ∀ σ' v, (v = 0 ∨ v = 1) → (∀ i, ¬ i = 28 → ¬ i = 30 → σ'.1 i = σ.1 i) → σ'.2 = σ.2 → RD σ' e (B + n) (qn e n st) → (∀ b, qn e n st = some b → (v = 1 ↔ ∀ j, j < n → tp L (at0 st + j) = 255)) → Z v (r_em am σ' h)) : wq_Model_isOnes ge am (nI n) (r_em am σ h) Z := by
  have hL := hta.2.2
  obtain ⟨h1, a, h2, h3, h4⟩ := hR
  have k1 : ∀ i, ¬ i = 28 → ¬ i = 30 → (r_1s σ a e n).1 i = σ.1 i := by
    intro i z1 z2
    unfold r_1s
    rw [rf1, if_neg z1]
    split
    · rfl
    · rw [rf1, if_neg z2]
  have k2 : (r_1s σ a e n).2 = σ.2 := by
    unfold r_1s
    split <;> rfl
  have k3 : RD (r_1s σ a e n) e (B + n) (qn e n st) := by
    unfold r_1s
    by_cases c : a + n ≤ e
    · rw [if_pos c]
      refine ⟨by rw [rf1, if_neg (by decide)]; exact h1, a + n, by rw [rf1, if_pos rfl], by omega, ?_⟩
      rcases h4 with ⟨z1, z2, z3⟩ | ⟨z1, z2⟩
      · exact Or.inl ⟨by rw [z1, qn_to c], c, by rw [rf1, if_neg (by decide)]; exact z3⟩
      · exact Or.inr ⟨by rw [z1]; rfl, by rw [rf1, if_neg (by decide)]; exact z2⟩
    · rw [if_neg c]
      refine ⟨by rw [rf1, if_neg (by decide), rf1, if_neg (by decide)]; exact h1, a + n, by rw [rf1, if_pos rfl], by omega, Or.inr ⟨?_, by rw [rf1, if_neg (by decide), rf1, if_pos rfl]⟩⟩
      rcases h4 with ⟨z1, z2, z3⟩ | ⟨z1, z2⟩
      · rw [z1]
        unfold qn
        simp only [Option.bind_some]
        rw [if_neg c]
      · rw [z1]; rfl
  have k4 : ∀ b, qn e n st = some b → (r_1p σ a e n ↔ ∀ j, j < n → tp L (at0 st + j) = 255) := by
    intro b hb
    obtain ⟨c1, c2⟩ := qn_at hb
    obtain ⟨_, _, c3⟩ := qn_some hb
    rcases h4 with ⟨z1, z2, z3⟩ | ⟨z1, z2⟩
    · have ea : at0 st = a := by rw [z1]; rfl
      rw [ea] at c1 ⊢
      unfold r_1p
      constructor
      · intro w j hj
        rw [← hta.1 _ (by omega)]
        exact w.2 j hj
      · intro w
        exact ⟨by omega, fun j hj => by rw [hta.1 _ (by omega)]; exact w j hj⟩
    · rw [z1] at hb; cases hb
  refine rq_isOnes hM hg σ h2 h1 (by omega) (by omega) hn Z (fun z => hZ _ 1 (Or.inr rfl) k1 k2 k3 (fun b hb => ⟨fun _ => (k4 b hb).mp z, fun _ => rfl⟩)) (fun z => hZ _ 0 (Or.inl rfl) k1 k2 k3 (fun b hb => ⟨fun w => absurd w (by decide), fun w => absurd ((k4 b hb).mpr w) z⟩))
theorem val4_ones {t : Nat → Int32} {a : Nat} (hB : ∀ j, isB (t j)) : ((val t a 4).toInt32 = -1) ↔ ∀ j, j < 4 → t (a + j) = 255 := by
  constructor
  · intro z j hj
    apply b_ext
    intro i hi
    rw [b_255]
    by_cases c : i < 8
    · have : bt (val t a 4).toInt32 (8 * j + i) = true := by rw [z]; exact b_m1 _ (by omega)
      rw [l_i _ (by omega), val_bit hB (by omega), decide_eq_true (by omega), Bool.true_and, show (8 * j + i) / 8 = j by omega, show (8 * j + i) % 8 = i by omega] at this
      rw [this, decide_eq_true c]
    · rw [isB_bt (hB _) (by omega), decide_eq_false c]
  · intro z
    apply b_ext
    intro i hi
    rw [l_i _ hi, val_bit hB (by omega), b_m1 i hi, decide_eq_true (by omega), Bool.true_and, z _ (by omega), b_255, decide_eq_true (by omega)]
end RPA
