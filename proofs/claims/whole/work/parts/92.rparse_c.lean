/-! the reference reads a message: by its type -/
def Rms (σ : rS) (L : List Int32) (e : Nat) (ty : Int32) : Prop :=
  (ty = 100 → σ.2.1 F_mCount = lN (c4 (tp L) 7) ∧ Rtx σ L (txt L (qn e 4 (some 7)))) ∧
  (¬ (ty = 100 ∨ ty = 102 ∨ ty = 108) → σ.1 F_mFid = (val (tp L) 7 4).toInt32) ∧
  (ty = 104 → σ.1 F_mOther = (val (tp L) (at0 (sB e ty)) 4).toInt32 ∧ Rtx σ L (txt L (qt (tp L) e (qn e 4 (sB e ty))))) ∧
  (ty = 110 → σ.1 F_mOther = (val (tp L) (at0 (sB e ty)) 4).toInt32 ∧ Rwn σ L (nms L e (tl (tp L) (at0 (qn e 4 (sB e ty)))) (qn e 2 (qn e 4 (sB e ty))))) ∧
  (ty = 112 → σ.1 F_mMode = (val (tp L) (at0 (sB e ty)) 1).toInt32) ∧
  (ty = 114 → Rtx σ L (txt L (sB e ty)) ∧ σ.1 F_mPerm = (val (tp L) (at0 (qt (tp L) e (sB e ty))) 4).toInt32 ∧ σ.1 F_mMode = (val (tp L) (at0 (qn e 4 (qt (tp L) e (sB e ty)))) 1).toInt32) ∧
  (ty = 116 → σ.2.1 F_mOffset = val (tp L) (at0 (sB e ty)) 8 ∧ σ.2.1 F_mCount = lN (c4 (tp L) (at0 (qn e 8 (sB e ty))))) ∧
  (ty = 118 → σ.2.1 F_mOffset = val (tp L) (at0 (sB e ty)) 8 ∧ σ.2.1 F_mCount = lN (c4 (tp L) (at0 (qn e 8 (sB e ty)))) ∧ σ.1 F_mData = nI (at0 (qn e 8 (sB e ty)) + 4) ∧ at0 (qn e 8 (sB e ty)) + 4 + c4 (tp L) (at0 (qn e 8 (sB e ty))) ≤ L.length) ∧
  (ty = 126 → σ.1 F_sMode = (val (tp L) (at0 (st3 e (sB e ty))) 4).toInt32 ∧ σ.1 F_sTime = (val (tp L) (at0 (st5 e (sB e ty))) 4).toInt32 ∧ σ.2.1 F_sLength = val (tp L) (at0 (st6 e (sB e ty))) 8 ∧ Rtx σ L (txt L (st7 e (sB e ty))) ∧ ((σ.1 F_sRest = 0) ↔ ¬ restO (tp L) e (sB e ty)))
theorem sB_fid {e : Nat} {ty : Int32} (h : ¬ (ty = 100 ∨ ty = 102 ∨ ty = 108)) : sB e ty = qn e 4 (some 7) := if_neg h
theorem bd2_at (t : Nat → Int32) (e : Nat) (s : Option Nat) : bd2 t e 100 s = qt t e (qn e 4 s) ∧ bd2 t e 102 s = qt t e (qt t e (qn e 4 s)) ∧ bd2 t e 104 s = qt t e (qt t e (qn e 4 s)) ∧ bd2 t e 108 s = qn e 2 s ∧ bd2 t e 110 s = qts t e (tl t (at0 (qn e 4 s))) (qn e 2 (qn e 4 s)) ∧ bd2 t e 112 s = qn e 1 s ∧ bd2 t e 114 s = qn e 1 (qn e 4 (qt t e s)) ∧ bd2 t e 116 s = qn e 4 (qn e 8 s) ∧ bd2 t e 118 s = qd t e (qn e 8 s) ∧ bd2 t e 120 s = s ∧ bd2 t e 122 s = s ∧ bd2 t e 124 s = s ∧ bd2 t e 126 s = qst t e s := by
  unfold bd2
  refine ⟨rfl, rfl, rfl, rfl, rfl, rfl, rfl, rfl, rfl, rfl, rfl, rfl, rfl⟩
theorem bd2_no {t : Nat → Int32} {e : Nat} {s : Option Nat} {ty : Int32} (h : ¬ known ty) : bd2 t e ty s = none := by
  unfold known at h
  unfold bd2
  rw [if_neg (fun z => h (by simp [z])), if_neg (fun z => h (by simp [z])), if_neg (fun z => h (by simp [z])), if_neg (fun z => h (by simp [z])), if_neg (fun z => h (by simp [z])), if_neg (fun z => h (by simp [z])), if_neg (fun z => h (by simp [z])), if_neg (fun z => h (by simp [z])), if_neg (fun z => h (by simp [z])), if_neg (fun z => h (by simp [z])), if_neg (fun z => h (by simp [z])), if_neg (fun z => h (by simp [z])), if_neg (fun z => h (by simp [z]))]
section RPC
variable {ge : Nat → Nat} {am : Nat} {h : mm_M} {σ : rS} {L : List Int32} {e : Nat}
set_option maxHeartbeats 8000000 in
theorem rt_reads (hM : RM am h) (hg : ge 0 ≤ am) (hta : Rta σ L) (he : e ≤ L.length) (hR : RD σ e 0 (some 7)) (ty : Int32) (Z : mm_M → Prop)
    (hZ : ∀ σ', (∀ i, (i < 28 ∨ 52 ≤ i) → σ'.1 i = σ.1 i) → (∀ o i, ¬ o = O_wAt → ¬ o = O_wSize → σ'.2.2 o i = σ.2.2 o i) → RD σ' e 60 (bd2 (tp L) e ty (sB e ty)) → (∀ b, bd2 (tp L) e ty (sB e ty) = some b → Rms σ' L e ty) → Z (r_em am σ' h)) : wq_Model_reads ge am ty (r_em am σ h) Z := by
  have hs := hM
  unfold RM at hs
  have hL := hta.2.2
  have tB := tp_B hta.2.1
  have ab : ∀ {p q : Prop}, ¬ p → p → q := fun a b => absurd b a
  unfold wq_Model_reads wq_Model_reads_0
  -- a message with a fid: up to what comes behind it
  have fidN : ∀ (K : mm_M → Prop), (∀ σ1 : rS, (∀ i, ¬ i = 28 → ¬ i = 30 → ¬ i = 33 → σ1.1 i = σ.1 i) → σ1.2 = σ.2 → RD σ1 e 0 (qn e 4 (some 7)) → (∀ b, qn e 4 (some 7) = some b → σ1.1 33 = (val (tp L) 7 4).toInt32) → K (r_em am σ1 h)) → (mm_k (r_em am σ h) am = kd_Model ∧ wq_Model_number ge am 4 (r_em am σ h) (fun r3 h2 => mm_k h2 am = kd_Model ∧ ge 0 ≤ am ∧ ∀ h6 : mm_M, h6 = mm_uI h2 am 33 (Int64.toInt32 r3) → K h6)) := by
    intro K hK
    simp only [hs, rk, true_and]
    refine rt_N hM hg hta he (by decide) hR 4 (by decide) (by decide) _ (fun σ1 v1 a1 b1 R1 V1 => ?_)
    simp only [hs, rk, rU0, hg, true_and, forall_eq]
    refine hK _ (fun i z1 z2 z3 => by rw [rf1, if_neg z3]; exact a1 i z1 z2) b1 (RD_f _ (by decide) (by decide) (by decide) R1) (fun b hb => by rw [rf1, if_pos rfl, V1 b hb]; rfl)
  have f507 : ∀ ty' : Int32, ty = ty' → (ty' = 120 ∨ ty' = 122 ∨ ty' = 124) → wq_Model_reads_507 ge am (r_em am σ h) Z := by
    intro ty' e1 e2
    subst e1
    have nf : ¬ (ty = 100 ∨ ty = 102 ∨ ty = 108) := by rcases e2 with rfl | rfl | rfl <;> decide
    have hb2 : bd2 (tp L) e ty (sB e ty) = qn e 4 (some 7) := by
      rw [sB_fid nf]
      rcases e2 with rfl | rfl | rfl
      · exact (bd2_at _ _ _).2.2.2.2.2.2.2.2.2.1
      · exact (bd2_at _ _ _).2.2.2.2.2.2.2.2.2.2.1
      · exact (bd2_at _ _ _).2.2.2.2.2.2.2.2.2.2.2.1
    unfold wq_Model_reads_507 wq_Model_reads_542
    refine fidN _ (fun σ1 a1 b1 R1 V1 => hZ σ1 (fun i hi => a1 i (by omega) (by omega) (by omega)) (fun o i _ _ => by rw [b1]) (by rw [hb2]; exact RD_mono (by decide) R1) (fun b hb => ?_))
    rw [hb2] at hb
    have no : ∀ k : Int32, ¬ k = 120 → ¬ k = 122 → ¬ k = 124 → ¬ ty = k := fun k z1 z2 z3 z => by rw [z] at e2; rcases e2 with w | w | w; exact z1 w; exact z2 w; exact z3 w
    exact ⟨ab (no 100 (by decide) (by decide) (by decide)), fun _ => V1 b hb, ab (no 104 (by decide) (by decide) (by decide)), ab (no 110 (by decide) (by decide) (by decide)), ab (no 112 (by decide) (by decide) (by decide)), ab (no 114 (by decide) (by decide) (by decide)), ab (no 116 (by decide) (by decide) (by decide)), ab (no 118 (by decide) (by decide) (by decide)), ab (no 126 (by decide) (by decide) (by decide))⟩
  have f410 : ∀ ty' : Int32, ty = ty' → (ty' = 116 ∨ ty' = 118) → wq_Model_reads_410 ge am ty' (r_em am σ h) Z := by
    intro ty' e1 e2
    subst e1
    have nf : ¬ (ty = 100 ∨ ty = 102 ∨ ty = 108) := by rcases e2 with rfl | rfl <;> decide
    have hsB := sB_fid (e := e) nf
    unfold wq_Model_reads_410 wq_Model_reads_542
    refine fidN _ (fun σ1 a1 b1 R1 V1 => ?_)
    simp only [hs, rk, true_and]
    refine rt_N hM hg (Rta_2 b1 hta) he (by decide) R1 8 (by decide) (by decide) _ (fun σ2 v2 a2 b2 R2 V2 => ?_)
    simp only [hs, rk, rUL, hg, true_and, forall_eq]
    have R2' : RD (r_l σ2 43 v2) e 0 (qn e 8 (qn e 4 (some 7))) := R2
    have T2' : Rta σ2 L := Rta_2 b2 (Rta_2 b1 hta)
    have T2 : Rta (r_l σ2 43 v2) L := T2'
    refine rt_N hM hg T2 he (by decide) R2' 4 (by decide) (by decide) _ (fun σ3 v3 a3 b3 R3 V3 => ?_)
    simp only [hs, rk, rUL, hg, true_and, forall_eq]
    have V3' : ∀ b, qn e 4 (qn e 8 (qn e 4 (some 7))) = some b → v3 = lN (c4 (tp L) (at0 (qn e 8 (qn e 4 (some 7))))) := fun b hb => by rw [V3 b hb, c4_l]
    obtain ⟨σ4, e4⟩ : ∃ σ4, σ4 = r_l σ3 44 v3 := ⟨_, rfl⟩
    rw [← e4]
    have l43 : σ4.2.1 43 = v2 := by rw [e4, rll, if_neg (by decide), b3, rll, if_pos rfl]
    have l44 : σ4.2.1 44 = v3 := by rw [e4, rll, if_pos rfl]
    have R4 : RD σ4 e 0 (qn e 4 (qn e 8 (qn e 4 (some 7)))) := by rw [e4]; exact R3
    have i4 : ∀ i, ¬ i = 28 → ¬ i = 30 → σ4.1 i = σ1.1 i := fun i z1 z2 => by
      have : σ4.1 = σ3.1 := by rw [e4]; rfl
      rw [this, a3 i z1 z2]
      exact a2 i z1 z2
    have arr : σ4.2.2 = σ.2.2 := by
      have h1 : σ4.2.2 = σ3.2.2 := by rw [e4]; rfl
      have h2 : σ3.2.2 = σ2.2.2 := by rw [b3]; rfl
      rw [h1, h2, b2, b1]
    have fr : ∀ i, (i < 28 ∨ 52 ≤ i) → σ4.1 i = σ.1 i := fun i hi => (i4 i (by omega) (by omega)).trans (a1 i (by omega) (by omega) (by omega))
    refine ⟨fun n116 => ?_, fun c => ?_⟩
    · -- 118
      have c : ty = 118 := e2.resolve_left n116
      have hb2 : bd2 (tp L) e ty (sB e ty) = qd (tp L) e (qn e 8 (qn e 4 (some 7))) := by rw [hsB, c]; exact (bd2_at _ _ _).2.2.2.2.2.2.2.2.1
      simp only [hs, rk, rI0, rU0, hg, true_and, forall_eq]
      obtain ⟨σ5, e5⟩ : ∃ σ5, σ5 = r_f σ4 42 (σ4.1 28) := ⟨_, rfl⟩
      rw [← e5]
      have R5 : RD σ5 e 0 (qn e 4 (qn e 8 (qn e 4 (some 7)))) := by rw [e5]; exact RD_f _ (by decide) (by decide) (by decide) R4
      have i5 : ∀ i, ¬ i = 28 → ¬ i = 30 → ¬ i = 42 → σ5.1 i = σ1.1 i := fun i z1 z2 z3 => by rw [e5, rf1, if_neg z3]; exact i4 i z1 z2
      have l5 : σ5.2 = σ4.2 := by rw [e5]; rfl
      have d5 : σ5.1 42 = σ5.1 28 := by rw [e5, rf1, if_pos rfl, rf1, if_neg (by decide)]
      have f479 : ∀ τ : rS, (∀ i, ¬ i = 30 → τ.1 i = σ5.1 i) → τ.2 = σ5.2 → RD τ e 0 (cif (∃ b, qd (tp L) e (qn e 8 (qn e 4 (some 7))) = some b) (qn e 4 (qn e 8 (qn e 4 (some 7)))) none) → wq_Model_reads_479 ge am (r_em am τ h) Z := by
        intro τ t1 t2 t3
        have t44 : τ.2.1 44 = v3 := by rw [t2, l5]; exact l44
        have fin : ∀ τ' : rS, (∀ i, ¬ i = 28 → ¬ i = 30 → τ'.1 i = σ5.1 i) → τ'.2 = σ5.2 → RD τ' e 0 (qd (tp L) e (qn e 8 (qn e 4 (some 7)))) → Z (r_em am τ' h) := by
          intro τ' u1 u2 u3
          refine hZ τ' (fun i hi => by rw [u1 i (by omega) (by omega), i5 i (by omega) (by omega) (by omega)]; exact a1 i (by omega) (by omega) (by omega)) (fun o i _ _ => by rw [u2, l5, arr]) (by rw [hb2]; exact RD_mono (by decide) u3) (fun b hb => ?_)
          rw [hb2] at hb
          have hq4 := (qs_some hb).1
          obtain ⟨g1, g2⟩ := qn_at hq4
          have hle := (qs_some hb).2
          obtain ⟨g3, g4⟩ := qn_at g2
          have R5' := R5
          rw [hq4] at R5'
          obtain ⟨y1, y2⟩ := RD_some R5'
          have y1 : σ5.1 28 = nI (b - c4 (tp L) (at0 (qn e 8 (qn e 4 (some 7))))) := y1
          rw [c]
          refine ⟨ab (by decide), fun _ => ?_, ab (by decide), ab (by decide), ab (by decide), ab (by decide), ab (by decide), fun _ => ?_, ab (by decide)⟩
          · show τ'.1 33 = _
            rw [u1 33 (by decide) (by decide), i5 33 (by decide) (by decide) (by decide)]
            exact V1 _ g4
          · have s8 : sB e 118 = qn e 4 (some 7) := by rw [← c]; exact hsB
            rw [s8]
            refine ⟨?_, ?_, ?_, by omega⟩
            · show τ'.2.1 43 = _
              rw [u2, l5, l43]
              exact V2 _ g2
            · show τ'.2.1 44 = _
              rw [u2, l5, l44]
              exact V3' _ hq4
            · show τ'.1 42 = _
              rw [u1 42 (by decide) (by decide), d5, y1]
              congr 1
        unfold wq_Model_reads_479 wq_Model_reads_500 wq_Model_reads_542
        simp only [hs, rk, rI0, rL0, rU0, t44, hg, true_and, Option.some.injEq, exists_eq_left', forall_eq]
        refine ⟨fun z => ?_, fun z => ?_⟩
        · have hno := (RD_good t3).mp z
          have hq0 : qd (tp L) e (qn e 8 (qn e 4 (some 7))) = none := by
            cases hq : qd (tp L) e (qn e 8 (qn e 4 (some 7))) with
            | none => rfl
            | some b =>
              rw [cif_y ⟨b, hq⟩] at hno
              have := (qs_some hq).1
              rw [hno] at this
              cases this
          rw [Int32.add_zero]
          refine fin _ (fun i z1 z2 => by rw [rf1, if_neg z1]; exact t1 i z2) t2 ?_
          rw [hq0]
          rw [hno] at t3
          obtain ⟨y1, y2, y3, y4, y5⟩ := t3
          rcases y5 with ⟨w, _⟩ | ⟨_, w⟩
          · cases w
          · exact ⟨by rw [rf1, if_neg (by decide)]; exact y1, y2, by rw [rf1, if_pos rfl]; exact y3, y4, Or.inr ⟨rfl, by rw [rf1, if_neg (by decide)]; exact w⟩⟩
        · have hyes : ¬ cif (∃ b, qd (tp L) e (qn e 8 (qn e 4 (some 7))) = some b) (qn e 4 (qn e 8 (qn e 4 (some 7)))) none = none := fun w => z ((RD_good t3).mpr w)
          have hex : ∃ b, qd (tp L) e (qn e 8 (qn e 4 (some 7))) = some b := Classical.byContradiction (fun w => hyes (cif_n w))
          rw [cif_y hex] at t3
          obtain ⟨b, hb⟩ := hex
          have hq4 := (qs_some hb).1
          have hle := (qs_some hb).2
          rw [hq4] at t3
          obtain ⟨y1, y2, y3, y4, y5⟩ := t3
          rcases y5 with ⟨w1, w2, w3⟩ | ⟨w, _⟩
          · cases w1
            rw [y3, V3' _ hq4, lN_i, nI_add]
            refine fin _ (fun i z1 z2 => by rw [rf1, if_neg z1]; exact t1 i z2) t2 ?_
            rw [hb]
            exact ⟨by rw [rf1, if_neg (by decide)]; exact y1, b, by rw [rf1, if_pos rfl]; congr 1; omega, by omega, Or.inl ⟨rfl, by omega, by rw [rf1, if_neg (by decide)]; exact w3⟩⟩
          · cases w
      have l5' : σ5.2.1 44 = v3 := by rw [l5]; exact l44
      have en5 : σ5.1 29 = nI e := R5.1
      simp only [hs, rk, rI0, rL0, rU0, l5', hg, lg_cmp_le, true_and, forall_eq]
      -- is the count too long
      have dec : ∀ b4, qn e 4 (qn e 8 (qn e 4 (some 7))) = some b4 → ((v3 ≤ (σ5.1 29 - σ5.1 28).toInt64) ↔ ∃ b, qd (tp L) e (qn e 8 (qn e 4 (some 7))) = some b) := by
        intro b4 h4
        rw [h4] at R5
        obtain ⟨y1, y2⟩ := RD_some R5
        have y1 : σ5.1 28 = nI b4 := y1
        have c4l := c4_lt (t := tp L) (a := at0 (qn e 8 (qn e 4 (some 7)))) tB
        rw [V3' _ h4, en5, y1, nI_sub y2, nI_l (by omega), ← Int64.not_lt, lN_lt' (by omega) (by omega)]
        unfold qd qs
        rw [h4]
        simp only [Option.bind_some]
        by_cases cc : b4 + c4 (tp L) (at0 (qn e 8 (qn e 4 (some 7)))) ≤ e
        · rw [if_pos cc]
          exact ⟨fun _ => ⟨_, rfl⟩, fun _ => by omega⟩
        · rw [if_neg cc]
          exact ⟨fun w => absurd w (by omega), fun w => by obtain ⟨b, hb⟩ := w; cases hb⟩
      have noq : qn e 4 (qn e 8 (qn e 4 (some 7))) = none → ¬ ∃ b, qd (tp L) e (qn e 8 (qn e 4 (some 7))) = some b := by
        intro h4 w
        obtain ⟨b, hb⟩ := w
        have := (qs_some hb).1
        rw [h4] at this
        cases this
      refine ⟨fun z => f479 σ5 (fun _ _ => rfl) rfl ?_, fun z => f479 _ (fun i hi => by rw [rf1, if_neg hi]) rfl ?_⟩
      · cases h4 : qn e 4 (qn e 8 (qn e 4 (some 7))) with
        | none =>
          rw [cif_n (noq h4)]
          rw [h4] at R5
          exact R5
        | some b4 =>
          rw [cif_y ((dec b4 h4).mp z), ← h4]
          exact R5
      · have hn : ¬ ∃ b, qd (tp L) e (qn e 8 (qn e 4 (some 7))) = some b := by
          cases h4 : qn e 4 (qn e 8 (qn e 4 (some 7))) with
          | none => exact noq h4
          | some b4 => exact fun w => z ((dec b4 h4).mpr w)
        rw [cif_n hn]
        exact RD_ill R5
    · -- 116
      have hb2 : bd2 (tp L) e ty (sB e ty) = qn e 4 (qn e 8 (qn e 4 (some 7))) := by rw [hsB, c]; exact (bd2_at _ _ _).2.2.2.2.2.2.2.1
      refine hZ σ4 fr (fun o i _ _ => by rw [arr]) (by rw [hb2]; exact RD_mono (by decide) R4) (fun b hb => ?_)
      rw [hb2] at hb
      obtain ⟨_, g2⟩ := qn_at hb
      obtain ⟨_, g4⟩ := qn_at g2
      rw [c]
      refine ⟨ab (by decide), fun _ => ?_, ab (by decide), ab (by decide), ab (by decide), ab (by decide), fun _ => ?_, ab (by decide), ab (by decide)⟩
      · show σ4.1 33 = _
        rw [i4 33 (by decide) (by decide)]
        exact V1 _ g4
      · have s8 : sB e 116 = qn e 4 (some 7) := by rw [← c]; exact hsB
        rw [s8]
        exact ⟨l43.trans (V2 _ g2), l44.trans (V3' _ hb)⟩
  refine ⟨fun c => ?_, fun c => ?_, fun c => ?_, fun c => ?_, fun c => ?_, fun c => ?_, fun c => ?_, fun c => f410 116 c (Or.inl rfl) |> fun w => by rw [c]; exact w, fun c => f410 118 c (Or.inr rfl) |> fun w => by rw [c]; exact w, fun c => f507 120 c (Or.inl rfl), fun c => f507 122 c (Or.inr (Or.inl rfl)), fun c => f507 124 c (Or.inr (Or.inr rfl)), fun c => ?_, fun c => ?_⟩
  · -- 100
    subst c
    have hb2 : bd2 (tp L) e 100 (sB e 100) = qt (tp L) e (qn e 4 (some 7)) := (bd2_at _ _ _).1
    unfold wq_Model_reads_542
    simp only [hs, rk, true_and]
    refine rt_N hM hg hta he (by decide) hR 4 (by decide) (by decide) _ (fun σ1 v1 a1 b1 R1 V1 => ?_)
    simp only [hs, rk, rUL, hg, true_and, forall_eq]
    have R1' : RD (r_l σ1 44 v1) e 0 (qn e 4 (some 7)) := R1
    have T1' : Rta σ1 L := Rta_2 b1 hta
    have T1 : Rta (r_l σ1 44 v1) L := T1'
    refine rt_T hM hg T1 he (by decide) R1' _ (fun σ2 a2 b2 R2 V2 => ?_)
    simp only [hs, rk, rI0, rU0, hg, true_and, forall_eq]
    have f2 : (r_f σ2 38 (σ2.1 31)).1 32 = σ2.1 32 := by rw [rf1, if_neg (by decide)]
    rw [f2]
    refine hZ _ (fun i hi => ?_) (fun o i _ _ => ?_) (by rw [hb2]; exact RD_mono (by decide) (RD_f _ (by decide) (by decide) (by decide) (RD_f _ (by decide) (by decide) (by decide) R2))) (fun b hb => ?_)
    · rw [rf1, if_neg (by omega), rf1, if_neg (by omega), a2 i (by omega) (by omega) (by omega) (by omega)]
      exact a1 i (by omega) (by omega)
    · show σ2.2.2 o i = _
      rw [b2]
      show σ1.2.2 o i = _
      rw [b1]
    · rw [hb2] at hb
      obtain ⟨g1, g2, g3⟩ := qt_some hb
      obtain ⟨x1, x2, x3⟩ := V2 b hb
      refine ⟨fun _ => ⟨?_, at0 (qn e 4 (some 7)) + 2, tl (tp L) (at0 (qn e 4 (some 7))), ?_, ?_, by omega, rfl⟩, fun w => absurd (Or.inl rfl) w, ab (by decide), ab (by decide), ab (by decide), ab (by decide), ab (by decide), ab (by decide), ab (by decide)⟩
      · show σ2.2.1 44 = _
        rw [b2, rll, if_pos rfl, V1 _ g1, c4_l]
        rfl
      · rw [rf1, if_neg (by decide), rf1, if_pos rfl]; exact x1
      · rw [rf1, if_pos rfl]; exact x2
  · -- 102
    subst c
    have hb2 : bd2 (tp L) e 102 (sB e 102) = qt (tp L) e (qt (tp L) e (qn e 4 (some 7))) := (bd2_at _ _ _).2.1
    unfold wq_Model_reads_542
    refine fidN _ (fun σ1 a1 b1 R1 V1 => ?_)
    simp only [hs, rk, true_and]
    refine rt_T hM hg (Rta_2 b1 hta) he (by decide) R1 _ (fun σ2 a2 b2 R2 V2 => ?_)
    simp only [hs, rk, true_and]
    refine rt_T hM hg (Rta_2 b2 (Rta_2 b1 hta)) he (by decide) R2 _ (fun σ3 a3 b3 R3 V3 => ?_)
    refine hZ _ (fun i hi => ?_) (fun o i _ _ => by rw [b3, b2, b1]) (by rw [hb2]; exact RD_mono (by decide) R3) (fun b hb => ?_)
    · rw [a3 i (by omega) (by omega) (by omega) (by omega), a2 i (by omega) (by omega) (by omega) (by omega)]
      exact a1 i (by omega) (by omega) (by omega)
    · exact ⟨ab (by decide), fun w => absurd (Or.inr (Or.inl rfl)) w, ab (by decide), ab (by decide), ab (by decide), ab (by decide), ab (by decide), ab (by decide), ab (by decide)⟩
  · -- 104
    subst c
    have hsB : sB e 104 = qn e 4 (some 7) := sB_fid (by decide)
    have hb2 : bd2 (tp L) e 104 (sB e 104) = qt (tp L) e (qt (tp L) e (qn e 4 (qn e 4 (some 7)))) := by rw [hsB]; exact (bd2_at _ _ _).2.2.1
    unfold wq_Model_reads_542
    refine fidN _ (fun σ1 a1 b1 R1 V1 => ?_)
    simp only [hs, rk, true_and]
    refine rt_N hM hg (Rta_2 b1 hta) he (by decide) R1 4 (by decide) (by decide) _ (fun σ2 v2 a2 b2 R2 V2 => ?_)
    simp only [hs, rk, rU0, hg, true_and, forall_eq]
    have T2 : Rta (r_f σ2 34 v2.toInt32) L := Rta_f _ _ (Rta_2 b2 (Rta_2 b1 hta))
    refine rt_T hM hg T2 he (by decide) (RD_f _ (by decide) (by decide) (by decide) R2) _ (fun σ3 a3 b3 R3 V3 => ?_)
    simp only [hs, rk, true_and]
    refine rt_T hM hg (Rta_2 b3 T2) he (by decide) R3 _ (fun σ4 a4 b4 R4 V4 => ?_)
    simp only [hs, rk, rI0, rU0, hg, true_and, forall_eq]
    have f4 : (r_f σ4 38 (σ4.1 31)).1 32 = σ4.1 32 := by rw [rf1, if_neg (by decide)]
    rw [f4]
    refine hZ _ (fun i hi => ?_) (fun o i _ _ => ?_) (by rw [hb2]; exact RD_mono (by decide) (RD_f _ (by decide) (by decide) (by decide) (RD_f _ (by decide) (by decide) (by decide) R4))) (fun b hb => ?_)
    · rw [rf1, if_neg (by omega), rf1, if_neg (by omega), a4 i (by omega) (by omega) (by omega) (by omega), a3 i (by omega) (by omega) (by omega) (by omega), rf1, if_neg (by omega), a2 i (by omega) (by omega)]
      exact a1 i (by omega) (by omega) (by omega)
    · show σ4.2.2 o i = _
      rw [b4, b3]
      show σ2.2.2 o i = _
      rw [b2, b1]
    · rw [hb2] at hb
      obtain ⟨g1, g2, g3⟩ := qt_some hb
      obtain ⟨g4, _, _⟩ := qt_some g1
      obtain ⟨_, g6⟩ := qn_at g4
      obtain ⟨x1, x2, x3⟩ := V4 b hb
      refine ⟨ab (by decide), fun _ => ?_, fun _ => ⟨?_, ?_⟩, ab (by decide), ab (by decide), ab (by decide), ab (by decide), ab (by decide), ab (by decide)⟩
      · rw [rf1, if_neg (by decide), rf1, if_neg (by decide), a4 _ (by decide) (by decide) (by decide) (by decide), a3 _ (by decide) (by decide) (by decide) (by decide), rf1, if_neg (by decide), a2 _ (by decide) (by decide)]
        exact V1 _ g6
      · rw [hsB, rf1, if_neg (by decide), rf1, if_neg (by decide), a4 _ (by decide) (by decide) (by decide) (by decide), a3 _ (by decide) (by decide) (by decide) (by decide), rf1, if_pos rfl, V2 _ g4]
      · rw [hsB]
        refine ⟨_, _, ?_, ?_, ?_, rfl⟩
        · rw [rf1, if_neg (by decide), rf1, if_pos rfl]; exact x1
        · rw [rf1, if_pos rfl]; exact x2
        · omega
  · -- 108
    subst c
    have hb2 : bd2 (tp L) e 108 (sB e 108) = qn e 2 (some 7) := (bd2_at _ _ _).2.2.2.1
    unfold wq_Model_reads_542
    simp only [hs, rk, true_and]
    refine rt_N hM hg hta he (by decide) hR 2 (by decide) (by decide) _ (fun σ1 v1 a1 b1 R1 V1 => ?_)
    simp only [hs, rk, rU0, hg, true_and, forall_eq]
    refine hZ _ (fun i hi => by rw [rf1, if_neg (by omega)]; exact a1 i (by omega) (by omega)) (fun o i _ _ => by show σ1.2.2 o i = _; rw [b1]) (by rw [hb2]; exact RD_mono (by decide) (RD_f _ (by decide) (by decide) (by decide) R1)) (fun b hb => ?_)
    exact ⟨ab (by decide), fun w => absurd (Or.inr (Or.inr rfl)) w, ab (by decide), ab (by decide), ab (by decide), ab (by decide), ab (by decide), ab (by decide), ab (by decide)⟩
  · -- 110
    subst c
    have hsB : sB e 110 = qn e 4 (some 7) := sB_fid (by decide)
    have hb2 : bd2 (tp L) e 110 (sB e 110) = qts (tp L) e (tl (tp L) (at0 (qn e 4 (qn e 4 (some 7))))) (qn e 2 (qn e 4 (qn e 4 (some 7)))) := by rw [hsB]; exact (bd2_at _ _ _).2.2.2.2.1
    refine fidN _ (fun σ1 a1 b1 R1 V1 => ?_)
    simp only [hs, rk, true_and]
    refine rt_N hM hg (Rta_2 b1 hta) he (by decide) R1 4 (by decide) (by decide) _ (fun σ2 v2 a2 b2 R2 V2 => ?_)
    simp only [hs, rk, rU0, hg, true_and, forall_eq]
    have T2 : Rta (r_f σ2 34 v2.toInt32) L := Rta_f _ _ (Rta_2 b2 (Rta_2 b1 hta))
    refine rt_N hM hg T2 he (by decide) (RD_f _ (by decide) (by decide) (by decide) R2) 2 (by decide) (by decide) _ (fun σ3 v3 a3 b3 R3 V3 => ?_)
    simp only [hs, rk, rU0, hg, true_and, forall_eq]
    have T3 : Rta (r_f σ3 37 v3.toInt32) L := Rta_f _ _ (Rta_2 b3 T2)
    have R3' : RD (r_f σ3 37 v3.toInt32) e 0 (qn e 2 (qn e 4 (qn e 4 (some 7)))) := RD_f _ (by decide) (by decide) (by decide) R3
    cases h3 : qn e 2 (qn e 4 (qn e 4 (some 7))) with
    | none =>
      -- the names are not read
      have hq0 : bd2 (tp L) e 110 (sB e 110) = none := by rw [hb2, h3]; exact qts_none _ _ _
      rw [h3] at R3'
      have g0 : (r_f σ3 37 v3.toInt32).1 30 = 0 := (RD_good R3').mpr rfl
      unfold lp_Model_reads_269
      intro X hX
      refine hX _ _ _ ?_
      unfold wq_Model_reads_269 wq_Model_reads_331 wq_Model_reads_542
      simp only [hs, rk, rI0, true_and]
      have fin : Z (r_em am (r_f σ3 37 v3.toInt32) h) := by
        refine hZ _ (fun i hi => ?_) (fun o i _ _ => ?_) (by rw [hq0]; exact RD_mono (by decide) R3') (fun b hb => by rw [hq0] at hb; cases hb)
        · rw [rf1, if_neg (by omega), a3 i (by omega) (by omega), rf1, if_neg (by omega), a2 i (by omega) (by omega)]
          exact a1 i (by omega) (by omega) (by omega)
        · show σ3.2.2 o i = _
          rw [b3]
          show σ2.2.2 o i = _
          rw [b2, b1]
      exact ⟨fun _ => fin, fun _ => ⟨fun _ => fin, fun w => absurd g0 w⟩⟩
    | some b3' =>
      obtain ⟨_, g2⟩ := qn_at h3
      obtain ⟨_, g4⟩ := qn_at g2
      obtain ⟨t1, t2⟩ := tl_eq (t := tp L) (a := at0 (qn e 4 (qn e 4 (some 7)))) tB
      have hm : (r_f σ3 37 v3.toInt32).1 F_mMany = nI (tl (tp L) (at0 (qn e 4 (qn e 4 (some 7))))) := by rw [rf1, if_pos rfl, V3 _ h3]; exact t1
      refine rt_Ts hM hg T3 he (by decide) R3' hm t2 Z (fun σ4 a4 l4 b4 R4 V4 => ?_)
      refine hZ σ4 (fun i hi => ?_) (fun o i z1 z2 => ?_) (by rw [hb2]; exact RD_mono (by decide) R4) (fun b hb => ?_)
      · rw [a4 i (by omega) (by omega) (by omega) (by omega), rf1, if_neg (by omega), a3 i (by omega) (by omega), rf1, if_neg (by omega), a2 i (by omega) (by omega)]
        exact a1 i (by omega) (by omega) (by omega)
      · rw [b4 o i z1 z2]
        show σ3.2.2 o i = _
        rw [b3]
        show σ2.2.2 o i = _
        rw [b2, b1]
      · rw [hb2] at hb
        refine ⟨ab (by decide), fun _ => ?_, ab (by decide), fun _ => ⟨?_, ?_⟩, ab (by decide), ab (by decide), ab (by decide), ab (by decide), ab (by decide)⟩
        · rw [a4 _ (by decide) (by decide) (by decide) (by decide), rf1, if_neg (by decide), a3 _ (by decide) (by decide), rf1, if_neg (by decide), a2 _ (by decide) (by decide)]
          exact V1 _ g4
        · rw [hsB, a4 _ (by decide) (by decide) (by decide) (by decide), rf1, if_neg (by decide), a3 _ (by decide) (by decide), rf1, if_pos rfl, V2 _ g2]
        · rw [hsB]
          exact V4 b hb
  · -- 112
    subst c
    have hsB : sB e 112 = qn e 4 (some 7) := sB_fid (by decide)
    have hb2 : bd2 (tp L) e 112 (sB e 112) = qn e 1 (qn e 4 (some 7)) := by rw [hsB]; exact (bd2_at _ _ _).2.2.2.2.2.1
    unfold wq_Model_reads_542
    refine fidN _ (fun σ1 a1 b1 R1 V1 => ?_)
    simp only [hs, rk, true_and]
    refine rt_N hM hg (Rta_2 b1 hta) he (by decide) R1 1 (by decide) (by decide) _ (fun σ2 v2 a2 b2 R2 V2 => ?_)
    simp only [hs, rk, rU0, hg, true_and, forall_eq]
    refine hZ _ (fun i hi => ?_) (fun o i _ _ => ?_) (by rw [hb2]; exact RD_mono (by decide) (RD_f _ (by decide) (by decide) (by decide) R2)) (fun b hb => ?_)
    · rw [rf1, if_neg (by omega), a2 i (by omega) (by omega)]
      exact a1 i (by omega) (by omega) (by omega)
    · show σ2.2.2 o i = _
      rw [b2, b1]
    · rw [hb2] at hb
      obtain ⟨_, g2⟩ := qn_at hb
      refine ⟨ab (by decide), fun _ => ?_, ab (by decide), ab (by decide), fun _ => ?_, ab (by decide), ab (by decide), ab (by decide), ab (by decide)⟩
      · rw [rf1, if_neg (by decide), a2 _ (by decide) (by decide)]
        exact V1 _ g2
      · rw [hsB, rf1, if_pos rfl, V2 _ hb]
  · -- 114
    subst c
    have hsB : sB e 114 = qn e 4 (some 7) := sB_fid (by decide)
    have hb2 : bd2 (tp L) e 114 (sB e 114) = qn e 1 (qn e 4 (qt (tp L) e (qn e 4 (some 7)))) := by rw [hsB]; exact (bd2_at _ _ _).2.2.2.2.2.2.1
    unfold wq_Model_reads_542
    refine fidN _ (fun σ1 a1 b1 R1 V1 => ?_)
    simp only [hs, rk, true_and]
    refine rt_T hM hg (Rta_2 b1 hta) he (by decide) R1 _ (fun σ2 a2 b2 R2 V2 => ?_)
    simp only [hs, rk, rI0, rU0, hg, true_and, forall_eq]
    have f2 : (r_f σ2 38 (σ2.1 31)).1 32 = σ2.1 32 := by rw [rf1, if_neg (by decide)]
    rw [f2]
    obtain ⟨τ2, e2⟩ : ∃ τ2, τ2 = r_f (r_f σ2 38 (σ2.1 31)) 39 (σ2.1 32) := ⟨_, rfl⟩
    rw [← e2]
    have T2 : Rta τ2 L := by rw [e2]; exact Rta_f _ _ (Rta_f _ _ (Rta_2 b2 (Rta_2 b1 hta)))
    have R2' : RD τ2 e 0 (qt (tp L) e (qn e 4 (some 7))) := by rw [e2]; exact RD_f _ (by decide) (by decide) (by decide) (RD_f _ (by decide) (by decide) (by decide) R2)
    have k2 : ∀ i, ¬ i = 28 → ¬ i = 30 → ¬ i = 31 → ¬ i = 32 → ¬ i = 38 → ¬ i = 39 → τ2.1 i = σ1.1 i := fun i z1 z2 z3 z4 z5 z6 => by rw [e2, rf1, if_neg z6, rf1, if_neg z5]; exact a2 i z1 z2 z3 z4
    have s38 : τ2.1 38 = σ2.1 31 := by rw [e2, rf1, if_neg (by decide), rf1, if_pos rfl]
    have s39 : τ2.1 39 = σ2.1 32 := by rw [e2, rf1, if_pos rfl]
    refine rt_N hM hg T2 he (by decide) R2' 4 (by decide) (by decide) _ (fun σ3 v3 a3 b3 R3 V3 => ?_)
    simp only [hs, rk, rU0, hg, true_and, forall_eq]
    have T3 : Rta (r_f σ3 36 v3.toInt32) L := Rta_f _ _ (Rta_2 b3 T2)
    refine rt_N hM hg T3 he (by decide) (RD_f _ (by decide) (by decide) (by decide) R3) 1 (by decide) (by decide) _ (fun σ4 v4 a4 b4 R4 V4 => ?_)
    simp only [hs, rk, rU0, hg, true_and, forall_eq]
    refine hZ _ (fun i hi => ?_) (fun o i _ _ => ?_) (by rw [hb2]; exact RD_mono (by decide) (RD_f _ (by decide) (by decide) (by decide) R4)) (fun b hb => ?_)
    · rw [rf1, if_neg (by omega), a4 i (by omega) (by omega), rf1, if_neg (by omega), a3 i (by omega) (by omega), k2 i (by omega) (by omega) (by omega) (by omega) (by omega) (by omega)]
      exact a1 i (by omega) (by omega) (by omega)
    · show σ4.2.2 o i = _
      rw [b4]
      show σ3.2.2 o i = _
      rw [b3, e2]
      show σ2.2.2 o i = _
      rw [b2, b1]
    · rw [hb2] at hb
      obtain ⟨_, g2⟩ := qn_at hb
      obtain ⟨_, g4⟩ := qn_at g2
      obtain ⟨g5, g6, g7⟩ := qt_some g4
      obtain ⟨x1, x2, x3⟩ := V2 _ g4
      refine ⟨ab (by decide), fun _ => ?_, ab (by decide), ab (by decide), ab (by decide), fun _ => ⟨?_, ?_, ?_⟩, ab (by decide), ab (by decide), ab (by decide)⟩
      · rw [rf1, if_neg (by decide), a4 _ (by decide) (by decide), rf1, if_neg (by decide), a3 _ (by decide) (by decide), k2 _ (by decide) (by decide) (by decide) (by decide) (by decide) (by decide)]
        exact V1 _ g5
      · rw [hsB]
        refine ⟨_, _, ?_, ?_, ?_, rfl⟩
        · rw [rf1, if_neg (by decide), a4 _ (by decide) (by decide), rf1, if_neg (by decide), a3 _ (by decide) (by decide), s38]; exact x1
        · rw [rf1, if_neg (by decide), a4 _ (by decide) (by decide), rf1, if_neg (by decide), a3 _ (by decide) (by decide), s39]; exact x2
        · omega
      · rw [hsB, rf1, if_neg (by decide), a4 _ (by decide) (by decide), rf1, if_pos rfl, V3 _ g2]
      · rw [hsB, rf1, if_pos rfl, V4 _ hb]
  · -- 126
    subst c
    have hsB : sB e 126 = qn e 4 (some 7) := sB_fid (by decide)
    have hb2 : bd2 (tp L) e 126 (sB e 126) = qst (tp L) e (qn e 4 (some 7)) := by rw [hsB]; exact (bd2_at _ _ _).2.2.2.2.2.2.2.2.2.2.2.2
    unfold wq_Model_reads_542
    refine fidN _ (fun σ1 a1 b1 R1 V1 => ?_)
    simp only [hs, rk, true_and]
    refine rt_S hM hg (Rta_2 b1 hta) he R1 _ (fun σ2 a2 b2 R2 V2 => ?_)
    refine hZ σ2 (fun i hi => ?_) (fun o i _ _ => by rw [b2, b1]) (by rw [hb2]; exact R2) (fun b hb => ?_)
    · rw [a2 i (by omega)]
      exact a1 i (by omega) (by omega) (by omega)
    · rw [hb2] at hb
      have hok : ∃ b', qn e 4 (some 7) = some b' := by
        cases hq : qn e 4 (some 7) with
        | some b' => exact ⟨b', rfl⟩
        | none =>
          rw [hq] at hb
          have hn : qst (tp L) e none = none := qst_no (fun b hb => by cases hb)
          rw [hn] at hb
          cases hb
      obtain ⟨b', hb'⟩ := hok
      refine ⟨ab (by decide), fun _ => ?_, ab (by decide), ab (by decide), ab (by decide), ab (by decide), ab (by decide), ab (by decide), fun _ => ?_⟩
      · show σ2.1 33 = _
        rw [a2 33 (by omega)]
        exact V1 _ hb'
      · rw [hsB]
        exact V2 b hb
  · -- no such message
    have hk : ¬ known ty := by
      unfold known
      intro w
      obtain ⟨c1, c2, c3, c4, c5, c6, c7, c8, c9, c10, c11, c12, c13⟩ := c
      rcases w with w | w | w | w | w | w | w | w | w | w | w | w | w
      · exact c1 w
      · exact c2 w
      · exact c3 w
      · exact c4 w
      · exact c5 w
      · exact c6 w
      · exact c7 w
      · exact c8 w
      · exact c9 w
      · exact c10 w
      · exact c11 w
      · exact c12 w
      · exact c13 w
    have hb2 : bd2 (tp L) e ty (sB e ty) = none := bd2_no hk
    unfold wq_Model_reads_542
    simp only [hs, rk, rU0, hg, true_and, forall_eq]
    exact hZ _ (fun i hi => by rw [rf1, if_neg (by omega)]) (fun _ _ _ _ => rfl) (by rw [hb2]; exact RD_mono (by decide) (RD_ill hR)) (fun b hb => by rw [hb2] at hb; cases hb)
end RPC
