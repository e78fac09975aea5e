/-! THE REFERENCE's state, and its single changes -/
def Rta (σ : rS) (L : List Int32) : Prop := (∀ k, k < L.length → σ.2.2 O_tape k = tp L k) ∧ allB L ∧ L.length ≤ 1400
def Rsn (σ : rS) (S : List sT) : Prop := S.length ≤ 6 ∧ σ.1 F_snapshots = nI S.length ∧ ∀ (i : Nat) (T : sT), S[i]? = some T → RT σ (i + 1) T
def Rjn (σ : rS) (J : List sT) : Prop := J.length ≤ 20 ∧ σ.1 F_loose = nI J.length ∧ ∃ lf : Nat, lf < 20 ∧ σ.1 F_looseFirst = nI lf ∧ ∀ (i : Nat) (T : sT), J[i]? = some T → RT σ (7 + (lf + i) % 20) T
def rrow (σ : rS) (i : Nat) (d : sD) : Prop := σ.2.2 O_fTree i = nI (d_t d) ∧ σ.2.2 O_fPath i = nI (d_p d) ∧ σ.2.2 O_fMode i = d_m d ∧ σ.2.2 O_fTold i = d_o d ∧ (σ.2.2 O_fLast i = nI (d_l d) ∨ (σ.2.2 O_fLast i = -1 ∧ d_l d = 0))
def Rfd (σ : rS) (fm : sM) (fc : Nat) : Prop := (fc ≤ 24 ∧ σ.1 F_fids = nI fc) ∧ (∀ i, i < fc → ∃ d, fm (σ.2.2 O_fNumber i) = some d ∧ rrow σ i d) ∧ (∀ x d, fm x = some d → ∃ i, i < fc ∧ σ.2.2 O_fNumber i = x) ∧ (∀ i j, i < fc → j < fc → σ.2.2 O_fNumber i = σ.2.2 O_fNumber j → i = j)
def Rst (σ : rS) (st : List qW) (by_ : Int32) : Prop := st.length ≤ 600 ∧ σ.1 F_blocks = nI st.length ∧ σ.1 F_blockBytes = by_ ∧ ∀ (k : Nat) (q : qW), st[k]? = some q → ∀ i, i < 5 → σ.2.2 O_score (5 * k + i) = qi q i
/-- what a message's doing leaves as it is -/
def rrs (σ0 σ : rS) : Prop := (σ.1 F_tapeSize = σ0.1 F_tapeSize ∧ σ.1 F_ill = σ0.1 F_ill ∧ σ.1 F_errors = σ0.1 F_errors ∧ σ.1 F_blocks = σ0.1 F_blocks ∧ σ.1 F_blockBytes = σ0.1 F_blockBytes) ∧ (∀ j, σ.2.2 O_score j = σ0.2.2 O_score j) ∧ ∀ T, RT σ0 27 T → RT σ 27 T
theorem rrs_rf (σ : rS) : rrs σ σ := ⟨⟨rfl, rfl, rfl, rfl, rfl⟩, fun _ => rfl, fun _ h => h⟩
def RR (σ0 σ : rS) (L A : List Int32) (T : sT) (S J : List sT) (fm : sM) (fc gv : Nat) (tm : Int32) (ms : Nat) : Prop :=
  Rta σ L ∧ (r_an σ A ∧ A.length ≤ 1400) ∧ RT σ 0 T ∧ Rsn σ S ∧ Rjn σ J ∧ Rfd σ fm fc ∧ (σ.1 F_paths = nI gv ∧ σ.1 F_time = tm ∧ σ.1 F_msize = nI ms) ∧ rrs σ0 σ
theorem Rta_of {σ σ' : rS} {L : List Int32} (h : ∀ j, σ'.2.2 O_tape j = σ.2.2 O_tape j) (H : Rta σ L) : Rta σ' L := ⟨fun k hk => (h k).trans (H.1 k hk), H.2⟩
theorem Ran_of {σ σ' : rS} {A : List Int32} (h : ∀ j, σ'.2.2 O_answer j = σ.2.2 O_answer j) (h1 : σ'.1 F_answerSize = σ.1 F_answerSize) (H : r_an σ A) : r_an σ' A := ⟨h1.trans H.1, fun j x hj => (h j).trans (H.2 j x hj)⟩
theorem Rsn_of {σ σ' : rS} {S : List sT} (h : ∀ t T, 1 ≤ t → t ≤ 6 → RT σ t T → RT σ' t T) (h1 : σ'.1 F_snapshots = σ.1 F_snapshots) (H : Rsn σ S) : Rsn σ' S := ⟨H.1, h1.trans H.2.1, fun i T hi => h _ _ (by omega) (by have := (List.getElem?_eq_some_iff.mp hi).1; have := H.1; omega) (H.2.2 i T hi)⟩
theorem Rjn_of {σ σ' : rS} {J : List sT} (h : ∀ t T, 7 ≤ t → t ≤ 26 → RT σ t T → RT σ' t T) (h1 : σ'.1 F_loose = σ.1 F_loose) (h2 : σ'.1 F_looseFirst = σ.1 F_looseFirst) (H : Rjn σ J) : Rjn σ' J := by
  obtain ⟨a, b, lf, c, d, e⟩ := H
  exact ⟨a, h1.trans b, lf, c, h2.trans d, fun i T hi => h _ _ (by omega) (by omega) (e i T hi)⟩
theorem rrow_of {σ σ' : rS} {i : Nat} {d : sD} (h : ∀ o, 12 ≤ o → o ≤ 17 → σ'.2.2 o i = σ.2.2 o i) (H : rrow σ i d) : rrow σ' i d := by
  unfold rrow
  rw [h O_fTree (by decide) (by decide), h O_fPath (by decide) (by decide), h O_fMode (by decide) (by decide), h O_fTold (by decide) (by decide), h O_fLast (by decide) (by decide)]
  exact H
theorem Rfd_of {σ σ' : rS} {fm : sM} {fc : Nat} (h : ∀ o j, 12 ≤ o → o ≤ 17 → σ'.2.2 o j = σ.2.2 o j) (h1 : σ'.1 F_fids = σ.1 F_fids) (H : Rfd σ fm fc) : Rfd σ' fm fc := by
  obtain ⟨⟨a1, a2⟩, b, c, d⟩ := H
  refine ⟨⟨a1, h1.trans a2⟩, fun i hi => ?_, fun x d' hx => ?_, fun i j hi hj e => ?_⟩
  · obtain ⟨d', h1, h2⟩ := b i hi
    exact ⟨d', by rw [h _ _ (by decide) (by decide)]; exact h1, rrow_of (fun o => h o i) h2⟩
  · obtain ⟨i, hi, e⟩ := c x d' hx
    exact ⟨i, hi, (h _ _ (by decide) (by decide)).trans e⟩
  · rw [h _ _ (by decide) (by decide), h _ _ (by decide) (by decide)] at e
    exact d i j hi hj e
/-- the fields that the state is told by -/
def rlf (k : Nat) : Prop := (9 ≤ k ∧ k ≤ 13) ∨ (16 ≤ k ∧ k ≤ 20) ∨ k = 27 ∨ k = 59 ∨ k = 60
theorem rrs_of {σ0 σ σ' : rS} (h : ∀ k, rlf k → ¬ k = F_answerSize → ¬ k = F_fids → ¬ k = F_msize → ¬ k = F_paths → σ'.1 k = σ.1 k) (h1 : ∀ j, σ'.2.2 O_score j = σ.2.2 O_score j) (h2 : ∀ T, RT σ 27 T → RT σ' 27 T) (H : rrs σ0 σ) : rrs σ0 σ' := by
  obtain ⟨⟨a, b, c, d, e⟩, f, g⟩ := H
  refine ⟨⟨(h _ ?_ ?_ ?_ ?_ ?_).trans a, (h _ ?_ ?_ ?_ ?_ ?_).trans b, (h _ ?_ ?_ ?_ ?_ ?_).trans c, (h _ ?_ ?_ ?_ ?_ ?_).trans d, (h _ ?_ ?_ ?_ ?_ ?_).trans e⟩, fun j => (h1 j).trans (f j), fun T hT => h2 T (g T hT)⟩ <;> first | decide | (unfold rlf; decide)
section RR_
variable {σ0 σ σ' : rS} {L A : List Int32} {T : sT} {S J : List sT} {fm : sM} {fc gv : Nat} {tm : Int32} {ms : Nat}
/-- nothing that the state is told by has changed -/
theorem RR_of (h : ∀ k, rlf k → σ'.1 k = σ.1 k) (h1 : ∀ o j, o ≤ 17 ∨ o = 21 → σ'.2.2 o j = σ.2.2 o j) (H : RR σ0 σ L A T S J fm fc gv tm ms) : RR σ0 σ' L A T S J fm fc gv tm ms := by
  obtain ⟨a, ⟨b, b'⟩, c, d, e, f, ⟨g1, g2, g3⟩, i⟩ := H
  have ht : ∀ t T, RT σ t T → RT σ' t T := fun t T hT => RT_of (fun o j ho => h1 o j (by omega)) hT
  refine ⟨Rta_of (fun j => h1 _ j (by decide)) a, ⟨Ran_of (fun j => h1 _ j (by decide)) (h _ (by unfold rlf; decide)) b, b'⟩, ht _ _ c, Rsn_of (fun t T _ _ => ht t T) (h _ (by unfold rlf; decide)) d, Rjn_of (fun t T _ _ => ht t T) (h _ (by unfold rlf; decide)) (h _ (by unfold rlf; decide)) e, Rfd_of (fun o j h2 h3 => h1 o j (by omega)) (h _ (by unfold rlf; decide)) f, ⟨(h _ (by unfold rlf; decide)).trans g1, (h _ (by unfold rlf; decide)).trans g2, (h _ (by unfold rlf; decide)).trans g3⟩, rrs_of (fun k hk _ _ _ _ => h k hk) (fun j => h1 _ j (by decide)) (fun T hT => ht _ _ hT) i⟩
theorem RR_f {k : Nat} (x : Int32) (hk : ¬ rlf k) (H : RR σ0 σ L A T S J fm fc gv tm ms) : RR σ0 (r_f σ k x) L A T S J fm fc gv tm ms :=
  RR_of (σ := σ) (fun j hj => by
    have e : ¬ j = k := fun e => hk (e ▸ hj)
    rw [rf1, if_neg e]) (fun _ _ _ => rfl) H
theorem RR_ap (B : List Int32) (hl : A.length + B.length ≤ 1400) (H : RR σ0 σ L A T S J fm fc gv tm ms) : RR σ0 (r_ap σ B) L (A ++ B) T S J fm fc gv tm ms := by
  obtain ⟨a, ⟨b, b'⟩, c, d, e, f, ⟨g1, g2, g3⟩, i⟩ := H
  have h1 : ∀ o j, ¬ o = O_answer → (r_ap σ B).2.2 o j = σ.2.2 o j := fun o j ho => r_ap_o ho B σ
  have hf : ∀ k, ¬ k = F_answerSize → (r_ap σ B).1 k = σ.1 k := fun k hk => r_ap_f hk B σ
  have ht : ∀ t T, RT σ t T → RT (r_ap σ B) t T := fun t T hT => RT_of (fun o j ho => h1 o j (by show ¬ o = 11; omega)) hT
  exact ⟨Rta_of (fun j => h1 _ j (by decide)) a, ⟨r_an_ap B b (by omega), by rw [List.length_append]; exact hl⟩, ht _ _ c, Rsn_of (fun t T _ _ => ht t T) (hf _ (by decide)) d, Rjn_of (fun t T _ _ => ht t T) (hf _ (by decide)) (hf _ (by decide)) e, Rfd_of (fun o j h2 h3 => h1 o j (by show ¬ o = 11; omega)) (hf _ (by decide)) f, ⟨(hf _ (by decide)).trans g1, (hf _ (by decide)).trans g2, (hf _ (by decide)).trans g3⟩, rrs_of (fun k _ hk _ _ _ => hf k hk) (fun j => h1 _ j (by decide)) (fun T hT => ht _ _ hT) i⟩
/-- the live tree has changed -/
theorem RR_live {T' : sT} (h : ∀ k, rlf k → σ'.1 k = σ.1 k) (h1 : frr 0 60 σ σ') (hT : RT σ' 0 T') (H : RR σ0 σ L A T S J fm fc gv tm ms) : RR σ0 σ' L A T' S J fm fc gv tm ms := by
  obtain ⟨a, ⟨b, b'⟩, c, d, e, f, ⟨g1, g2, g3⟩, i⟩ := H
  have ht : ∀ t T, 1 ≤ t → RT σ t T → RT σ' t T := fun t T h0 hT => RT_fr h1 (by omega) hT
  have hi : ∀ o j, 10 ≤ o → σ'.2.2 o j = σ.2.2 o j := fun o j ho => h1 o j (fun z => absurd z (by omega)) (fun z => absurd z (by omega)) (fun z => absurd z (by omega))
  exact ⟨Rta_of (fun j => hi _ j (by decide)) a, ⟨Ran_of (fun j => hi _ j (by decide)) (h _ (by unfold rlf; decide)) b, b'⟩, hT, Rsn_of (fun t T h0 _ => ht t T h0) (h _ (by unfold rlf; decide)) d, Rjn_of (fun t T _ _ => ht t T (by omega)) (h _ (by unfold rlf; decide)) (h _ (by unfold rlf; decide)) e, Rfd_of (fun o j h2 h3 => hi o j (by omega)) (h _ (by unfold rlf; decide)) f, ⟨(h _ (by unfold rlf; decide)).trans g1, (h _ (by unfold rlf; decide)).trans g2, (h _ (by unfold rlf; decide)).trans g3⟩, rrs_of (fun k hk _ _ _ _ => h k hk) (fun j => hi _ j (by decide)) (fun T hT => ht _ _ (by decide) hT) i⟩
/-- the fids have changed -/
theorem RR_fd {fm' : sM} {fc' : Nat} (h : ∀ k, rlf k → ¬ k = F_fids → σ'.1 k = σ.1 k) (h1 : ∀ o j, ¬ (12 ≤ o ∧ o ≤ 17) → σ'.2.2 o j = σ.2.2 o j) (hF : Rfd σ' fm' fc') (H : RR σ0 σ L A T S J fm fc gv tm ms) : RR σ0 σ' L A T S J fm' fc' gv tm ms := by
  obtain ⟨a, ⟨b, b'⟩, c, d, e, f, ⟨g1, g2, g3⟩, i⟩ := H
  have ht : ∀ t T, RT σ t T → RT σ' t T := fun t T hT => RT_of (fun o j ho => h1 o j (by omega)) hT
  refine ⟨Rta_of (fun j => h1 _ j (by decide)) a, ⟨Ran_of (fun j => h1 _ j (by decide)) (h _ ?_ ?_) b, b'⟩, ht _ _ c, Rsn_of (fun t T _ _ => ht t T) (h _ ?_ ?_) d, Rjn_of (fun t T _ _ => ht t T) (h _ ?_ ?_) (h _ ?_ ?_) e, hF, ⟨(h _ ?_ ?_).trans g1, (h _ ?_ ?_).trans g2, (h _ ?_ ?_).trans g3⟩, rrs_of (fun k hk _ h2 _ _ => h k hk h2) (fun j => h1 _ j (by decide)) (fun T hT => ht _ _ hT) i⟩ <;> first | decide | (unfold rlf; decide)
theorem RR_ms (n : Nat) (H : RR σ0 σ L A T S J fm fc gv tm ms) : RR σ0 (r_f σ F_msize (nI n)) L A T S J fm fc gv tm n := by
  obtain ⟨a, ⟨b, b'⟩, c, d, e, f, ⟨g1, g2, g3⟩, i⟩ := H
  have h : ∀ k, ¬ k = F_msize → (r_f σ F_msize (nI n)).1 k = σ.1 k := fun k hk => by rw [rf1, if_neg hk]
  exact ⟨a, ⟨Ran_of (fun _ => rfl) (h _ (by decide)) b, b'⟩, c, Rsn_of (fun _ _ _ _ z => z) (h _ (by decide)) d, Rjn_of (fun _ _ _ _ z => z) (h _ (by decide)) (h _ (by decide)) e, Rfd_of (fun _ _ _ _ => rfl) (h _ (by decide)) f, ⟨(h _ (by decide)).trans g1, (h _ (by decide)).trans g2, by rw [rf1, if_pos rfl]⟩, rrs_of (fun k _ _ _ hk _ => h k hk) (fun _ => rfl) (fun _ z => z) i⟩
theorem RR_gv (n : Nat) (H : RR σ0 σ L A T S J fm fc gv tm ms) : RR σ0 (r_f σ F_paths (nI n)) L A T S J fm fc n tm ms := by
  obtain ⟨a, ⟨b, b'⟩, c, d, e, f, ⟨g1, g2, g3⟩, i⟩ := H
  have h : ∀ k, ¬ k = F_paths → (r_f σ F_paths (nI n)).1 k = σ.1 k := fun k hk => by rw [rf1, if_neg hk]
  exact ⟨a, ⟨Ran_of (fun _ => rfl) (h _ (by decide)) b, b'⟩, c, Rsn_of (fun _ _ _ _ z => z) (h _ (by decide)) d, Rjn_of (fun _ _ _ _ z => z) (h _ (by decide)) (h _ (by decide)) e, Rfd_of (fun _ _ _ _ => rfl) (h _ (by decide)) f, ⟨by rw [rf1, if_pos rfl], (h _ (by decide)).trans g2, (h _ (by decide)).trans g3⟩, rrs_of (fun k _ _ _ _ hk => h k hk) (fun _ => rfl) (fun _ z => z) i⟩
/-- the tree of a fid is in the reference's rows -/
theorem RR_tr {t : Nat} {Tr : sT} (H : RR σ0 σ L A T S J fm fc gv tm ms) (h : trOf T S t = some Tr) : RT σ t Tr ∧ t < 28 := by
  unfold trOf at h
  by_cases c : t = 0
  · rw [if_pos c] at h
    cases h
    rw [c]
    exact ⟨H.2.2.1, by decide⟩
  · rw [if_neg c] at h
    have := H.2.2.2.1.2.2 (t - 1) Tr h
    rw [show t - 1 + 1 = t by omega] at this
    have h2 := (List.getElem?_eq_some_iff.mp h).1
    have h6 := H.2.2.2.1.1
    exact ⟨this, by omega⟩
end RR_
/-! fids -/
section RFD
variable {σ σ' : rS} {fm : sM} {fc : Nat}
theorem rt_fidOf {ge : Nat → Nat} {am : Nat} {h : mm_M} (hM : RM am h) (σ : rS) {fm : sM} {fc : Nat} (hF : Rfd σ fm fc) (x : Int32) (Z : Int32 → mm_M → Prop)
    (h1 : ∀ (j : Nat) (d : sD), j < fc → j < 24 → σ.2.2 O_fNumber j = x → fm x = some d → rrow σ j d → Z (nI j) (r_em am σ h)) (h2 : fm x = none → Z (-1) (r_em am σ h)) : wq_Model_fidOf ge am x (r_em am σ h) Z := by
  obtain ⟨⟨a1, a2⟩, b, c, d⟩ := hF
  refine rq_fidOf hM σ a2 a1 x Z (fun j hj e _ => ?_) (fun hno => h2 ?_)
  · obtain ⟨d', k1, k2⟩ := b j hj
    rw [e] at k1
    exact h1 j d' hj (by omega) e k1 k2
  · cases hx : fm x with
    | none => rfl
    | some d' =>
      obtain ⟨i, hi, e⟩ := c x d' hx
      exact absurd e (hno i hi)
theorem Rfd_set {j : Nat} {x : Int32} {d d' : sD} (H : Rfd σ fm fc) (hj : j < fc) (hx : σ.2.2 O_fNumber j = x) (hd : fm x = some d) (h : ∀ o i, 12 ≤ o → o ≤ 17 → ¬ i = j → σ'.2.2 o i = σ.2.2 o i) (hn : σ'.2.2 O_fNumber j = x) (h1 : σ'.1 F_fids = σ.1 F_fids) (hr : rrow σ' j d') : Rfd σ' (fset fm x (some d')) fc := by
  obtain ⟨⟨a1, a2⟩, b, c, d⟩ := H
  have en : ∀ i, σ'.2.2 O_fNumber i = σ.2.2 O_fNumber i := fun i => by
    by_cases e : i = j
    · rw [e, hn, hx]
    · exact h _ _ (by decide) (by decide) e
  refine ⟨⟨a1, h1.trans a2⟩, fun i hi => ?_, fun y dy hy => ?_, fun i i' hi hi' e => ?_⟩
  · rw [en]
    by_cases e : i = j
    · subst e
      exact ⟨d', by rw [hx]; exact if_pos rfl, hr⟩
    · obtain ⟨d1, k1, k2⟩ := b i hi
      exact ⟨d1, (if_neg (fun z => e (d i j hi hj (z.trans hx.symm)))).trans k1, rrow_of (fun o o1 o2 => h o i o1 o2 e) k2⟩
  · by_cases e : y = x
    · exact ⟨j, hj, by rw [en, hx, e]⟩
    · have : fm y = some dy := (if_neg e).symm.trans hy
      obtain ⟨i, hi, k⟩ := c y dy this
      exact ⟨i, hi, (en i).trans k⟩
  · rw [en, en] at e
    exact d i i' hi hi' e
theorem Rfd_add {x : Int32} {d' : sD} (H : Rfd σ fm fc) (h24 : fc < 24) (hx : fm x = none) (h : ∀ o i, 12 ≤ o → o ≤ 17 → ¬ i = fc → σ'.2.2 o i = σ.2.2 o i) (hn : σ'.2.2 O_fNumber fc = x) (h1 : σ'.1 F_fids = nI (fc + 1)) (hr : rrow σ' fc d') : Rfd σ' (fset fm x (some d')) (fc + 1) := by
  obtain ⟨⟨a1, a2⟩, b, c, d⟩ := H
  have en : ∀ i, i < fc → σ'.2.2 O_fNumber i = σ.2.2 O_fNumber i := fun i hi => h _ _ (by decide) (by decide) (by omega)
  have nx : ∀ i, i < fc → ¬ σ.2.2 O_fNumber i = x := fun i hi e => by
    obtain ⟨d1, k1, k2⟩ := b i hi
    rw [e, hx] at k1
    cases k1
  refine ⟨⟨by omega, h1⟩, fun i hi => ?_, fun y dy hy => ?_, fun i i' hi hi' e => ?_⟩
  · by_cases e : i = fc
    · subst e
      exact ⟨d', by rw [hn]; exact if_pos rfl, hr⟩
    · rw [en i (by omega)]
      obtain ⟨d1, k1, k2⟩ := b i (by omega)
      exact ⟨d1, (if_neg (nx i (by omega))).trans k1, rrow_of (fun o o1 o2 => h o i o1 o2 e) k2⟩
  · by_cases e : y = x
    · exact ⟨fc, by omega, by rw [hn, e]⟩
    · have : fm y = some dy := (if_neg e).symm.trans hy
      obtain ⟨i, hi, k⟩ := c y dy this
      exact ⟨i, by omega, (en i hi).trans k⟩
  · by_cases e1 : i = fc
    · by_cases e2 : i' = fc
      · omega
      · rw [e1, hn, en i' (by omega)] at e
        exact absurd e.symm (nx i' (by omega))
    · by_cases e2 : i' = fc
      · rw [e2, hn, en i (by omega)] at e
        exact absurd e (nx i (by omega))
      · rw [en i (by omega), en i' (by omega)] at e
        exact d i i' (by omega) (by omega) e
theorem Rfd_0 (h1 : σ.1 F_fids = 0) : Rfd σ (fun _ => none) 0 := ⟨⟨by decide, h1⟩, fun i hi => absurd hi (by omega), fun x d hx => (by cases hx), fun i j hi => absurd hi (by omega)⟩
theorem r_g1_at (σ : rS) (k o j : Nat) : (r_g1 σ k).2.2 o j = if 12 ≤ o ∧ o ≤ 17 ∧ j = k then σ.2.2 o (k + 1) else σ.2.2 o j := by
  unfold r_g1 r_mv
  simp only [raa]
  by_cases c : 12 ≤ o ∧ o ≤ 17 ∧ j = k
  · rw [if_pos c]
    obtain ⟨c1, c2, rfl⟩ := c
    rcases (by omega : o = 12 ∨ o = 13 ∨ o = 14 ∨ o = 15 ∨ o = 16 ∨ o = 17) with rfl | rfl | rfl | rfl | rfl | rfl <;> simp [O_fNumber, O_fTree, O_fPath, O_fMode, O_fTold, O_fLast]
  · rw [if_neg c]
    have q : ∀ n, 12 ≤ n → n ≤ 17 → ¬ (o = n ∧ j = k) := fun n n1 n2 z => c ⟨by omega, by omega, z.2⟩
    rw [if_neg (q 17 (by decide) (by decide)), if_neg (q 16 (by decide) (by decide)), if_neg (q 15 (by decide) (by decide)), if_neg (q 14 (by decide) (by decide)), if_neg (q 13 (by decide) (by decide)), if_neg (q 12 (by decide) (by decide))]
theorem r_sh_at : ∀ (m k : Nat) (σ : rS) (o j : Nat), (r_sh k m σ).2.2 o j = if 12 ≤ o ∧ o ≤ 17 ∧ k ≤ j ∧ j < k + m then σ.2.2 o (j + 1) else σ.2.2 o j
  | 0, k, σ, o, j => by rw [if_neg (by omega)]; rfl
  | m + 1, k, σ, o, j => by
    show (r_sh (k + 1) m (r_g1 σ k)).2.2 o j = _
    rw [r_sh_at m (k + 1), r_g1_at, r_g1_at]
    by_cases c : 12 ≤ o ∧ o ≤ 17 ∧ k + 1 ≤ j ∧ j < k + 1 + m
    · rw [if_pos c, if_neg (by omega), if_pos (by omega)]
    · rw [if_neg c]
      by_cases e : 12 ≤ o ∧ o ≤ 17 ∧ j = k
      · rw [if_pos e, if_pos (by omega), e.2.2]
      · rw [if_neg e, if_neg (by omega)]
theorem r_sh_1 : ∀ (m k : Nat) (σ : rS), (r_sh k m σ).1 = σ.1 ∧ (r_sh k m σ).2.1 = σ.2.1
  | 0, _, _ => ⟨rfl, rfl⟩
  | m + 1, k, σ => r_sh_1 m (k + 1) (r_g1 σ k)
theorem Rfd_gone {f : Nat} {x : Int32} (H : Rfd σ fm fc) (hf : f < fc) (hx : σ.2.2 O_fNumber f = x) : Rfd (r_sh f (fc - 1 - f) (r_f σ F_fids (nI (fc - 1)))) (fset fm x none) (fc - 1) := by
  obtain ⟨⟨a1, a2⟩, b, c, d⟩ := H
  obtain ⟨τ, eτ⟩ : ∃ τ, τ = r_sh f (fc - 1 - f) (r_f σ F_fids (nI (fc - 1))) := ⟨_, rfl⟩
  rw [← eτ]
  have at_ : ∀ o i, 12 ≤ o → o ≤ 17 → i < fc - 1 → τ.2.2 o i = σ.2.2 o (if i < f then i else i + 1) := fun o i o1 o2 hi => by
    rw [eτ, r_sh_at]
    by_cases e : i < f
    · rw [if_neg (by omega), if_pos e]; rfl
    · rw [if_pos (by omega), if_neg e]; rfl
  have nx : ∀ i, i < fc → ¬ i = f → ¬ σ.2.2 O_fNumber i = x := fun i hi e z => e (d i f hi hf (z.trans hx.symm))
  have lt : ∀ i, i < fc - 1 → (if i < f then i else i + 1) < fc ∧ ¬ (if i < f then i else i + 1) = f := fun i hi => by split <;> omega
  refine ⟨⟨by omega, by rw [eτ, (r_sh_1 _ _ _).1, rf1, if_pos rfl]⟩, fun i hi => ?_, fun y dy hy => ?_, fun i i' hi hi' e => ?_⟩
  · rw [at_ _ _ (by decide) (by decide) hi]
    obtain ⟨l1, l2⟩ := lt i hi
    obtain ⟨d1, k1, k2⟩ := b _ l1
    refine ⟨d1, (if_neg (nx _ l1 l2)).trans k1, ?_⟩
    unfold rrow
    rw [at_ _ _ (by decide) (by decide) hi, at_ _ _ (by decide) (by decide) hi, at_ _ _ (by decide) (by decide) hi, at_ _ _ (by decide) (by decide) hi, at_ _ _ (by decide) (by decide) hi]
    exact k2
  · have hyx : ¬ y = x := fun z => by
      have : fset fm x none y = none := if_pos z
      rw [this] at hy; cases hy
    have : fm y = some dy := (if_neg hyx).symm.trans hy
    obtain ⟨i, hi, k⟩ := c y dy this
    have hif : ¬ i = f := fun z => hyx (by rw [← k, z, hx])
    by_cases e : i < f
    · exact ⟨i, by omega, by rw [at_ _ _ (by decide) (by decide) (by omega), if_pos e]; exact k⟩
    · exact ⟨i - 1, by omega, by rw [at_ _ _ (by decide) (by decide) (by omega), if_neg (by omega), show i - 1 + 1 = i by omega]; exact k⟩
  · rw [at_ _ _ (by decide) (by decide) hi, at_ _ _ (by decide) (by decide) hi'] at e
    have := d _ _ (lt i hi).1 (lt i' hi').1 e
    split at this <;> split at this <;> omega
end RFD
