/-! the class: reading a directory -/
section HRR
variable {ge : Nat → Nat} {ax : Nat} {κ0 κ : cS} {g : mm_M} {L A : List Int32} {T : sT} {S J : List sT} {fm : sM} {fc gv : Nat} {tm : Int32} {ms : Nat}
theorem gat_le (Tr : sT) (dd : Int32) (most : Nat) : ∀ (n s many last : Nat), many ≤ most → many + (gat Tr dd most s n many last).1.length ≤ most
  | 0, _, many, _, h => by show many + ([] : List Int32).length ≤ most; simpa using h
  | n + 1, s, many, last, h => by
    unfold gat
    cases Tr s with
    | none => exact gat_le Tr dd most n (s + 1) many last h
    | some f =>
      simp only
      by_cases h1 : f_in f = dd
      · rw [cif_y h1]
        by_cases h2 : many + 52 + (f_nm f).length ≤ most
        · rw [cif_y h2]
          have := gat_le Tr dd most n (s + 1) (many + 52 + (f_nm f).length) s h2
          simp only [List.length_append, statL_len]
          omega
        · rw [cif_n h2]; simpa using h
      · rw [cif_n h1]
        exact gat_le Tr dd most n (s + 1) many last h
/-- fields of a fid that change by reading -/
theorem CC_rl {κ' : cS} {i : Nat} {x : Int32} {d : sD} {to : Int32} {la : Nat} (hC : CC ax κ0 κ g L A T S J fm fc gv tm ms) (hi : i < 24) (hu : usd κ i) (hx : κ.1 (8 + i) 1 = x) (hr : crow κ i d) (hop : 0 ≤ d_m d) (e : ∀ o j, ¬ (o = 8 + i ∧ (j = 6 ∨ j = 7)) → κ'.1 o j = κ.1 o j) (e2 : κ'.2 = κ.2) (h6 : κ'.1 (8 + i) 6 = to) (h7 : κ'.1 (8 + i) 7 = nI la) : CC ax κ0 κ' g L A T S J (fset fm x (some (d_t d, d_p d, d_m d, to, la))) fc gv tm ms ∧ crow κ' i (d_t d, d_p d, d_m d, to, la) ∧ usd κ' i ∧ κ'.1 (8 + i) 1 = x := by
  have hop4 : κ.1 (8 + i) 4 = 1 ∧ κ.1 (8 + i) 5 = d_m d := by
    rcases hr.2.2.1 with z | z
    · rw [z.2.1] at hop; exact absurd hop (by decide)
    · exact ⟨z.1, z.2.2⟩
  have cr : crow κ' i (d_t d, d_p d, d_m d, to, la) := ⟨(e _ _ (by omega)).trans hr.1, (e _ _ (by omega)).trans hr.2.1, Or.inr ⟨(e _ _ (by omega)).trans hop4.1, hop, (e _ _ (by omega)).trans hop4.2⟩, h6, h7⟩
  refine ⟨CC_fd (fun o j ho => e _ _ (by omega)) e2 hC ?_, cr, by unfold usd; rw [e _ _ (by omega)]; exact hu, (e _ _ (by omega)).trans hx⟩
  rw [← hx]
  exact Cfd_set hC.2.2.2.2.2.1 hi hu (fun o j _ _ h => e _ _ (by omega)) cr

/-- the end of reading a directory -/
theorem cq_rdEnd (hM : CM ax g) (hg : ge 0 ≤ ax) (hA : A.length = 7) {i : Nat} {x : Int32} {d : sD} (r1 : i < 24) (hop : 0 ≤ d_m d) {to : Int32} {κ' : cS} {B : List Int32} {la' : Nat} (C' : CC ax κ0 κ' g L (A ++ le 4 0 ++ B) T S J (fset fm x (some (d_t d, d_p d, d_m d, to, la'))) fc gv tm ms) (cr' : crow κ' i (d_t d, d_p d, d_m d, to, la')) (hu' : usd κ' i) (hx' : κ'.1 (8 + i) 1 = x) (Z : Int32 → mm_M → Prop)
    (hZ : ∀ κ'', CC ax κ0 κ'' g L (A ++ (le 4 (nI B.length).toInt64 ++ B)) T S J (fset fm x (some (d_t d, d_p d, d_m d, to + nI B.length, la'))) fc gv tm ms → Z 0 (c_em ax κ'' g)) : wq_Server_readDirectory_153 ge ax (some (ax + (8 + i))) (nI B.length) (c_em ax κ' g) Z := by
  have mf := ((CM_f hM).2 i r1).2
  obtain ⟨m0, m1⟩ := CM_0 hM
  have hb3 := CM_b3 hM
  unfold wq_Server_readDirectory_153
  simp only [m0, m1, hb3.1, ck, cP0, true_and, Option.some.injEq, exists_eq_left']
  refine cq_set (i := 7) (n := 4) hb3 hg (by decide) rfl (by decide) _ C'.2.1.1.1 C'.2.1.2 (by simp only [List.length_append, le_len]; omega) _ _ ?_
  have C3 := CC_st (v := nI B.length) C' (le_len 4 0) (by decide)
  rw [hA] at C3
  have e3 : ∀ o j, ¬ o = 4 → (c_st 3 7 (nI B.length) 0 4 κ').1 o j = κ'.1 o j := fun o j ho => by rw [c_st_1, if_neg (fun z => ho z.1)]
  have q6 : (c_st 3 7 (nI B.length) 0 4 κ').1 (8 + i) 6 = to := (e3 _ _ (by omega)).trans cr'.2.2.2.1
  simp only [mf, ck, cI ax (8 + i) (by omega), cU ax (8 + i) (by omega), q6, geo hg, true_and, Option.some.injEq, exists_eq_left', forall_eq]
  obtain ⟨C4, _, _, _⟩ := CC_rl (κ' := c_u (c_st 3 7 (nI B.length) 0 4 κ') (8 + i) 6 (to + nI B.length)) (d := (d_t d, d_p d, d_m d, to, la')) (to := to + nI B.length) (la := la') C3 r1 (by unfold usd; rw [e3 _ _ (by omega)]; exact hu') ((e3 _ _ (by omega)).trans hx') (crow_of (fun j => e3 _ _ (by omega)) cr') hop (fun o j h => by rw [cu1, if_neg (by omega)]) (cu2 _ _ _ _) (by rw [cu1, if_pos ⟨rfl, rfl⟩]) (by rw [cu1, if_neg (by simp), e3 _ _ (by omega)]; exact cr'.2.2.2.2)
  refine hZ _ ?_
  rw [List.append_assoc, fset_fset] at C4
  exact C4
set_option maxHeartbeats 4000000 in
/-- the loop over a directory's files -/
theorem cq_rdLoop (hM : CM ax g) (hg : ge 0 ≤ ax) (hA : A.length = 7) {i : Nat} {x : Int32} {d : sD} (r1 : i < 24) (hop : 0 ≤ d_m d) (hp : d_p d < 60) {b : Nat} {Tr : sT} (ht : ∀ κ, nr ax g (κ.2.2 33) T → tre ax κ g b Tr) {to : Int32} {la most : Nat} (hm9 : most ≤ 989) (G : List Int32 × Nat) (Z : Int32 → mm_M → Prop)
    (fin : ∀ (κ' : cS) (B : List Int32) (la' : Nat), B.length ≤ most → CC ax κ0 κ' g L (A ++ le 4 0 ++ B) T S J (fset fm x (some (d_t d, d_p d, d_m d, to, la'))) fc gv tm ms → crow κ' i (d_t d, d_p d, d_m d, to, la') → usd κ' i → κ'.1 (8 + i) 1 = x → G = (B, la') → wq_Server_readDirectory_153 ge ax (some (ax + (8 + i))) (nI B.length) (c_em ax κ' g) Z)
    (X : Nat → Option Nat → Option Nat → Int32 → Int32 → Int32 → mm_M → Prop) (hX : ∀ (v0 : Nat) (v1 : Option Nat) (v2 : Option Nat) (v3 : Int32) (v4 : Int32) (v5 : Int32) (h : mm_M), wq_Server_readDirectory_80 X ge v0 v1 v2 v3 v4 v5 h Z → X v0 v1 v2 v3 v4 v5 h) :
    ∀ (n s : Nat) (κ' : cS) (B : List Int32) (la' : Nat), s + n = 60 → B.length ≤ most → CC ax κ0 κ' g L (A ++ le 4 0 ++ B) T S J (fset fm x (some (d_t d, d_p d, d_m d, to, la'))) fc gv tm ms → crow κ' i (d_t d, d_p d, d_m d, to, la') → usd κ' i → κ'.1 (8 + i) 1 = x → G = (B ++ (gat Tr (nI (d_p d)) most s n B.length la').1, (gat Tr (nI (d_p d)) most s n B.length la').2) → 0 < s → X ax (some (ax + (8 + i))) (some b) (nI most) (nI B.length) (nI s) (c_em ax κ' g) := by
  have mf := ((CM_f hM).2 i r1).2
  obtain ⟨m0, m1⟩ := CM_0 hM
  have hb3 := CM_b3 hM
  intro n
  induction n with
  | zero =>
    intro s κ' B la' hs hBl C' cr' hu' hx' hgat _
    have e : s = 60 := by omega
    subst e
    refine hX _ _ _ _ _ _ _ ?_
    unfold wq_Server_readDirectory_80
    refine ⟨fun _ => fin κ' B la' hBl C' cr' hu' hx' ?_, fun q => absurd (nI_le (Nat.le_refl 60) (by decide)) q⟩
    rw [hgat]
    show (B ++ [], la') = _
    rw [List.append_nil]
  | succ n ih =>
    intro s κ' B la' hs hBl C' cr' hu' hx' hgat hs0
    refine hX _ _ _ _ _ _ _ ?_
    unfold wq_Server_readDirectory_80 wq_Server_readDirectory_147
    refine ⟨fun q => absurd q (nI_ge (b := 60) (by omega) (by decide)), fun _ => ?_⟩
    have hT' := ht κ' C'.2.2.1
    simp only [mf, hT'.1, ck, cI ax (8 + i) (by omega), show κ'.1 (8 + i) 3 = nI (d_p d) from cr'.2.1, true_and, Option.some.injEq, exists_eq_left']
    refine cq_tin hT' _ (by omega) _ (fun a' f' w0 w1 w2 w3 => ⟨fun _ _ => ?_, fun z => absurd z (by simp)⟩) (fun w => ⟨fun _ z => absurd z (by simp), fun _ => ?_⟩)
    · obtain ⟨an, ad, fa, f1, f2, hN⟩ := nd_H w3
      have l20 := w3.1.2.1
      refine ⟨a', rfl, (hN κ').1, nq_statSize (hN κ') _ ?_⟩
      rw [nI_sub hBl, nI_leI (by omega) (by omega)]
      have hst : gat Tr (nI (d_p d)) most s (n + 1) B.length la' = cif (B.length + 52 + (f_nm f').length ≤ most) (statL s f' ++ (gat Tr (nI (d_p d)) most (s + 1) n (B.length + 52 + (f_nm f').length) s).1, (gat Tr (nI (d_p d)) most (s + 1) n (B.length + 52 + (f_nm f').length) s).2) ([], la') := by
        have : gat Tr (nI (d_p d)) most s (n + 1) B.length la' = cif (f_in f' = nI (d_p d)) (cif (B.length + 52 + (f_nm f').length ≤ most) (statL s f' ++ (gat Tr (nI (d_p d)) most (s + 1) n (B.length + 52 + (f_nm f').length) s).1, (gat Tr (nI (d_p d)) most (s + 1) n (B.length + 52 + (f_nm f').length) s).2) ([], la')) (gat Tr (nI (d_p d)) most (s + 1) n B.length la') := by
          conv => lhs; unfold gat
          simp only [w1]
        rw [this, cif_y w2]
      refine ⟨fun q => ?_, fun q => ?_⟩
      · have hfit : B.length + 52 + (f_nm f').length ≤ most := by omega
        rw [hst, cif_y hfit] at hgat
        simp only [m0, m1, hb3.1, ck, cP0, true_and, Option.some.injEq, exists_eq_left']
        refine cq_putStat hb3 hg (by decide) rfl (by decide) _ C'.2.1.1.1 w3 (by simp only [List.length_append, le_len]; omega) _ ?_
        have C3 := CC_ap (B := statL s f') C' (by simp only [List.length_append, le_len, statL_len]; omega)
        refine ⟨(hN κ').1, nq_statSize (hN _) _ ?_⟩
        have e3 : ∀ o j, ¬ o = 3 → ¬ o = 4 → (c_ap κ' 3 (statL s f')).1 o j = κ'.1 o j := fun o j h1 h2 => c_ap_o (Or.inl h1) h2 _ _
        simp only [mf, ck, cU ax (8 + i) (by omega), geo hg, true_and, Option.some.injEq, exists_eq_left', forall_eq]
        obtain ⟨C4, cr4, hu4, hx4⟩ := CC_rl (κ' := c_u (c_ap κ' 3 (statL s f')) (8 + i) 7 (nI s)) (d := (d_t d, d_p d, d_m d, to, la')) (to := to) (la := s) C3 r1 (by unfold usd; rw [e3 _ _ (by omega) (by omega)]; exact hu') ((e3 _ _ (by omega) (by omega)).trans hx') (crow_of (fun j => e3 _ _ (by omega) (by omega)) cr') hop (fun o j h => by rw [cu1, if_neg (by omega)]) rfl (by rw [cu1, if_neg (by simp), e3 _ _ (by omega) (by omega)]; exact cr'.2.2.2.1) (by rw [cu1, if_pos ⟨rfl, rfl⟩])
        rw [fset_fset] at C4
        have hBL : (B ++ statL s f').length = B.length + 52 + (f_nm f').length := by rw [List.length_append, statL_len]; omega
        have := ih (s + 1) _ (B ++ statL s f') s (by omega) (by rw [hBL]; exact hfit) (by rw [← List.append_assoc]; exact C4) cr4 hu4 hx4 (by rw [hgat, hBL, List.append_assoc]) (by omega)
        rw [hBL, nI_succ] at this
        rw [nI_add, show B.length + (52 + (f_nm f').length) = B.length + 52 + (f_nm f').length by omega]
        exact this
      · have hnf : ¬ B.length + 52 + (f_nm f').length ≤ most := by omega
        rw [hst, cif_n hnf] at hgat
        refine fin κ' B la' hBl C' cr' hu' hx' ?_
        rw [hgat, List.append_nil]
    · have hst : gat Tr (nI (d_p d)) most s (n + 1) B.length la' = gat Tr (nI (d_p d)) most (s + 1) n B.length la' := by
        conv => lhs; unfold gat
        cases hTs : Tr s with
        | none => rfl
        | some f' =>
          simp only
          exact cif_n (fun z => w ⟨by omega, f', hTs, z⟩)
      rw [← nI_succ]
      exact ih (s + 1) κ' B la' (by omega) hBl C' cr' hu' hx' (by rw [hgat, hst]) (by omega)
set_option maxHeartbeats 4000000 in
theorem cq_rdDir (hM : CM ax g) (hK : CK ge ax g) (hC : CC ax κ0 κ g L A T S J fm fc gv tm ms) (hA : A.length = 7) (hms : 64 ≤ ms ∧ ms ≤ 1000) {i : Nat} {x : Int32} {d : sD} (hr : rw_ κ fm i x d) {f : sF} (hdir : ¬ 0 ≤ f_md f) (hp : d_p d < 60) (hla : d_l d < 60) {b : Nat} {Tr : sT} (ht : ∀ κ, nr ax g (κ.2.2 33) T → tre ax κ g b Tr) {off : Int64} {c : Nat} (hoff : κ.2.1 5 13 = off) (hc : κ.1 5 9 = nI c) (hc2 : c < 2 ^ 32) (Z : Int32 → mm_M → Prop)
    (hZ : ∀ κ' g', Pst ax κ0 g L A S J tm ms (spRead T Tr fm fc gv ms x d f off c) κ' g' → Z (spRead T Tr fm fc gv ms x d f off c).1 (c_em ax κ' g')) : wq_Server_readDirectory ge ax (some (ax + (8 + i))) (some b) (c_em ax κ g) Z := by
  have hg := hK.1
  obtain ⟨r1, r2, r3, r4, r5⟩ := hr
  have mf := ((CM_f hM).2 i r1).2
  obtain ⟨m0, m1⟩ := CM_0 hM
  have hb3 := CM_b3 hM
  unfold wq_Server_readDirectory wq_Server_readDirectory_0
  refine ⟨_, rfl, mf, cq_forR hM r1 r5 _ (fun n3 => ⟨fun _ => ?_, fun z => absurd z (by decide)⟩) (fun y3 => ⟨fun z => absurd rfl z, fun _ => ?_⟩)⟩
  · have hop : 0 ≤ d_m d := Decidable.not_not.mp (fun z => n3 (Or.inl z))
    have p6 : κ.1 (8 + i) 6 = d_o d := r5.2.2.2.1
    have p7 : κ.1 (8 + i) 7 = nI (d_l d) := r5.2.2.2.2
    -- from told and last on
    have go : ∀ (κ1 : cS) (to : Int32) (la : Nat), to = cif (off = 0) 0 (d_o d) → la = cif (off = 0) 0 (d_l d) → la < 60 → ¬ (¬ off = 0 ∧ ¬ off = (d_o d).toInt64) → CC ax κ0 κ1 g L A T S J (fset fm x (some (d_t d, d_p d, d_m d, to, la))) fc gv tm ms → crow κ1 i (d_t d, d_p d, d_m d, to, la) → usd κ1 i → κ1.1 (8 + i) 1 = x → κ1.1 5 9 = nI c → wq_Server_readDirectory_55 ge ax (some (ax + (8 + i))) (some b) (c_em ax κ1 g) Z := by
      intro κ1 to la eto ela hla60 n5 C1 cr1 hu1 hx1 hc1
      have hs : spRead T Tr fm fc gv ms x d f off c = (0, le 4 (nI (gat Tr (nI (d_p d)) (min c (ms - 11)) (la + 1) (59 - la) 0 la).1.length).toInt64 ++ (gat Tr (nI (d_p d)) (min c (ms - 11)) (la + 1) (59 - la) 0 la).1, T, fset fm x (some (d_t d, d_p d, d_m d, to + nI (gat Tr (nI (d_p d)) (min c (ms - 11)) (la + 1) (59 - la) 0 la).1.length, (gat Tr (nI (d_p d)) (min c (ms - 11)) (la + 1) (59 - la) 0 la).2)), fc, gv) := by
        refine (cif_n n3).trans ((cif_n hdir).trans ((cif_n n5).trans ?_))
        rw [← eto, ← ela]
      rw [hs] at hZ
      unfold wq_Server_readDirectory_55
      refine ⟨m0, cq_rtr hM C1 hms hc1 hc2 _ ?_⟩
      obtain ⟨most, hmost⟩ : ∃ most, most = min c (ms - 11) := ⟨_, rfl⟩
      rw [← hmost] at hZ ⊢
      have hm9 : most ≤ 989 := by omega
      simp only [m0, m1, hb3.1, ck, cP0, true_and, Option.some.injEq, exists_eq_left']
      refine cq_put (n := 4) hb3 hg (by decide) rfl (by decide) _ C1.2.1.1.1 (by omega) _ _ ?_
      have C2 := CC_ap (B := le 4 0) C1 (by rw [le_len]; omega)
      have e12 : ∀ o j, ¬ o = 3 → ¬ o = 4 → (c_ap κ1 3 (le 4 0)).1 o j = κ1.1 o j := fun o j h1 h2 => c_ap_o (Or.inl h1) h2 _ _
      have q7 : (c_ap κ1 3 (le 4 0)).1 (8 + i) 7 = nI la := (e12 _ _ (by omega) (by omega)).trans cr1.2.2.2.2
      simp only [mf, ck, cI ax (8 + i) (by omega), q7, true_and, Option.some.injEq, exists_eq_left']
      -- the end
      have fin : ∀ (κ' : cS) (B : List Int32) (la' : Nat), B.length ≤ most → CC ax κ0 κ' g L (A ++ le 4 0 ++ B) T S J (fset fm x (some (d_t d, d_p d, d_m d, to, la'))) fc gv tm ms → crow κ' i (d_t d, d_p d, d_m d, to, la') → usd κ' i → κ'.1 (8 + i) 1 = x → gat Tr (nI (d_p d)) most (la + 1) (59 - la) 0 la = (B, la') → wq_Server_readDirectory_153 ge ax (some (ax + (8 + i))) (nI B.length) (c_em ax κ' g) Z := by
        intro κ' B la' hBl C' cr' hu' hx' hgat
        rw [hgat] at hZ
        exact cq_rdEnd hM hg hA r1 hop C' cr' hu' hx' Z (fun κ'' C'' => hZ κ'' g ⟨ext_rf g, _, fun _ => rfl, C''⟩)
      unfold lp_Server_readDirectory_80
      intro X hX
      have key := cq_rdLoop (A := A) (L := L) (S := S) (J := J) (fm := fm) (fc := fc) (gv := gv) (tm := tm) (ms := ms) (κ0 := κ0) (x := x) (to := to) (la := la) hM hg hA r1 hop hp ht hm9 _ Z fin X hX
      have C2' : CC ax κ0 (c_ap κ1 3 (le 4 0)) g L (A ++ le 4 0 ++ []) T S J (fset fm x (some (d_t d, d_p d, d_m d, to, la))) fc gv tm ms := by rw [List.append_nil]; exact C2
      have := key (59 - la) (la + 1) _ [] la (by omega) (by simp) C2' (crow_of (fun j => e12 _ _ (by omega) (by omega)) cr1) (by unfold usd; rw [e12 _ _ (by omega) (by omega)]; exact hu1) ((e12 _ _ (by omega) (by omega)).trans hx1) (by simp only [List.nil_append, List.length_nil]) (by omega)
      rw [nI_succ, List.length_nil] at this
      exact this
    have selfC : CC ax κ0 κ g L A T S J (fset fm x (some (d_t d, d_p d, d_m d, d_o d, d_l d))) fc gv tm ms := by
      have : fset fm x (some (d_t d, d_p d, d_m d, d_o d, d_l d)) = fm := by
        funext y
        unfold fset
        by_cases e : y = x
        · rw [if_pos e, e, r4]; rfl
        · rw [if_neg e]
      rw [this]
      exact hC
    have p39 : ¬ (¬ off = 0 ∧ ¬ off = (d_o d).toInt64) → wq_Server_readDirectory_39 ge ax (some (ax + (8 + i))) (some b) (c_em ax κ g) Z := by
      intro n5
      unfold wq_Server_readDirectory_39 wq_Fid_rewind wq_Fid_rewind_0
      simp only [m0, m1, (CM_q hM).1, mf, ck, cP0, cL ax 5 (by decide), cU ax (8 + i) (by omega), hoff, lg_cmp_eq, geo hg, true_and, Option.some.injEq, exists_eq_left', forall_eq]
      refine ⟨fun q => go κ _ _ (cif_n q).symm (cif_n q).symm hla n5 selfC r5 r2 r3 hc, fun q => ?_⟩
      obtain ⟨C4, cr4, hu4, hx4⟩ := CC_rl (κ' := c_u (c_u κ (8 + i) 6 0) (8 + i) 7 0) (d := d) (to := 0) (la := 0) hC r1 r2 r3 r5 hop (fun o j h => by rw [cu1, if_neg (by omega), cu1, if_neg (by omega)]) rfl (by rw [cu1, if_neg (by simp), cu1, if_pos ⟨rfl, rfl⟩]) (by rw [cu1, if_pos ⟨rfl, rfl⟩]; rfl)
      exact go _ 0 0 (cif_y q).symm (cif_y q).symm (by decide) n5 C4 cr4 hu4 hx4 (by rw [cu1, if_neg (by omega), cu1, if_neg (by omega)]; exact hc)
    simp only [m0, m1, (CM_q hM).1, mf, ck, cP0, cL ax 5 (by decide), cI ax (8 + i) (by omega), hoff, lg_cmp_eq, p6, true_and, Option.some.injEq, exists_eq_left']
    refine ⟨fun q => p39 (fun z => z.1 q), fun q => ⟨fun q2 => p39 (fun z => z.2 q2), fun q2 => ?_⟩⟩
    have hs : spRead T Tr fm fc gv ms x d f off c = (5, [], T, fm, fc, gv) := (cif_n n3).trans ((cif_n hdir).trans (cif_y ⟨q, q2⟩))
    rw [hs] at hZ
    exact hZ _ g ⟨ext_rf g, A, fun z => absurd z (by show ¬ (5 : Int32) = 0; decide), hC⟩
  · have hs : spRead T Tr fm fc gv ms x d f off c = (3, [], T, fm, fc, gv) := cif_y y3
    rw [hs] at hZ
    exact hZ _ g ⟨ext_rf g, A, fun z => absurd z (by show ¬ (3 : Int32) = 0; decide), hC⟩
end HRR
