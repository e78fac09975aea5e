/-! THE WALK of the law's body from its entry, and the claim -/
theorem whole_start {p : Program} {e : Env} {s : State} {m : MethodId} {below : List Frame} {meth : Method} {c : Code} (l : Launch) {b L : Nat} {xs : Nat → Int32} (hL : L ≤ 3072) (C0 : lw_At p s m meth c b L xs) : W p l e room_1 s m #[Value.ref b] below meth c s.heap [] 0 0 (lw_Z below #[Value.ref b] s) (entryFrame m ([Value.ref b] : List Value).toArray 4) := by
  obtain ⟨hx, hb, hr, hml, hown, hts, hX, hbl, hlocks, hgv⟩ := C0
  have hs := flat_of_before _ hgv
  obtain ⟨A, eA⟩ : ∃ A : Nat → Prop, A = fun q : Nat => s.heap.size ≤ q := ⟨_, rfl⟩
  have hA : ∀ a : Nat, a < s.heap.size → ¬ A a := fun a ha => by rw [eA]; exact Nat.not_le.mpr ha
  have hAi : ∀ q, A q ↔ s.heap.size ≤ q := fun q => by rw [eA]
  obtain ⟨D, hD⟩ := ent_D hts
  obtain ⟨aA, hAA⟩ := ent_A hts
  obtain ⟨t0, e0, T0⟩ := ent_arr (A := A) hs (.static "EpochServer" "ROOT_NAME" "[B") [47] (by decide) (by decide +kernel) (by decide +kernel) (by decide +kernel) hA
  have Z0 := va_Zof (A := A) (hts _ (tw_2 (List.mem_of_getElem? (i := 54) rfl))) (hts _ (tw_1 (List.mem_of_getElem? (i := 1) rfl))) e0 hA
  obtain ⟨t1, e1, T1⟩ := ent_arr (A := A) hs (.static "EpochServer" "NO_BYTES" "[B") [] (by decide) (by decide +kernel) (by decide +kernel) (by decide +kernel) hA
  have Z1 := va_Zof (A := A) (hts _ (tw_2 (List.mem_of_getElem? (i := 57) rfl))) (hts _ (tw_1 (List.mem_of_getElem? (i := 1) rfl))) e1 hA
  obtain ⟨t2, e2, T2⟩ := ent_arr (A := A) hs (.static "EpochServer" "KNOWN_VERSION" "[B") KNOWN (by decide) (by decide +kernel) (by decide +kernel) (by decide +kernel) hA
  have Z2 := va_Zof (A := A) (hts _ (tw_3 (List.mem_of_getElem? (i := 6) rfl))) (hts _ (tw_1 (List.mem_of_getElem? (i := 1) rfl))) e2 hA
  obtain ⟨t3, e3, T3⟩ := ent_arr (A := A) hs (.static "EpochServer" "UNKNOWN_VERSION" "[B") UNKN (by decide) (by decide +kernel) (by decide +kernel) (by decide +kernel) hA
  have Z3 := va_Zof (A := A) (hts _ (tw_3 (List.mem_of_getElem? (i := 12) rfl))) (hts _ (tw_1 (List.mem_of_getElem? (i := 1) rfl))) e3 hA
  obtain ⟨adK, adV, ⟨hT, -⟩, hTe⟩ := vk_Sof (args := #[Value.ref b]) (s := s) (N := 2) (tm := fun i => match i with | 0 => .string "EpochServerModel" 301 | _ => .string "EpochServerModel" 313) (len := [6, 7]) (byt := [KNOWN, UNKN]) (A := A) (by decide)
    (fun i hi => hs _ (by revert i; decide +kernel)) (fun i hi => hs _ (by revert i; decide +kernel)) (fun i hi => hs _ (by revert i; decide +kernel)) (fun i hi => hs _ (by revert i; decide +kernel)) (fun i hi j hj => hs _ (by revert j; revert i; decide +kernel))
    (fun i j hi hj hne => by
      match i, j with
      | 0, 0 => exact absurd rfl hne
      | 0, 1 => exact Or.inl (hs _ (by decide +kernel))
      | 1, 0 => exact Or.inr (hs _ (by decide +kernel))
      | 1, 1 => exact absurd rfl hne
      | 0, n + 2 => omega
      | 1, n + 2 => omega
      | n + 2, _ => omega) hA
  have Y0 := hT 0 (by decide)
  have Y1 := hT 1 (by decide)
  have B0 : bT s A t0 [47] := ⟨by decide, T0⟩
  have B1 : bT s A t1 [] := ⟨by decide, T1⟩
  have B2 : bT s A t2 KNOWN := ⟨by decide, T2⟩
  have B3 : bT s A t3 UNKN := ⟨by decide, T3⟩
  have B4 : bT s A (adV 0) KNOWN := ⟨by decide, Y0.2.2.2⟩
  have B5 : bT s A (adV 1) UNKN := ⟨by decide, Y1.2.2.2⟩
  obtain ⟨AC, eAC⟩ : ∃ AC : Nat → ClassId, AC = fun i => if i < 100 then aA i else if i = 100 then t0 else if i = 101 then t1 else if i = 102 then t2 else if i = 103 then t3 else if i < 300 then adK (i - 200) else adV (i - 300) := ⟨_, rfl⟩
  obtain ⟨G0, eG0⟩ : ∃ G0 : mm_G, G0 = (l, D, AC, s.heap.size, fun _ => True) := ⟨_, rfl⟩
  obtain ⟨G, hG⟩ : ∃ G : mm_G, G = (l, D, AC, s.heap.size, mm_fx G0) := ⟨_, rfl⟩
  have fA : mm_fr G0 = A := by rw [eG0, eA]; rfl
  have gA0 : mm_gA G0 = AC := by rw [eG0]; rfl
  have hfx : mm_fx G0 s := by
    refine ⟨?_, ?_, ?_, ?_, ?_, ?_, fun w hw => va_Nw.of (nsk_tab (nsl_k w hw)) (hts w (nsl_in w hw))⟩
    · unfold aob
      exact List.forall_mem_cons.mpr ⟨va_AO.of (hts _ (tw_1 (List.mem_of_getElem? (i := 124) rfl))), List.forall_mem_cons.mpr ⟨va_AO.of (hts _ (tw_1 (List.mem_of_getElem? (i := 179) rfl))), List.forall_mem_cons.mpr ⟨va_AO.of (hts _ (tw_1 (List.mem_of_getElem? (i := 191) rfl))), fun _ h => absurd h List.not_mem_nil⟩⟩⟩
    · intro j r hj
      rw [fA, gA0, eAC]
      match j, hj with
      | 0, hj => cases hj; exact Z0
      | 1, hj => cases hj; exact Z1
      | 2, hj => cases hj; exact Z2
      | 3, hj => cases hj; exact Z3
      | n + 4, hj => exact absurd hj (by simp [stl])
    · intro j r hj
      rw [fA, gA0, eAC]
      match j, hj with
      | 0, hj => cases hj; exact ⟨vk_R.of (hts _ (tw_5 (List.mem_of_getElem? (i := 212) rfl))) (hTe 0 (by decide)), Y0.1, Y0.2.1, Y0.2.2.1⟩
      | 1, hj => cases hj; exact ⟨vk_R.of (hts _ (tw_6 (List.mem_of_getElem? (i := 20) rfl))) (hTe 1 (by decide)), Y1.1, Y1.2.1, Y1.2.2.1⟩
      | n + 2, hj => exact absurd hj (by simp [sgl])
    · rw [fA]; exact va_Zof (hts _ (tw_5 (List.mem_of_getElem? (i := 222) rfl))) (hts _ (tw_1 (List.mem_of_getElem? (i := 17) rfl))) (va_eqi (hs _ (by decide +kernel))) hA
    · rw [fA]; exact va_Zqof (hts _ (tw_5 (List.mem_of_getElem? (i := 230) rfl))) (hts _ (tw_1 (List.mem_of_getElem? (i := 19) rfl))) (hs _ (by decide +kernel)) hA
    · exact va_Nw.of rfl (hts _ (tw_3 (List.mem_of_getElem? (i := 235) rfl)))
  have hgok : mm_gok G := by
    rw [hG, eG0]
    exact ⟨fun u U hv hq h => fx_ok (l, D, AC, s.heap.size, fun _ => True) u U hv hq h, fun s h => h⟩
  obtain ⟨h0, eh0⟩ : ∃ h0, h0 = hS0 s A b L xs := ⟨_, rfl⟩
  have hR0 : mm_R D AC s.heap.size s h0 s.heap := by rw [eh0]; exact hS0_R hX hAi
  have hK : va_K D cls (mm_tys AC) s := by
    refine ⟨hD, fun k q hq => ?_⟩
    unfold mm_tys at hq
    rw [List.getElem?_mapIdx] at hq
    cases ht : aty[k]? with
    | none => rw [ht] at hq; cases hq
    | some t =>
      rw [ht] at hq
      cases hq
      have hk : k < 6 := (List.getElem?_eq_some_iff.mp ht).1
      have e : AC k = aA k := by rw [eAC]; exact if_pos (by omega)
      show ArrOfT s (AC k) t ∧ va_RA s (AC k) t
      rw [e]
      exact hAA k t ht
  have g0 : mm_ge G 0 = s.heap.size := by rw [hG]; rfl
  have g1 : mm_ge G 1 = t0 := by rw [hG]; show AC 100 = t0; rw [eAC]; rfl
  have g2 : mm_ge G 2 = t1 := by rw [hG]; show AC 101 = t1; rw [eAC]; rfl
  have g3 : mm_ge G 3 = t2 := by rw [hG]; show AC 102 = t2; rw [eAC]; rfl
  have g4 : mm_ge G 4 = t3 := by rw [hG]; show AC 103 = t3; rw [eAC]; rfl
  have g5 : mm_ge G 201 = adV 0 := by rw [hG]; show AC 300 = adV 0; rw [eAC]; rfl
  have g6 : mm_ge G 202 = adV 1 := by rw [hG]; show AC 301 = adV 1; rw [eAC]; rfl
  have hCK : CKs (mm_ge G) h0 := by
    unfold CKs
    rw [g0, g1, g2, g3, g4, eh0]
    exact ⟨⟨bT_lt B0, bT_lt B1, bT_lt B2, bT_lt B3⟩, hS0_bA hX B0 (by decide), hS0_bA hX B1 (by decide), hS0_bA hX B2 (by decide), hS0_bA hX B3 (by decide)⟩
  have hRK : RK (mm_ge G) h0 := by
    rw [eh0]
    exact ⟨hS0_RK hX B4 g5 g0 (by decide), hS0_RK hX B5 g6 g0 (by decide)⟩
  have z0 : mm_z h0 = s.heap.size := by rw [eh0]; rfl
  have hSc : Sc (mm_ge G) b L h0 := by
    rw [eh0]
    exact ⟨by rw [g0]; exact hbl, hS0_b.1, hS0_b.2.1, hL⟩
  obtain ⟨E, eE⟩ : ∃ E : mm_E, E = (G, p, e, room_1, s, m, #[Value.ref b], below, meth, c, lw_Z below #[Value.ref b] s) := ⟨_, rfl⟩
  have eGE : eG E = G := by rw [eE]; rfl
  have hce : ce E := by rw [eE, hG]; exact ⟨⟨b, rfl⟩, rfl, rfl⟩
  have hc : cx E "EpochServerLaw" code 4 ret room_1 := by
    rw [eE]
    refine ⟨hx, hb, hml, hr, hlocks, hown, fun w hw => hts w (List.mem_filter.mp hw).1, ?_, ?_, ?_, hgok, rfl⟩
    · rw [hG]; exact hK
    · rw [hG]; exact Nat.le_refl _
    · rw [hG]; exact hfx
  have key : V E 4 0 0 h0 0 [(0, va_rf (some b))] [] := by
    have hw := jy_init (ge := mm_ge (eG E)) (Z := fun M' => JY (mm_ge (eG E)) s.heap.size h0 M' X0 X0) z0 (by rw [eGE, g0]; exact Nat.le_refl _) (by rw [eGE]; exact hCK) (by rw [eGE]; exact hRK) (fun M' h => h)
    refine V_new (cn := 1) (N := 13) (r := (R_Server, T_Server, 13, t_Server)) hc rfl rfl (gw_of (tw_1 (List.mem_of_getElem? (i := 21) rfl)) rfl) (gw_of (tw_1 (List.mem_of_getElem? (i := 22) rfl)) rfl) (gw_of (tw_1 (List.mem_of_getElem? (i := 1) rfl)) rfl) (by decide) (Nat.le_of_ble_eq_true rfl) (Nat.le_of_ble_eq_true rfl) d_law_0 ?_
    rw [z0]
    refine V_dup hc d_law_3 (cat_rf _) ?_
    refine V_callI (rm' := rm_Server_init) (As := []) (rest := [va_rf (some s.heap.size)]) (n := 0) hc rfl (sat_Server_init (eG E) _ _ _ hw) cv_Law_9 (gw_of (tw_1 (List.mem_of_getElem? (i := 24) rfl)) rfl) rfl rfl ⟨Nat.le_of_ble_eq_true rfl, Nat.le_of_ble_eq_true rfl⟩ (Nat.le_of_ble_eq_true rfl) (Nat.le_of_ble_eq_true rfl) rfl (by simp [cat_rf, cat_i, cat_l]) d_law_4 (fun r0 m1 hw => ?_)
    obtain ⟨rfl, zm, hw⟩ := hw
    refine V_wide (cs' := 94) (sl' := 21696) (Nat.le_of_ble_eq_true rfl) (Nat.le_of_ble_eq_true rfl) ?_
    refine V_st (st' := [va_rf (some s.heap.size)]) rfl ?_
    refine V_astore_n (lv' := [(1, va_rf (some s.heap.size)), (0, va_rf (some b))]) hc d_law_7 rfl (by decide) rfl ?_
    refine V_new (cn := 0) (N := 66) (r := (R_Model, T_Model, 66, t_Model)) hc rfl rfl (gw_of (tw_4 (List.mem_of_getElem? (i := 188) rfl)) rfl) (gw_of (tw_4 (List.mem_of_getElem? (i := 189) rfl)) rfl) (gw_of (tw_1 (List.mem_of_getElem? (i := 14) rfl)) rfl) (by decide) (Nat.le_of_ble_eq_true rfl) (Nat.le_of_ble_eq_true rfl) d_law_8 ?_
    rw [zm]
    refine V_dup hc d_law_11 (cat_rf _) ?_
    refine V_callI (rm' := rm_Model_init) (As := []) (rest := [va_rf (some (s.heap.size + 91))]) (n := 0) hc rfl (sat_Model_init (eG E) _ _ _ hw) cv_Law_12 (gw_of (tw_4 (List.mem_of_getElem? (i := 191) rfl)) rfl) rfl rfl ⟨Nat.le_of_ble_eq_true rfl, Nat.le_of_ble_eq_true rfl⟩ (Nat.le_of_ble_eq_true rfl) (Nat.le_of_ble_eq_true rfl) rfl (by simp [cat_rf, cat_i, cat_l]) d_law_12 (fun r1 m2 hw => ?_)
    obtain ⟨rfl, hJ⟩ := hw
    refine V_wide (cs' := 200) (sl' := 1000000) (Nat.le_of_ble_eq_true rfl) (Nat.le_of_ble_eq_true rfl) ?_
    refine V_st (st' := [va_rf (some (s.heap.size + 91))]) rfl ?_
    refine V_astore_n (lv' := [(2, va_rf (some (s.heap.size + 91))), (1, va_rf (some s.heap.size)), (0, va_rf (some b))]) hc d_law_15 rfl (by decide) rfl ?_
    refine V_iconst (v := nI (6 * 0)) hc d_law_16 (by decide) ?_
    refine V_istore_n (lv' := [(3, .int (nI (6 * 0))), (2, va_rf (some (s.heap.size + 91))), (1, va_rf (some s.heap.size)), (0, va_rf (some b))]) hc d_law_17 rfl (by decide) rfl ?_
    refine V_sub (lv' := lw_lv b s.heap.size 0) [3, 2, 1, 0] rfl ?_
    exact law_lp hc hce (by rw [eGE]; exact hSc) (L + 6) 0 X0 m2 (by omega) (by omega) hJ
  have hl := lv_entry ([.ref b]) (n := 4) (Nat.le_of_ble_eq_true rfl)
  rw [lg_entry_eq]
  rw [eE, hG] at key
  exact key s.heap [] _ hR0 va_S.rf hl
set_option maxHeartbeats 4000000 in
theorem lw_walk (l : Launch) (b : Addr) (xs : List Int32) : MetFree l x (headSpec (Jvm.Cond.code x code maxLocals ret :: tables_1) room_1) (lw_P b xs) (fun _ _ _ _ _ => True) lw_Q := by
  refine MetFree.of_bodyS (code := code) (maxLocals := maxLocals) (ret := ret) (by decide) ?_ ?_
  · intro args s m h hn
    obtain ⟨meth, c, h1, h2, h3, h4, h5, h6, -, -⟩ := Cond.code_spec hn (atoms_spec (ws := Jvm.Cond.code x code maxLocals ret :: tables_1) h _ List.mem_cons_self)
    exact ⟨meth, c, h1, h2, h3, h4, h5, h6⟩
  · intro p e s m args below meth c s₁ B hml0 hP _
    obtain ⟨rfl, hx, hbd, hgv⟩ := hP
    obtain ⟨scr, harrAt, hlist, hof, hsmall⟩ := hx
    obtain ⟨hcb, hkn, -, -⟩ := State.arrayAt?_spec harrAt
    have hown : s.vm.findClass R_law = some m.cls := findClass_of_methodNamed B.named
    have hts0 : ∀ c ∈ (Jvm.Cond.code x code maxLocals ret :: tables_1), c.before #[Value.ref b] s = true := atoms_spec (ws := Jvm.Cond.code x code maxLocals ret :: tables_1) B.pre
    have hts : ∀ w ∈ lw_tbl, w.before #[Value.ref b] s = true := k2_hts_sels lw_privs (fun w hw => hts0 w (List.mem_cons_of_mem _ hw)) lw_privs_ok
    have hml : c.maxLocals = 4 := B.maxLocals_eq (hts0 _ List.mem_cons_self)
    have X₀ : Stand p l e room_1 s m #[Value.ref b] below meth c s₁ [] 0 0 := Stand.of_body B
    have hh0 : s₁.heap = s.heap := by rw [B.state]; rfl
    have hsz : scr.slots.size = xs.length := by rw [← Array.length_toList, hlist, List.length_map]
    have hval : ∀ j : Nat, j < xs.length → scr.slots[j]? = some (.int (xs.getD j 0)) := fun j hj => by
      rw [← Array.getElem?_toList, hlist]
      simp [hj]
    have hbl : b < s.heap.size := (Array.getElem?_eq_some_iff.mp hcb).1
    have hX : va_X b xs.length (fun j => xs.getD j 0) s s.heap := ⟨scr, hcb, hof, hkn, hsz, hval⟩
    have K : W p l e room_1 s m #[Value.ref b] below meth c s₁.heap [] 0 0 (lw_Z below #[Value.ref b] s) (entryFrame m ([Value.ref b] : List Value).toArray 4) := by
      rw [hh0]
      exact whole_start l hbd ⟨B.exec, B.bytes, B.returns, hml, hown, hts, hX, hbl, B.notSynchronized, hgv⟩
    obtain ⟨t, a1, o, b1, b2, b3⟩ := K s₁ rfl X₀
    exact ⟨t, o, a1, b1, b2, b3⟩
theorem lw_pre_spec {args : Array Value} {s : State} (h : (Jvm.Cond.and given_1 narrow_1).before args s = true) (hr : rest_1_c.before args s = true) : ∃ (b : Addr) (xs : List Int32), lw_P b xs args s := by
  have hs := flat_of_before _ h
  have hq := flat_of_before _ hr
  have hc : (Cond.count 1).before args s = true := hs _ (by decide +kernel)
  have harr : (Cond.arrayOf (.arg 0) .int).before args s = true := hs _ (by decide +kernel)
  have hle : (Cond.le (.length (.arg 0)) (.int 3072)).before args s = true := hs _ (by decide +kernel)
  have hlen : (Cond.isInt (.length (.arg 0))).before args s = true := hq _ (by decide +kernel)
  have hall : (Cond.all (.arg 0) (.isInt (.elem (.arg 0) (.index 0)))).before args s = true := hq _ (by decide +kernel)
  obtain ⟨b, xs, hb, hx⟩ := State.ints_of_pre rfl harr hlen hall
  have hsm : xs.length < 2 ^ 31 := hx.choose_spec.2.2.2
  have hev : (Term.length (.arg 0)).eval args s none [] s = some (.int xs.length.toInt32) := hx.length_eval hb
  have hv := Cond.le_ints hev (show (Term.int 3072).eval args s none [] s = some (.int 3072) from rfl)
  have hd : xs.length.toInt32 ≤ 3072 := by
    simpa [Cond.before, Cond.holds, hv] using hle
  have hN : xs.length ≤ 3072 := (Int32.ofNat_le_ofNat hsm (by decide)).mp (show Int32.ofNat xs.length ≤ Int32.ofNat 3072 from hd)
  exact ⟨b, xs, Cond.one_arg hc (show args[0]? = some (.ref b) from hb), hx, hN, h⟩
theorem lw_comes (l : Launch) : Comes l x (Jvm.Cond.code x code maxLocals ret :: tables_1) room_1 (fun tb e args s => Calls_1 tb e args s ∧ rest_1 tb e args s ∧ Pre_1 tb e args s)
    (fun _ _ args s o t => lw_Q args s o t) := by
  intro p e ha hc hk s m args below hf hfit hheap happ hpre
  obtain ⟨b, xs, hP⟩ := lw_pre_spec hpre.2.2 hpre.2.1
  obtain ⟨k, o, h1, h2, h3, hQ⟩ := lw_walk l b xs p e ha hc hk s m args below hf ((Spec.applies_iff_loose hf).mp happ).1 hP trivial
  exact ⟨k, o, h1, h2, h3, hQ⟩
theorem lw_frame {s t : State} {o : Outcome} {args : Array Value} (h : Framed s o t [] 600000 7302250) :
    Framed s o t (fieldLocs frame_1_writes args s ++ arrayLocs frame_1_arrays args s ++ staticLocs frame_1_statics s) 600000 7302250 := h
theorem lw_limb (L : Cond) (hL : ∀ (args : Array Value) (s t : State), L.after args s (.returned (some (.int 1))) t = true) :
    ArmFor flags0 classFile x code maxLocals ret World_1 tables_1 room_1 Calls_1 rest_1 Pre_1
      (fun tb e a s o t => postC L tb e a s o t ∧ Framed s o t (fieldLocs frame_1_writes a s ++ arrayLocs frame_1_arrays a s ++ staticLocs frame_1_statics s) 600000 7302250) := by
  intro l _ _ _ p e ha hc hk s m args below hf hfit hheap happ hpre
  obtain ⟨k, o, h1, h2, h3, rfl, hF⟩ := lw_comes l p e ha hc hk s m args below hf hfit hheap happ hpre
  exact ⟨k, _, h1, h2, h3, hL args s _, lw_frame hF⟩
theorem i_vc : Claimed_1_1 ∧ Claimed_1_2 := ⟨lw_limb limb_1_1 (fun args s t => by simp [limb_1_1, Cond.after, Cond.holds, Cond.value]), lw_limb limb_1_2 (fun args s t => Cond.after_iff.mpr (by
  first | (rw [show limb_1_2 = Cond.eq .result (.int 1) from rfl, Cond.eq_ints (x := 1) (y := 1) rfl rfl]; simp; done) | (simp [limb_1_2, Cond.value, Term.eval]; done)))⟩
