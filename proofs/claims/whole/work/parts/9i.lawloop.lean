/-! THE LAW's loop -/
theorem and15 (v : Int32) : ∃ d : Nat, d < 16 ∧ v &&& 15 = nI d := by
  refine ⟨(v &&& 15).toBitVec.toNat, ?_, ?_⟩
  · rw [Int32.toBitVec_and, BitVec.toNat_and]
    exact Nat.lt_of_le_of_lt Nat.and_le_right (by decide)
  · refine Int32.toBitVec_inj.mp ?_
    show (v &&& 15).toBitVec = BitVec.ofNat 32 (v &&& 15).toBitVec.toNat
    rw [BitVec.ofNat_toNat, BitVec.setWidth_eq]
theorem lw_more {L j : Nat} (hL : L ≤ 3072) (hj : j ≤ 3072) (h : ¬ L.toInt32 - 6 < nI j) : j + 6 ≤ L := by
  refine Nat.not_lt.mp (fun hlt => h ?_)
  rw [Int32.lt_iff_toInt_lt, nI_toInt (by omega)]
  by_cases h6 : 6 ≤ L
  · have e : L.toInt32 - 6 = nI (L - 6) := nI_sub (a := L) (b := 6) h6
    rw [e, nI_toInt (by omega)]
    omega
  · have e : (L.toInt32 - 6).toInt < 0 := by
      rcases (show L = 0 ∨ L = 1 ∨ L = 2 ∨ L = 3 ∨ L = 4 ∨ L = 5 by omega) with rfl | rfl | rfl | rfl | rfl | rfl <;> decide
    omega
/-- the end of the law: its Q, its argument, the heap's size -/
def ce (E : mm_E) : Prop := match E with
  | (G, p, e, R, s, m, args, below, meth, c, Q) => (∃ b : Nat, args = #[Value.ref b]) ∧ Q = lw_Z below args s ∧ mm_gb G = s.heap.size
/-- the script at b, in the start's memory -/
def Sc (ge : Nat → Nat) (b L : Nat) (h0 : mm_M) : Prop := b < ge 0 ∧ mm_k h0 b = 100 ∧ mm_n h0 b = L ∧ L ≤ 3072
abbrev lw_lv (b ax k : Nat) : List (Nat × Value) := [(0, va_rf (some b)), (1, va_rf (some ax)), (2, va_rf (some (ax + 91))), (3, .int (nI (6 * k)))]
section LW
variable {E : mm_E} {cs sl pc b L ax k : Nat} {M h0 : mm_M} {X : sX} {rest : List Value}
theorem V_end9 {own : String} {lv : List (Nat × Value)} (hc : cx E own code 4 ret room_1) (he : ce E) (h1 : cs ≤ 600000) (h2 : sl ≤ 7302250) (hd : decode code pc = .ok (.ireturn, 1)) : V E 4 cs sl M pc lv [.int 1] := by
  obtain ⟨G, p, e, R, s, m, args, below, meth, c, Q⟩ := E
  obtain ⟨hx, hb, hml, hret, hlk, hown, hts, hK, hbs, hX, hG, hRm⟩ := hc
  obtain ⟨⟨b, rfl⟩, rfl, hgb⟩ := he
  subst hRm
  intro H locs ls hR hS hlv
  refine va_forget (fun q hq => ?_) (W.widen h1 h2 (lw_ret hx hb hret hlk hd))
  have := hS.2.2 q hq
  unfold mm_fr at this
  rw [hgb] at this
  exact this
theorem V_arg {r : Nat} {n : Int} (hc : cx E "EpochServerLaw" code 4 ret room_1) (hS : Sc (mm_ge (eG E)) b L h0) (hB : bel (mm_ge (eG E) 0) h0 M) (hn : Int32.ofInt n = nI r) (hk : 6 * k + r < L) (d0 : decode code pc = .ok (.aload_n 0, 1)) (d1 : decode code (pc + 1) = .ok (.iload_n 3, 1)) (d2 : decode code (pc + 2) = .ok (.iconst n, 1)) (d3 : decode code (pc + 3) = .ok (.iadd, 1)) (d4 : decode code (pc + 4) = .ok (.iaload, 1))
    (kk : V E 4 cs sl M (pc + 5) (lw_lv b ax k) (.int (mm_I h0 b (6 * k + r)) :: rest)) : V E 4 cs sl M pc (lw_lv b ax k) rest := by
  obtain ⟨s1, s2, s3, s4⟩ := hS
  obtain ⟨b1, b2, b3⟩ := hB b s1
  refine V_aload_n hc 0 d0 rfl rfl ?_
  refine V_iload_n hc 3 d1 rfl rfl ?_
  refine V_iconst hc d2 hn ?_
  refine V_iadd hc d3 ?_
  rw [nI_add]
  refine V_iald (a := b) hc rfl (b1.trans s2) (by rw [b2, s3]; exact vp_in_nI hk (by omega)) d4 ?_
  rw [nI_clamp (by omega), b3]
  exact kk
set_option maxHeartbeats 4000000 in
theorem law_c0 (hc : cx E "EpochServerLaw" code 4 ret room_1) (hS : Sc (mm_ge (eG E)) b L h0) (hk : 6 * k + 6 ≤ L) (hcs : cs + 12 ≤ 600000) (hsl : sl + 1208 ≤ 7302250) (hJ : JY (mm_ge (eG E)) ax h0 M X X) (fin : ∀ X' M', JY (mm_ge (eG E)) ax h0 M' X' X' → V E 4 (cs + 12) (sl + 1208) M' 452 (lw_lv b ax k) []) : V E 4 cs sl M 96 (lw_lv b ax k) [] := by
  have hI := JY_Iv hJ
  have hB := JY_b hJ
  refine V_aload_n hc 1 d_law_96 rfl rfl ?_
  refine V_arg (r := 1) hc hS hB (by decide) (by omega) d_law_97 d_law_98 d_law_99 d_law_100 d_law_101 ?_
  refine V_arg (r := 2) hc hS hB (by decide) (by omega) d_law_102 d_law_103 d_law_104 d_law_105 d_law_106 ?_
  refine V_arg (r := 3) hc hS hB (by decide) (by omega) d_law_107 d_law_108 d_law_109 d_law_110 d_law_111 ?_
  refine V_arg (r := 4) hc hS hB (by decide) (by omega) d_law_112 d_law_113 d_law_114 d_law_115 d_law_116 ?_
  refine V_arg (r := 5) hc hS hB (by decide) (by omega) d_law_117 d_law_118 d_law_119 d_law_120 d_law_121 ?_
  refine V_callV (rm' := rm_Server_feed) (As := [.int (mm_I h0 b (6 * k + 1)), .int (mm_I h0 b (6 * k + 2)), .int (mm_I h0 b (6 * k + 3)), .int (mm_I h0 b (6 * k + 4)), .int (mm_I h0 b (6 * k + 5))]) (rest := []) (n := 5) (cn := 1) hc rfl (JY_k hJ).1 (sat_Server_feed (eG E) _ (mm_I h0 b (6 * k + 1)) (mm_I h0 b (6 * k + 2)) (mm_I h0 b (6 * k + 3)) (mm_I h0 b (6 * k + 4)) (mm_I h0 b (6 * k + 5)) _ (fun r M' => r = (xFeed (mm_I h0 b (6 * k + 1)) (mm_I h0 b (6 * k + 2)) (mm_I h0 b (6 * k + 3)) (mm_I h0 b (6 * k + 4)) (mm_I h0 b (6 * k + 5)) X).1 ∧ JY (mm_ge (eG E)) ax h0 M' (xFeed (mm_I h0 b (6 * k + 1)) (mm_I h0 b (6 * k + 2)) (mm_I h0 b (6 * k + 3)) (mm_I h0 b (6 * k + 4)) (mm_I h0 b (6 * k + 5)) X).2 X) (jc_feed hJ (mm_I h0 b (6 * k + 1)) (mm_I h0 b (6 * k + 2)) (mm_I h0 b (6 * k + 3)) (mm_I h0 b (6 * k + 4)) (mm_I h0 b (6 * k + 5)) _ (fun M' J' => ⟨rfl, J'⟩))) rfl cv_Law_13 (gw_of (tw_2 (List.mem_of_getElem? (i := 146) rfl)) rfl) ss_Server_feed rfl ⟨Nat.le_of_ble_eq_true rfl, Nat.le_of_ble_eq_true rfl⟩ (by show cs + 0 ≤ 600000; omega) (by show sl + 0 ≤ 7302250; omega) rfl (by simp [cat_rf, cat_i, cat_l]) d_law_122 (fun r0 M1 hw => ?_)
  obtain ⟨y1, rfl, hy1, J1⟩ := hw
  have hB1 := JY_b J1
  refine V_wide (cs' := cs + 12) (sl' := sl + 1208) (by show cs + 0 ≤ _; omega) (by show sl + 0 ≤ _; omega) ?_
  refine V_st (st' := [.int y1]) rfl ?_
  refine V_aload_n hc 2 d_law_125 rfl rfl ?_
  refine V_arg (r := 1) hc hS hB1 (by decide) (by omega) d_law_126 d_law_127 d_law_128 d_law_129 d_law_130 ?_
  refine V_arg (r := 2) hc hS hB1 (by decide) (by omega) d_law_131 d_law_132 d_law_133 d_law_134 d_law_135 ?_
  refine V_arg (r := 3) hc hS hB1 (by decide) (by omega) d_law_136 d_law_137 d_law_138 d_law_139 d_law_140 ?_
  refine V_arg (r := 4) hc hS hB1 (by decide) (by omega) d_law_141 d_law_142 d_law_143 d_law_144 d_law_145 ?_
  refine V_arg (r := 5) hc hS hB1 (by decide) (by omega) d_law_146 d_law_147 d_law_148 d_law_149 d_law_150 ?_
  refine V_callV (rm' := rm_Model_feed) (As := [.int (mm_I h0 b (6 * k + 1)), .int (mm_I h0 b (6 * k + 2)), .int (mm_I h0 b (6 * k + 3)), .int (mm_I h0 b (6 * k + 4)), .int (mm_I h0 b (6 * k + 5))]) (rest := [.int y1]) (n := 5) (cn := 0) hc rfl (JY_k J1).2 (sat_Model_feed (eG E) _ (mm_I h0 b (6 * k + 1)) (mm_I h0 b (6 * k + 2)) (mm_I h0 b (6 * k + 3)) (mm_I h0 b (6 * k + 4)) (mm_I h0 b (6 * k + 5)) _ (fun r M' => r = (xFeed (mm_I h0 b (6 * k + 1)) (mm_I h0 b (6 * k + 2)) (mm_I h0 b (6 * k + 3)) (mm_I h0 b (6 * k + 4)) (mm_I h0 b (6 * k + 5)) X).1 ∧ JY (mm_ge (eG E)) ax h0 M' (xFeed (mm_I h0 b (6 * k + 1)) (mm_I h0 b (6 * k + 2)) (mm_I h0 b (6 * k + 3)) (mm_I h0 b (6 * k + 4)) (mm_I h0 b (6 * k + 5)) X).2 (xFeed (mm_I h0 b (6 * k + 1)) (mm_I h0 b (6 * k + 2)) (mm_I h0 b (6 * k + 3)) (mm_I h0 b (6 * k + 4)) (mm_I h0 b (6 * k + 5)) X).2) (jr_feed J1 hI (mm_I h0 b (6 * k + 1)) (mm_I h0 b (6 * k + 2)) (mm_I h0 b (6 * k + 3)) (mm_I h0 b (6 * k + 4)) (mm_I h0 b (6 * k + 5)) _ (fun M' J' => ⟨rfl, J'⟩))) rfl cv_Law_17 (gw_of (tw_5 (List.mem_of_getElem? (i := 153) rfl)) rfl) ss_Model_feed rfl ⟨Nat.le_of_ble_eq_true rfl, Nat.le_of_ble_eq_true rfl⟩ (by show cs + 12 + 0 ≤ 600000; omega) (by show sl + 1208 + 0 ≤ 7302250; omega) rfl (by simp [cat_rf, cat_i, cat_l]) d_law_151 (fun r1 M2 hw => ?_)
  obtain ⟨y2, rfl, hy2, J2⟩ := hw
  refine V_wide (cs' := cs + 12) (sl' := sl + 1208) (by show cs + 12 + 0 ≤ _; omega) (by show sl + 1208 + 0 ≤ _; omega) ?_
  refine V_st (st' := [.int y2, .int y1]) rfl ?_
  exact V_icmp_eq (tgt := 452) hc d_law_154 (by decide) (fun _ => fin _ _ J2) (fun hn => absurd (hy1.trans hy2.symm) hn)
set_option maxHeartbeats 4000000 in
theorem law_c1 (hc : cx E "EpochServerLaw" code 4 ret room_1) (hS : Sc (mm_ge (eG E)) b L h0) (hk : 6 * k + 6 ≤ L) (hcs : cs + 12 ≤ 600000) (hsl : sl + 1208 ≤ 7302250) (hJ : JY (mm_ge (eG E)) ax h0 M X X) (fin : ∀ X' M', JY (mm_ge (eG E)) ax h0 M' X' X' → V E 4 (cs + 12) (sl + 1208) M' 452 (lw_lv b ax k) []) : V E 4 cs sl M 159 (lw_lv b ax k) [] := by
  have hI := JY_Iv hJ
  have hB := JY_b hJ
  refine V_aload_n hc 1 d_law_159 rfl rfl ?_
  refine V_arg (r := 1) hc hS hB (by decide) (by omega) d_law_160 d_law_161 d_law_162 d_law_163 d_law_164 ?_
  refine V_arg (r := 2) hc hS hB (by decide) (by omega) d_law_165 d_law_166 d_law_167 d_law_168 d_law_169 ?_
  refine V_callV (rm' := rm_Server_bend) (As := [.int (mm_I h0 b (6 * k + 1)), .int (mm_I h0 b (6 * k + 2))]) (rest := []) (n := 2) (cn := 1) hc rfl (JY_k hJ).1 (sat_Server_bend (eG E) _ (mm_I h0 b (6 * k + 1)) (mm_I h0 b (6 * k + 2)) _ (fun r M' => r = (xBend (mm_I h0 b (6 * k + 1)) (mm_I h0 b (6 * k + 2)) X).1 ∧ JY (mm_ge (eG E)) ax h0 M' (xBend (mm_I h0 b (6 * k + 1)) (mm_I h0 b (6 * k + 2)) X).2 X) (jc_bend hJ (mm_I h0 b (6 * k + 1)) (mm_I h0 b (6 * k + 2)) _ (fun M' J' => ⟨rfl, J'⟩))) rfl cv_Law_18 (gw_of (tw_2 (List.mem_of_getElem? (i := 166) rfl)) rfl) ss_Server_bend rfl ⟨Nat.le_of_ble_eq_true rfl, Nat.le_of_ble_eq_true rfl⟩ (by show cs + 0 ≤ 600000; omega) (by show sl + 0 ≤ 7302250; omega) rfl (by simp [cat_rf, cat_i, cat_l]) d_law_170 (fun r0 M1 hw => ?_)
  obtain ⟨y1, rfl, hy1, J1⟩ := hw
  have hB1 := JY_b J1
  refine V_wide (cs' := cs + 12) (sl' := sl + 1208) (by show cs + 0 ≤ _; omega) (by show sl + 0 ≤ _; omega) ?_
  refine V_st (st' := [.int y1]) rfl ?_
  refine V_aload_n hc 2 d_law_173 rfl rfl ?_
  refine V_arg (r := 1) hc hS hB1 (by decide) (by omega) d_law_174 d_law_175 d_law_176 d_law_177 d_law_178 ?_
  refine V_arg (r := 2) hc hS hB1 (by decide) (by omega) d_law_179 d_law_180 d_law_181 d_law_182 d_law_183 ?_
  refine V_callV (rm' := rm_Model_bend) (As := [.int (mm_I h0 b (6 * k + 1)), .int (mm_I h0 b (6 * k + 2))]) (rest := [.int y1]) (n := 2) (cn := 0) hc rfl (JY_k J1).2 (sat_Model_bend (eG E) _ (mm_I h0 b (6 * k + 1)) (mm_I h0 b (6 * k + 2)) _ (fun r M' => r = (xBend (mm_I h0 b (6 * k + 1)) (mm_I h0 b (6 * k + 2)) X).1 ∧ JY (mm_ge (eG E)) ax h0 M' (xBend (mm_I h0 b (6 * k + 1)) (mm_I h0 b (6 * k + 2)) X).2 (xBend (mm_I h0 b (6 * k + 1)) (mm_I h0 b (6 * k + 2)) X).2) (jr_bend J1 hI (mm_I h0 b (6 * k + 1)) (mm_I h0 b (6 * k + 2)) _ (fun M' J' => ⟨rfl, J'⟩))) rfl cv_Law_22 (gw_of (tw_5 (List.mem_of_getElem? (i := 161) rfl)) rfl) ss_Model_bend rfl ⟨Nat.le_of_ble_eq_true rfl, Nat.le_of_ble_eq_true rfl⟩ (by show cs + 12 + 0 ≤ 600000; omega) (by show sl + 1208 + 0 ≤ 7302250; omega) rfl (by simp [cat_rf, cat_i, cat_l]) d_law_184 (fun r1 M2 hw => ?_)
  obtain ⟨y2, rfl, hy2, J2⟩ := hw
  refine V_wide (cs' := cs + 12) (sl' := sl + 1208) (by show cs + 12 + 0 ≤ _; omega) (by show sl + 1208 + 0 ≤ _; omega) ?_
  refine V_st (st' := [.int y2, .int y1]) rfl ?_
  exact V_icmp_eq (tgt := 452) hc d_law_187 (by decide) (fun _ => fin _ _ J2) (fun hn => absurd (hy1.trans hy2.symm) hn)
set_option maxHeartbeats 4000000 in
theorem law_c2 (hc : cx E "EpochServerLaw" code 4 ret room_1) (hS : Sc (mm_ge (eG E)) b L h0) (hk : 6 * k + 6 ≤ L) (hcs : cs + 12 ≤ 600000) (hsl : sl + 1208 ≤ 7302250) (hJ : JY (mm_ge (eG E)) ax h0 M X X) (fin : ∀ X' M', JY (mm_ge (eG E)) ax h0 M' X' X' → V E 4 (cs + 12) (sl + 1208) M' 452 (lw_lv b ax k) []) : V E 4 cs sl M 192 (lw_lv b ax k) [] := by
  have hI := JY_Iv hJ
  have hB := JY_b hJ
  refine V_aload_n hc 1 d_law_192 rfl rfl ?_
  refine V_arg (r := 1) hc hS hB (by decide) (by omega) d_law_193 d_law_194 d_law_195 d_law_196 d_law_197 ?_
  refine V_callV (rm' := rm_Server_message) (As := [.int (mm_I h0 b (6 * k + 1))]) (rest := []) (n := 1) (cn := 1) hc rfl (JY_k hJ).1 (sat_Server_message (eG E) _ (mm_I h0 b (6 * k + 1)) _ (fun r M' => r = (xMsg (mm_I h0 b (6 * k + 1)) X).1 ∧ JY (mm_ge (eG E)) ax h0 M' (xMsg (mm_I h0 b (6 * k + 1)) X).2 X) (jc_msg hJ (mm_I h0 b (6 * k + 1)) _ (fun M' J' => ⟨rfl, J'⟩))) rfl cv_Law_23 (gw_of (tw_2 (List.mem_of_getElem? (i := 178) rfl)) rfl) ss_Server_message rfl ⟨Nat.le_of_ble_eq_true rfl, Nat.le_of_ble_eq_true rfl⟩ (by show cs + 12 ≤ 600000; omega) (by show sl + 1208 ≤ 7302250; omega) rfl (by simp [cat_rf, cat_i, cat_l]) d_law_198 (fun r0 M1 hw => ?_)
  obtain ⟨y1, rfl, hy1, J1⟩ := hw
  have hB1 := JY_b J1
  refine V_wide (cs' := cs + 12) (sl' := sl + 1208) (by show cs + 12 ≤ _; omega) (by show sl + 1208 ≤ _; omega) ?_
  refine V_st (st' := [.int y1]) rfl ?_
  refine V_aload_n hc 2 d_law_201 rfl rfl ?_
  refine V_arg (r := 1) hc hS hB1 (by decide) (by omega) d_law_202 d_law_203 d_law_204 d_law_205 d_law_206 ?_
  refine V_callV (rm' := rm_Model_message) (As := [.int (mm_I h0 b (6 * k + 1))]) (rest := [.int y1]) (n := 1) (cn := 0) hc rfl (JY_k J1).2 (sat_Model_message (eG E) _ (mm_I h0 b (6 * k + 1)) _ (fun r M' => r = (xMsg (mm_I h0 b (6 * k + 1)) X).1 ∧ JY (mm_ge (eG E)) ax h0 M' (xMsg (mm_I h0 b (6 * k + 1)) X).2 (xMsg (mm_I h0 b (6 * k + 1)) X).2) (jr_msg J1 hI (mm_I h0 b (6 * k + 1)) _ (fun M' J' => ⟨rfl, J'⟩))) rfl cv_Law_27 (gw_of (tw_5 (List.mem_of_getElem? (i := 168) rfl)) rfl) ss_Model_message rfl ⟨Nat.le_of_ble_eq_true rfl, Nat.le_of_ble_eq_true rfl⟩ (by show cs + 12 + 0 ≤ 600000; omega) (by show sl + 1208 + 0 ≤ 7302250; omega) rfl (by simp [cat_rf, cat_i, cat_l]) d_law_207 (fun r1 M2 hw => ?_)
  obtain ⟨y2, rfl, hy2, J2⟩ := hw
  refine V_wide (cs' := cs + 12) (sl' := sl + 1208) (by show cs + 12 + 0 ≤ _; omega) (by show sl + 1208 + 0 ≤ _; omega) ?_
  refine V_st (st' := [.int y2, .int y1]) rfl ?_
  exact V_icmp_eq (tgt := 452) hc d_law_210 (by decide) (fun _ => fin _ _ J2) (fun hn => absurd (hy1.trans hy2.symm) hn)
set_option maxHeartbeats 4000000 in
theorem law_c3 (hc : cx E "EpochServerLaw" code 4 ret room_1) (hS : Sc (mm_ge (eG E)) b L h0) (hk : 6 * k + 6 ≤ L) (hcs : cs + 12 ≤ 600000) (hsl : sl + 1208 ≤ 7302250) (hJ : JY (mm_ge (eG E)) ax h0 M X X) (fin : ∀ X' M', JY (mm_ge (eG E)) ax h0 M' X' X' → V E 4 (cs + 12) (sl + 1208) M' 452 (lw_lv b ax k) []) : V E 4 cs sl M 215 (lw_lv b ax k) [] := by
  have hI := JY_Iv hJ
  have hB := JY_b hJ
  refine V_aload_n hc 1 d_law_215 rfl rfl ?_
  refine V_arg (r := 1) hc hS hB (by decide) (by omega) d_law_216 d_law_217 d_law_218 d_law_219 d_law_220 ?_
  refine V_callV (rm' := rm_Server_answer) (As := [.int (mm_I h0 b (6 * k + 1))]) (rest := []) (n := 1) (cn := 1) hc rfl (JY_k hJ).1 (sat_Server_answer (eG E) _ (mm_I h0 b (6 * k + 1)) _ (fun r M' => r = (xAns (mm_I h0 b (6 * k + 1)) X) ∧ JY (mm_ge (eG E)) ax h0 M' X X) (jc_ans hJ (mm_I h0 b (6 * k + 1)) _ (fun M' J' => ⟨rfl, J'⟩))) rfl cv_Law_28 (gw_of (tw_4 (List.mem_of_getElem? (i := 38) rfl)) rfl) ss_Server_answer rfl ⟨Nat.le_of_ble_eq_true rfl, Nat.le_of_ble_eq_true rfl⟩ (by show cs + 0 ≤ 600000; omega) (by show sl + 0 ≤ 7302250; omega) rfl (by simp [cat_rf, cat_i, cat_l]) d_law_221 (fun r0 M1 hw => ?_)
  obtain ⟨y1, rfl, hy1, J1⟩ := hw
  have hB1 := JY_b J1
  refine V_wide (cs' := cs + 12) (sl' := sl + 1208) (by show cs + 0 ≤ _; omega) (by show sl + 0 ≤ _; omega) ?_
  refine V_st (st' := [.int y1]) rfl ?_
  refine V_aload_n hc 2 d_law_224 rfl rfl ?_
  refine V_arg (r := 1) hc hS hB1 (by decide) (by omega) d_law_225 d_law_226 d_law_227 d_law_228 d_law_229 ?_
  refine V_callV (rm' := rm_Model_answer) (As := [.int (mm_I h0 b (6 * k + 1))]) (rest := [.int y1]) (n := 1) (cn := 0) hc rfl (JY_k J1).2 (sat_Model_answer (eG E) _ (mm_I h0 b (6 * k + 1)) _ (fun r M' => r = (xAns (mm_I h0 b (6 * k + 1)) X) ∧ JY (mm_ge (eG E)) ax h0 M' X X) (jr_ans J1 hI (mm_I h0 b (6 * k + 1)) _ (fun M' J' => ⟨rfl, J'⟩))) rfl cv_Law_31 (gw_of (tw_6 (List.mem_of_getElem? (i := 135) rfl)) rfl) ss_Model_answer rfl ⟨Nat.le_of_ble_eq_true rfl, Nat.le_of_ble_eq_true rfl⟩ (by show cs + 12 + 0 ≤ 600000; omega) (by show sl + 1208 + 0 ≤ 7302250; omega) rfl (by simp [cat_rf, cat_i, cat_l]) d_law_230 (fun r1 M2 hw => ?_)
  obtain ⟨y2, rfl, hy2, J2⟩ := hw
  refine V_wide (cs' := cs + 12) (sl' := sl + 1208) (by show cs + 12 + 0 ≤ _; omega) (by show sl + 1208 + 0 ≤ _; omega) ?_
  refine V_st (st' := [.int y2, .int y1]) rfl ?_
  exact V_icmp_eq (tgt := 452) hc d_law_233 (by decide) (fun _ => fin _ _ J2) (fun hn => absurd (hy1.trans hy2.symm) hn)
set_option maxHeartbeats 4000000 in
theorem law_c4 (hc : cx E "EpochServerLaw" code 4 ret room_1) (hS : Sc (mm_ge (eG E)) b L h0) (hk : 6 * k + 6 ≤ L) (hcs : cs + 12 ≤ 600000) (hsl : sl + 1208 ≤ 7302250) (hJ : JY (mm_ge (eG E)) ax h0 M X X) (fin : ∀ X' M', JY (mm_ge (eG E)) ax h0 M' X' X' → V E 4 (cs + 12) (sl + 1208) M' 452 (lw_lv b ax k) []) : V E 4 cs sl M 238 (lw_lv b ax k) [] := by
  have hI := JY_Iv hJ
  have hB := JY_b hJ
  refine V_aload_n hc 1 d_law_238 rfl rfl ?_
  refine V_arg (r := 1) hc hS hB (by decide) (by omega) d_law_239 d_law_240 d_law_241 d_law_242 d_law_243 ?_
  refine V_callV (rm' := rm_Server_word) (As := [.int (mm_I h0 b (6 * k + 1))]) (rest := []) (n := 1) (cn := 1) hc rfl (JY_k hJ).1 (sat_Server_word (eG E) _ (mm_I h0 b (6 * k + 1)) _ (fun r M' => r = (xWord (mm_I h0 b (6 * k + 1)) X) ∧ JY (mm_ge (eG E)) ax h0 M' X X) (jc_word hJ (mm_I h0 b (6 * k + 1)) _ (fun M' J' => ⟨rfl, J'⟩))) rfl cv_Law_32 (gw_of (tw_4 (List.mem_of_getElem? (i := 42) rfl)) rfl) ss_Server_word rfl ⟨Nat.le_of_ble_eq_true rfl, Nat.le_of_ble_eq_true rfl⟩ (by show cs + 0 ≤ 600000; omega) (by show sl + 0 ≤ 7302250; omega) rfl (by simp [cat_rf, cat_i, cat_l]) d_law_244 (fun r0 M1 hw => ?_)
  obtain ⟨y1, rfl, hy1, J1⟩ := hw
  have hB1 := JY_b J1
  refine V_wide (cs' := cs + 12) (sl' := sl + 1208) (by show cs + 0 ≤ _; omega) (by show sl + 0 ≤ _; omega) ?_
  refine V_st (st' := [.int y1]) rfl ?_
  refine V_aload_n hc 2 d_law_247 rfl rfl ?_
  refine V_arg (r := 1) hc hS hB1 (by decide) (by omega) d_law_248 d_law_249 d_law_250 d_law_251 d_law_252 ?_
  refine V_callV (rm' := rm_Model_word) (As := [.int (mm_I h0 b (6 * k + 1))]) (rest := [.int y1]) (n := 1) (cn := 0) hc rfl (JY_k J1).2 (sat_Model_word (eG E) _ (mm_I h0 b (6 * k + 1)) _ (fun r M' => r = (xWord (mm_I h0 b (6 * k + 1)) X) ∧ JY (mm_ge (eG E)) ax h0 M' X X) (jr_word J1 hI (mm_I h0 b (6 * k + 1)) _ (fun M' J' => ⟨rfl, J'⟩))) rfl cv_Law_35 (gw_of (tw_6 (List.mem_of_getElem? (i := 139) rfl)) rfl) ss_Model_word rfl ⟨Nat.le_of_ble_eq_true rfl, Nat.le_of_ble_eq_true rfl⟩ (by show cs + 12 + 0 ≤ 600000; omega) (by show sl + 1208 + 0 ≤ 7302250; omega) rfl (by simp [cat_rf, cat_i, cat_l]) d_law_253 (fun r1 M2 hw => ?_)
  obtain ⟨y2, rfl, hy2, J2⟩ := hw
  refine V_wide (cs' := cs + 12) (sl' := sl + 1208) (by show cs + 12 + 0 ≤ _; omega) (by show sl + 1208 + 0 ≤ _; omega) ?_
  refine V_st (st' := [.int y2, .int y1]) rfl ?_
  exact V_icmp_eq (tgt := 452) hc d_law_256 (by decide) (fun _ => fin _ _ J2) (fun hn => absurd (hy1.trans hy2.symm) hn)
set_option maxHeartbeats 4000000 in
theorem law_c5 (hc : cx E "EpochServerLaw" code 4 ret room_1) (hS : Sc (mm_ge (eG E)) b L h0) (hk : 6 * k + 6 ≤ L) (hcs : cs + 12 ≤ 600000) (hsl : sl + 1208 ≤ 7302250) (hJ : JY (mm_ge (eG E)) ax h0 M X X) (fin : ∀ X' M', JY (mm_ge (eG E)) ax h0 M' X' X' → V E 4 (cs + 12) (sl + 1208) M' 452 (lw_lv b ax k) []) : V E 4 cs sl M 261 (lw_lv b ax k) [] := by
  have hI := JY_Iv hJ
  have hB := JY_b hJ
  refine V_aload_n hc 1 d_law_261 rfl rfl ?_
  refine V_callV (rm' := rm_Server_snap) (As := []) (rest := []) (n := 0) (cn := 1) hc rfl (JY_k hJ).1 (sat_Server_snap (eG E) _ _ (fun r M' => r = (xSnap X).1 ∧ JY (mm_ge (eG E)) ax h0 M' (xSnap X).2 X) (jc_snap hJ _ (fun M' J' => ⟨rfl, J'⟩))) rfl cv_Law_36 (gw_of (tw_4 (List.mem_of_getElem? (i := 46) rfl)) rfl) ss_Server_snap rfl ⟨Nat.le_of_ble_eq_true rfl, Nat.le_of_ble_eq_true rfl⟩ (by show cs + 2 ≤ 600000; omega) (by show sl + 61 ≤ 7302250; omega) rfl (by simp [cat_rf, cat_i, cat_l]) d_law_262 (fun r0 M1 hw => ?_)
  obtain ⟨y1, rfl, hy1, J1⟩ := hw
  have hB1 := JY_b J1
  refine V_wide (cs' := cs + 12) (sl' := sl + 1208) (by show cs + 2 ≤ _; omega) (by show sl + 61 ≤ _; omega) ?_
  refine V_st (st' := [.int y1]) rfl ?_
  refine V_aload_n hc 2 d_law_265 rfl rfl ?_
  refine V_callV (rm' := rm_Model_snap) (As := []) (rest := [.int y1]) (n := 0) (cn := 0) hc rfl (JY_k J1).2 (sat_Model_snap (eG E) _ _ (fun r M' => r = (xSnap X).1 ∧ JY (mm_ge (eG E)) ax h0 M' (xSnap X).2 (xSnap X).2) (jr_snap J1 hI _ (fun M' J' => ⟨rfl, J'⟩))) rfl cv_Law_40 (gw_of (tw_6 (List.mem_of_getElem? (i := 143) rfl)) rfl) ss_Model_snap rfl ⟨Nat.le_of_ble_eq_true rfl, Nat.le_of_ble_eq_true rfl⟩ (by show cs + 12 + 0 ≤ 600000; omega) (by show sl + 1208 + 0 ≤ 7302250; omega) rfl (by simp [cat_rf, cat_i, cat_l]) d_law_266 (fun r1 M2 hw => ?_)
  obtain ⟨y2, rfl, hy2, J2⟩ := hw
  refine V_wide (cs' := cs + 12) (sl' := sl + 1208) (by show cs + 12 + 0 ≤ _; omega) (by show sl + 1208 + 0 ≤ _; omega) ?_
  refine V_st (st' := [.int y2, .int y1]) rfl ?_
  exact V_icmp_eq (tgt := 452) hc d_law_269 (by decide) (fun _ => fin _ _ J2) (fun hn => absurd (hy1.trans hy2.symm) hn)
set_option maxHeartbeats 4000000 in
theorem law_c6 (hc : cx E "EpochServerLaw" code 4 ret room_1) (hS : Sc (mm_ge (eG E)) b L h0) (hk : 6 * k + 6 ≤ L) (hcs : cs + 12 ≤ 600000) (hsl : sl + 1208 ≤ 7302250) (hJ : JY (mm_ge (eG E)) ax h0 M X X) (fin : ∀ X' M', JY (mm_ge (eG E)) ax h0 M' X' X' → V E 4 (cs + 12) (sl + 1208) M' 452 (lw_lv b ax k) []) : V E 4 cs sl M 274 (lw_lv b ax k) [] := by
  have hI := JY_Iv hJ
  have hB := JY_b hJ
  refine V_aload_n hc 1 d_law_274 rfl rfl ?_
  refine V_arg (r := 1) hc hS hB (by decide) (by omega) d_law_275 d_law_276 d_law_277 d_law_278 d_law_279 ?_
  refine V_callV (rm' := rm_Server_archive) (As := [.int (mm_I h0 b (6 * k + 1))]) (rest := []) (n := 1) (cn := 1) hc rfl (JY_k hJ).1 (sat_Server_archive (eG E) _ (mm_I h0 b (6 * k + 1)) _ (fun r M' => r = (xArc (mm_I h0 b (6 * k + 1)) X).1 ∧ JY (mm_ge (eG E)) ax h0 M' (xArc (mm_I h0 b (6 * k + 1)) X).2 X) (jc_arc hJ (mm_I h0 b (6 * k + 1)) _ (fun M' J' => ⟨rfl, J'⟩))) rfl cv_Law_41 (gw_of (tw_4 (List.mem_of_getElem? (i := 56) rfl)) rfl) ss_Server_archive rfl ⟨Nat.le_of_ble_eq_true rfl, Nat.le_of_ble_eq_true rfl⟩ (by show cs + 0 ≤ 600000; omega) (by show sl + 0 ≤ 7302250; omega) rfl (by simp [cat_rf, cat_i, cat_l]) d_law_280 (fun r0 M1 hw => ?_)
  obtain ⟨y1, rfl, hy1, J1⟩ := hw
  have hB1 := JY_b J1
  refine V_wide (cs' := cs + 12) (sl' := sl + 1208) (by show cs + 0 ≤ _; omega) (by show sl + 0 ≤ _; omega) ?_
  refine V_st (st' := [.int y1]) rfl ?_
  refine V_aload_n hc 2 d_law_283 rfl rfl ?_
  refine V_arg (r := 1) hc hS hB1 (by decide) (by omega) d_law_284 d_law_285 d_law_286 d_law_287 d_law_288 ?_
  refine V_callV (rm' := rm_Model_archive) (As := [.int (mm_I h0 b (6 * k + 1))]) (rest := [.int y1]) (n := 1) (cn := 0) hc rfl (JY_k J1).2 (sat_Model_archive (eG E) _ (mm_I h0 b (6 * k + 1)) _ (fun r M' => r = (xArc (mm_I h0 b (6 * k + 1)) X).1 ∧ JY (mm_ge (eG E)) ax h0 M' (xArc (mm_I h0 b (6 * k + 1)) X).2 (xArc (mm_I h0 b (6 * k + 1)) X).2) (jr_arc J1 hI (mm_I h0 b (6 * k + 1)) _ (fun M' J' => ⟨rfl, J'⟩))) rfl cv_Law_44 (gw_of (tw_6 (List.mem_of_getElem? (i := 163) rfl)) rfl) ss_Model_archive rfl ⟨Nat.le_of_ble_eq_true rfl, Nat.le_of_ble_eq_true rfl⟩ (by show cs + 12 + 0 ≤ 600000; omega) (by show sl + 1208 + 0 ≤ 7302250; omega) rfl (by simp [cat_rf, cat_i, cat_l]) d_law_289 (fun r1 M2 hw => ?_)
  obtain ⟨y2, rfl, hy2, J2⟩ := hw
  refine V_wide (cs' := cs + 12) (sl' := sl + 1208) (by show cs + 12 + 0 ≤ _; omega) (by show sl + 1208 + 0 ≤ _; omega) ?_
  refine V_st (st' := [.int y2, .int y1]) rfl ?_
  exact V_icmp_eq (tgt := 452) hc d_law_292 (by decide) (fun _ => fin _ _ J2) (fun hn => absurd (hy1.trans hy2.symm) hn)
set_option maxHeartbeats 4000000 in
theorem law_c7 (hc : cx E "EpochServerLaw" code 4 ret room_1) (hS : Sc (mm_ge (eG E)) b L h0) (hk : 6 * k + 6 ≤ L) (hcs : cs + 12 ≤ 600000) (hsl : sl + 1208 ≤ 7302250) (hJ : JY (mm_ge (eG E)) ax h0 M X X) (fin : ∀ X' M', JY (mm_ge (eG E)) ax h0 M' X' X' → V E 4 (cs + 12) (sl + 1208) M' 452 (lw_lv b ax k) []) : V E 4 cs sl M 297 (lw_lv b ax k) [] := by
  have hI := JY_Iv hJ
  have hB := JY_b hJ
  refine V_aload_n hc 1 d_law_297 rfl rfl ?_
  refine V_arg (r := 1) hc hS hB (by decide) (by omega) d_law_298 d_law_299 d_law_300 d_law_301 d_law_302 ?_
  refine V_arg (r := 2) hc hS hB (by decide) (by omega) d_law_303 d_law_304 d_law_305 d_law_306 d_law_307 ?_
  refine V_callV (rm' := rm_Server_score) (As := [.int (mm_I h0 b (6 * k + 1)), .int (mm_I h0 b (6 * k + 2))]) (rest := []) (n := 2) (cn := 1) hc rfl (JY_k hJ).1 (sat_Server_score (eG E) _ (mm_I h0 b (6 * k + 1)) (mm_I h0 b (6 * k + 2)) _ (fun r M' => r = (xSco (mm_I h0 b (6 * k + 1)) (mm_I h0 b (6 * k + 2)) X) ∧ JY (mm_ge (eG E)) ax h0 M' X X) (jc_sco hJ (mm_I h0 b (6 * k + 1)) (mm_I h0 b (6 * k + 2)) _ (fun M' J' => ⟨rfl, J'⟩))) rfl cv_Law_45 (gw_of (tw_4 (List.mem_of_getElem? (i := 132) rfl)) rfl) ss_Server_score rfl ⟨Nat.le_of_ble_eq_true rfl, Nat.le_of_ble_eq_true rfl⟩ (by show cs + 0 ≤ 600000; omega) (by show sl + 0 ≤ 7302250; omega) rfl (by simp [cat_rf, cat_i, cat_l]) d_law_308 (fun r0 M1 hw => ?_)
  obtain ⟨y1, rfl, hy1, J1⟩ := hw
  have hB1 := JY_b J1
  refine V_wide (cs' := cs + 12) (sl' := sl + 1208) (by show cs + 0 ≤ _; omega) (by show sl + 0 ≤ _; omega) ?_
  refine V_st (st' := [.int y1]) rfl ?_
  refine V_aload_n hc 2 d_law_311 rfl rfl ?_
  refine V_arg (r := 1) hc hS hB1 (by decide) (by omega) d_law_312 d_law_313 d_law_314 d_law_315 d_law_316 ?_
  refine V_arg (r := 2) hc hS hB1 (by decide) (by omega) d_law_317 d_law_318 d_law_319 d_law_320 d_law_321 ?_
  refine V_callV (rm' := rm_Model_score) (As := [.int (mm_I h0 b (6 * k + 1)), .int (mm_I h0 b (6 * k + 2))]) (rest := [.int y1]) (n := 2) (cn := 0) hc rfl (JY_k J1).2 (sat_Model_score (eG E) _ (mm_I h0 b (6 * k + 1)) (mm_I h0 b (6 * k + 2)) _ (fun r M' => r = (xSco (mm_I h0 b (6 * k + 1)) (mm_I h0 b (6 * k + 2)) X) ∧ JY (mm_ge (eG E)) ax h0 M' X X) (jr_sco J1 hI (mm_I h0 b (6 * k + 1)) (mm_I h0 b (6 * k + 2)) _ (fun M' J' => ⟨rfl, J'⟩))) rfl cv_Law_48 (gw_of (tw_6 (List.mem_of_getElem? (i := 204) rfl)) rfl) ss_Model_score rfl ⟨Nat.le_of_ble_eq_true rfl, Nat.le_of_ble_eq_true rfl⟩ (by show cs + 12 + 0 ≤ 600000; omega) (by show sl + 1208 + 0 ≤ 7302250; omega) rfl (by simp [cat_rf, cat_i, cat_l]) d_law_322 (fun r1 M2 hw => ?_)
  obtain ⟨y2, rfl, hy2, J2⟩ := hw
  refine V_wide (cs' := cs + 12) (sl' := sl + 1208) (by show cs + 12 + 0 ≤ _; omega) (by show sl + 1208 + 0 ≤ _; omega) ?_
  refine V_st (st' := [.int y2, .int y1]) rfl ?_
  exact V_icmp_eq (tgt := 452) hc d_law_325 (by decide) (fun _ => fin _ _ J2) (fun hn => absurd (hy1.trans hy2.symm) hn)
set_option maxHeartbeats 4000000 in
theorem law_c8 (hc : cx E "EpochServerLaw" code 4 ret room_1) (hS : Sc (mm_ge (eG E)) b L h0) (hk : 6 * k + 6 ≤ L) (hcs : cs + 12 ≤ 600000) (hsl : sl + 1208 ≤ 7302250) (hJ : JY (mm_ge (eG E)) ax h0 M X X) (fin : ∀ X' M', JY (mm_ge (eG E)) ax h0 M' X' X' → V E 4 (cs + 12) (sl + 1208) M' 452 (lw_lv b ax k) []) : V E 4 cs sl M 330 (lw_lv b ax k) [] := by
  have hI := JY_Iv hJ
  have hB := JY_b hJ
  refine V_aload_n hc 1 d_law_330 rfl rfl ?_
  refine V_arg (r := 1) hc hS hB (by decide) (by omega) d_law_331 d_law_332 d_law_333 d_law_334 d_law_335 ?_
  refine V_callV (rm' := rm_Server_crash) (As := [.int (mm_I h0 b (6 * k + 1))]) (rest := []) (n := 1) (cn := 1) hc rfl (JY_k hJ).1 (sat_Server_crash (eG E) _ (mm_I h0 b (6 * k + 1)) _ (fun r M' => r = (xCra (mm_I h0 b (6 * k + 1)) X).1 ∧ JY (mm_ge (eG E)) ax h0 M' (xCra (mm_I h0 b (6 * k + 1)) X).2 X) (jc_cra hJ (mm_I h0 b (6 * k + 1)) _ (fun M' J' => ⟨rfl, J'⟩))) rfl cv_Law_49 (gw_of (tw_4 (List.mem_of_getElem? (i := 156) rfl)) rfl) ss_Server_crash rfl ⟨Nat.le_of_ble_eq_true rfl, Nat.le_of_ble_eq_true rfl⟩ (by show cs + 0 ≤ 600000; omega) (by show sl + 0 ≤ 7302250; omega) rfl (by simp [cat_rf, cat_i, cat_l]) d_law_336 (fun r0 M1 hw => ?_)
  obtain ⟨y1, rfl, hy1, J1⟩ := hw
  have hB1 := JY_b J1
  refine V_wide (cs' := cs + 12) (sl' := sl + 1208) (by show cs + 0 ≤ _; omega) (by show sl + 0 ≤ _; omega) ?_
  refine V_st (st' := [.int y1]) rfl ?_
  refine V_aload_n hc 2 d_law_339 rfl rfl ?_
  refine V_arg (r := 1) hc hS hB1 (by decide) (by omega) d_law_340 d_law_341 d_law_342 d_law_343 d_law_344 ?_
  refine V_callV (rm' := rm_Model_crash) (As := [.int (mm_I h0 b (6 * k + 1))]) (rest := [.int y1]) (n := 1) (cn := 0) hc rfl (JY_k J1).2 (sat_Model_crash (eG E) _ (mm_I h0 b (6 * k + 1)) _ (fun r M' => r = (xCra (mm_I h0 b (6 * k + 1)) X).1 ∧ JY (mm_ge (eG E)) ax h0 M' (xCra (mm_I h0 b (6 * k + 1)) X).2 (xCra (mm_I h0 b (6 * k + 1)) X).2) (jr_cra J1 hI (mm_I h0 b (6 * k + 1)) _ (fun M' J' => ⟨rfl, J'⟩))) rfl cv_Law_52 (gw_of (tw_6 (List.mem_of_getElem? (i := 147) rfl)) rfl) ss_Model_crash rfl ⟨Nat.le_of_ble_eq_true rfl, Nat.le_of_ble_eq_true rfl⟩ (by show cs + 12 + 0 ≤ 600000; omega) (by show sl + 1208 + 0 ≤ 7302250; omega) rfl (by simp [cat_rf, cat_i, cat_l]) d_law_345 (fun r1 M2 hw => ?_)
  obtain ⟨y2, rfl, hy2, J2⟩ := hw
  refine V_wide (cs' := cs + 12) (sl' := sl + 1208) (by show cs + 12 + 0 ≤ _; omega) (by show sl + 1208 + 0 ≤ _; omega) ?_
  refine V_st (st' := [.int y2, .int y1]) rfl ?_
  exact V_icmp_eq (tgt := 452) hc d_law_348 (by decide) (fun _ => fin _ _ J2) (fun hn => absurd (hy1.trans hy2.symm) hn)
set_option maxHeartbeats 4000000 in
theorem law_c9 (hc : cx E "EpochServerLaw" code 4 ret room_1) (hS : Sc (mm_ge (eG E)) b L h0) (hk : 6 * k + 6 ≤ L) (hcs : cs + 12 ≤ 600000) (hsl : sl + 1208 ≤ 7302250) (hJ : JY (mm_ge (eG E)) ax h0 M X X) (fin : ∀ X' M', JY (mm_ge (eG E)) ax h0 M' X' X' → V E 4 (cs + 12) (sl + 1208) M' 452 (lw_lv b ax k) []) : V E 4 cs sl M 353 (lw_lv b ax k) [] := by
  have hI := JY_Iv hJ
  have hB := JY_b hJ
  refine V_aload_n hc 1 d_law_353 rfl rfl ?_
  refine V_arg (r := 1) hc hS hB (by decide) (by omega) d_law_354 d_law_355 d_law_356 d_law_357 d_law_358 ?_
  refine V_arg (r := 2) hc hS hB (by decide) (by omega) d_law_359 d_law_360 d_law_361 d_law_362 d_law_363 ?_
  refine V_arg (r := 3) hc hS hB (by decide) (by omega) d_law_364 d_law_365 d_law_366 d_law_367 d_law_368 ?_
  refine V_callV (rm' := rm_Server_file) (As := [.int (mm_I h0 b (6 * k + 1)), .int (mm_I h0 b (6 * k + 2)), .int (mm_I h0 b (6 * k + 3))]) (rest := []) (n := 3) (cn := 1) hc rfl (JY_k hJ).1 (sat_Server_file (eG E) _ (mm_I h0 b (6 * k + 1)) (mm_I h0 b (6 * k + 2)) (mm_I h0 b (6 * k + 3)) _ (fun r M' => r = (xFil (mm_I h0 b (6 * k + 1)) (mm_I h0 b (6 * k + 2)) (mm_I h0 b (6 * k + 3)) X) ∧ JY (mm_ge (eG E)) ax h0 M' X X) (jc_fil hJ (mm_I h0 b (6 * k + 1)) (mm_I h0 b (6 * k + 2)) (mm_I h0 b (6 * k + 3)) _ (fun M' J' => ⟨rfl, J'⟩))) rfl cv_Law_53 (gw_of (tw_4 (List.mem_of_getElem? (i := 169) rfl)) rfl) ss_Server_file rfl ⟨Nat.le_of_ble_eq_true rfl, Nat.le_of_ble_eq_true rfl⟩ (by show cs + 0 ≤ 600000; omega) (by show sl + 0 ≤ 7302250; omega) rfl (by simp [cat_rf, cat_i, cat_l]) d_law_369 (fun r0 M1 hw => ?_)
  obtain ⟨y1, rfl, hy1, J1⟩ := hw
  have hB1 := JY_b J1
  refine V_wide (cs' := cs + 12) (sl' := sl + 1208) (by show cs + 0 ≤ _; omega) (by show sl + 0 ≤ _; omega) ?_
  refine V_st (st' := [.int y1]) rfl ?_
  refine V_aload_n hc 2 d_law_372 rfl rfl ?_
  refine V_arg (r := 1) hc hS hB1 (by decide) (by omega) d_law_373 d_law_374 d_law_375 d_law_376 d_law_377 ?_
  refine V_arg (r := 2) hc hS hB1 (by decide) (by omega) d_law_378 d_law_379 d_law_380 d_law_381 d_law_382 ?_
  refine V_arg (r := 3) hc hS hB1 (by decide) (by omega) d_law_383 d_law_384 d_law_385 d_law_386 d_law_387 ?_
  refine V_callV (rm' := rm_Model_file) (As := [.int (mm_I h0 b (6 * k + 1)), .int (mm_I h0 b (6 * k + 2)), .int (mm_I h0 b (6 * k + 3))]) (rest := [.int y1]) (n := 3) (cn := 0) hc rfl (JY_k J1).2 (sat_Model_file (eG E) _ (mm_I h0 b (6 * k + 1)) (mm_I h0 b (6 * k + 2)) (mm_I h0 b (6 * k + 3)) _ (fun r M' => r = (xFil (mm_I h0 b (6 * k + 1)) (mm_I h0 b (6 * k + 2)) (mm_I h0 b (6 * k + 3)) X) ∧ JY (mm_ge (eG E)) ax h0 M' X X) (jr_fil J1 hI (mm_I h0 b (6 * k + 1)) (mm_I h0 b (6 * k + 2)) (mm_I h0 b (6 * k + 3)) _ (fun M' J' => ⟨rfl, J'⟩))) rfl cv_Law_57 (gw_of (tw_6 (List.mem_of_getElem? (i := 151) rfl)) rfl) ss_Model_file rfl ⟨Nat.le_of_ble_eq_true rfl, Nat.le_of_ble_eq_true rfl⟩ (by show cs + 12 + 0 ≤ 600000; omega) (by show sl + 1208 + 0 ≤ 7302250; omega) rfl (by simp [cat_rf, cat_i, cat_l]) d_law_388 (fun r1 M2 hw => ?_)
  obtain ⟨y2, rfl, hy2, J2⟩ := hw
  refine V_wide (cs' := cs + 12) (sl' := sl + 1208) (by show cs + 12 + 0 ≤ _; omega) (by show sl + 1208 + 0 ≤ _; omega) ?_
  refine V_st (st' := [.int y2, .int y1]) rfl ?_
  exact V_icmp_eq (tgt := 452) hc d_law_391 (by decide) (fun _ => fin _ _ J2) (fun hn => absurd (hy1.trans hy2.symm) hn)
set_option maxHeartbeats 4000000 in
theorem law_c10 (hc : cx E "EpochServerLaw" code 4 ret room_1) (hS : Sc (mm_ge (eG E)) b L h0) (hk : 6 * k + 6 ≤ L) (hcs : cs + 12 ≤ 600000) (hsl : sl + 1208 ≤ 7302250) (hJ : JY (mm_ge (eG E)) ax h0 M X X) (fin : ∀ X' M', JY (mm_ge (eG E)) ax h0 M' X' X' → V E 4 (cs + 12) (sl + 1208) M' 452 (lw_lv b ax k) []) : V E 4 cs sl M 396 (lw_lv b ax k) [] := by
  have hI := JY_Iv hJ
  have hB := JY_b hJ
  refine V_aload_n hc 1 d_law_396 rfl rfl ?_
  refine V_arg (r := 1) hc hS hB (by decide) (by omega) d_law_397 d_law_398 d_law_399 d_law_400 d_law_401 ?_
  refine V_arg (r := 2) hc hS hB (by decide) (by omega) d_law_402 d_law_403 d_law_404 d_law_405 d_law_406 ?_
  refine V_callV (rm' := rm_Server_fid) (As := [.int (mm_I h0 b (6 * k + 1)), .int (mm_I h0 b (6 * k + 2))]) (rest := []) (n := 2) (cn := 1) hc rfl (JY_k hJ).1 (sat_Server_fid (eG E) _ (mm_I h0 b (6 * k + 1)) (mm_I h0 b (6 * k + 2)) _ (fun r M' => r = (xFid (mm_I h0 b (6 * k + 1)) (mm_I h0 b (6 * k + 2)) X) ∧ JY (mm_ge (eG E)) ax h0 M' X X) (jc_fid hJ (mm_I h0 b (6 * k + 1)) (mm_I h0 b (6 * k + 2)) _ (fun M' J' => ⟨rfl, J'⟩))) rfl cv_Law_58 (gw_of (tw_4 (List.mem_of_getElem? (i := 173) rfl)) rfl) ss_Server_fid rfl ⟨Nat.le_of_ble_eq_true rfl, Nat.le_of_ble_eq_true rfl⟩ (by show cs + 0 ≤ 600000; omega) (by show sl + 0 ≤ 7302250; omega) rfl (by simp [cat_rf, cat_i, cat_l]) d_law_407 (fun r0 M1 hw => ?_)
  obtain ⟨y1, rfl, hy1, J1⟩ := hw
  have hB1 := JY_b J1
  refine V_wide (cs' := cs + 12) (sl' := sl + 1208) (by show cs + 0 ≤ _; omega) (by show sl + 0 ≤ _; omega) ?_
  refine V_st (st' := [.int y1]) rfl ?_
  refine V_aload_n hc 2 d_law_410 rfl rfl ?_
  refine V_arg (r := 1) hc hS hB1 (by decide) (by omega) d_law_411 d_law_412 d_law_413 d_law_414 d_law_415 ?_
  refine V_arg (r := 2) hc hS hB1 (by decide) (by omega) d_law_416 d_law_417 d_law_418 d_law_419 d_law_420 ?_
  refine V_callV (rm' := rm_Model_fid) (As := [.int (mm_I h0 b (6 * k + 1)), .int (mm_I h0 b (6 * k + 2))]) (rest := [.int y1]) (n := 2) (cn := 0) hc rfl (JY_k J1).2 (sat_Model_fid (eG E) _ (mm_I h0 b (6 * k + 1)) (mm_I h0 b (6 * k + 2)) _ (fun r M' => r = (xFid (mm_I h0 b (6 * k + 1)) (mm_I h0 b (6 * k + 2)) X) ∧ JY (mm_ge (eG E)) ax h0 M' X X) (jr_fid J1 hI (mm_I h0 b (6 * k + 1)) (mm_I h0 b (6 * k + 2)) _ (fun M' J' => ⟨rfl, J'⟩))) rfl cv_Law_61 (gw_of (tw_6 (List.mem_of_getElem? (i := 155) rfl)) rfl) ss_Model_fid rfl ⟨Nat.le_of_ble_eq_true rfl, Nat.le_of_ble_eq_true rfl⟩ (by show cs + 12 + 0 ≤ 600000; omega) (by show sl + 1208 + 0 ≤ 7302250; omega) rfl (by simp [cat_rf, cat_i, cat_l]) d_law_421 (fun r1 M2 hw => ?_)
  obtain ⟨y2, rfl, hy2, J2⟩ := hw
  refine V_wide (cs' := cs + 12) (sl' := sl + 1208) (by show cs + 12 + 0 ≤ _; omega) (by show sl + 1208 + 0 ≤ _; omega) ?_
  refine V_st (st' := [.int y2, .int y1]) rfl ?_
  exact V_icmp_eq (tgt := 452) hc d_law_424 (by decide) (fun _ => fin _ _ J2) (fun hn => absurd (hy1.trans hy2.symm) hn)
set_option maxHeartbeats 4000000 in
theorem law_c11 (hc : cx E "EpochServerLaw" code 4 ret room_1) (hS : Sc (mm_ge (eG E)) b L h0) (hk : 6 * k + 6 ≤ L) (hcs : cs + 12 ≤ 600000) (hsl : sl + 1208 ≤ 7302250) (hJ : JY (mm_ge (eG E)) ax h0 M X X) (fin : ∀ X' M', JY (mm_ge (eG E)) ax h0 M' X' X' → V E 4 (cs + 12) (sl + 1208) M' 452 (lw_lv b ax k) []) : V E 4 cs sl M 429 (lw_lv b ax k) [] := by
  have hI := JY_Iv hJ
  have hB := JY_b hJ
  refine V_aload_n hc 1 d_law_429 rfl rfl ?_
  refine V_arg (r := 1) hc hS hB (by decide) (by omega) d_law_430 d_law_431 d_law_432 d_law_433 d_law_434 ?_
  refine V_callV (rm' := rm_Server_count) (As := [.int (mm_I h0 b (6 * k + 1))]) (rest := []) (n := 1) (cn := 1) hc rfl (JY_k hJ).1 (sat_Server_count (eG E) _ (mm_I h0 b (6 * k + 1)) _ (fun r M' => r = (xCnt (mm_I h0 b (6 * k + 1)) X) ∧ JY (mm_ge (eG E)) ax h0 M' X X) (jc_cnt hJ (mm_I h0 b (6 * k + 1)) _ (fun M' J' => ⟨rfl, J'⟩))) rfl cv_Law_62 (gw_of (tw_4 (List.mem_of_getElem? (i := 177) rfl)) rfl) ss_Server_count rfl ⟨Nat.le_of_ble_eq_true rfl, Nat.le_of_ble_eq_true rfl⟩ (by show cs + 0 ≤ 600000; omega) (by show sl + 0 ≤ 7302250; omega) rfl (by simp [cat_rf, cat_i, cat_l]) d_law_435 (fun r0 M1 hw => ?_)
  obtain ⟨y1, rfl, hy1, J1⟩ := hw
  have hB1 := JY_b J1
  refine V_wide (cs' := cs + 12) (sl' := sl + 1208) (by show cs + 0 ≤ _; omega) (by show sl + 0 ≤ _; omega) ?_
  refine V_st (st' := [.int y1]) rfl ?_
  refine V_aload_n hc 2 d_law_438 rfl rfl ?_
  refine V_arg (r := 1) hc hS hB1 (by decide) (by omega) d_law_439 d_law_440 d_law_441 d_law_442 d_law_443 ?_
  refine V_callV (rm' := rm_Model_count) (As := [.int (mm_I h0 b (6 * k + 1))]) (rest := [.int y1]) (n := 1) (cn := 0) hc rfl (JY_k J1).2 (sat_Model_count (eG E) _ (mm_I h0 b (6 * k + 1)) _ (fun r M' => r = (xCnt (mm_I h0 b (6 * k + 1)) X) ∧ JY (mm_ge (eG E)) ax h0 M' X X) (jr_cnt J1 hI (mm_I h0 b (6 * k + 1)) _ (fun M' J' => ⟨rfl, J'⟩))) rfl cv_Law_65 (gw_of (tw_6 (List.mem_of_getElem? (i := 159) rfl)) rfl) ss_Model_count rfl ⟨Nat.le_of_ble_eq_true rfl, Nat.le_of_ble_eq_true rfl⟩ (by show cs + 12 + 0 ≤ 600000; omega) (by show sl + 1208 + 0 ≤ 7302250; omega) rfl (by simp [cat_rf, cat_i, cat_l]) d_law_444 (fun r1 M2 hw => ?_)
  obtain ⟨y2, rfl, hy2, J2⟩ := hw
  refine V_wide (cs' := cs + 12) (sl' := sl + 1208) (by show cs + 12 + 0 ≤ _; omega) (by show sl + 1208 + 0 ≤ _; omega) ?_
  refine V_st (st' := [.int y2, .int y1]) rfl ?_
  exact V_icmp_eq (tgt := 452) hc d_law_447 (by decide) (fun _ => fin _ _ J2) (fun hn => absurd (hy1.trans hy2.symm) hn)
theorem law_lp (hc : cx E "EpochServerLaw" code 4 ret room_1) (he : ce E) (hS : Sc (mm_ge (eG E)) b L h0) : ∀ (n k : Nat) (X : sX) (M : mm_M), L + 6 ≤ 6 * k + n → 6 * k ≤ L → JY (mm_ge (eG E)) ax h0 M X X → V E 4 (200 + 12 * k) (1000000 + 1208 * k) M 18 (lw_lv b ax k) [] := by
  intro n
  induction n with
  | zero => intro k X M h1 h2 _; omega
  | succ n ih =>
    intro k X M h1 h2 hJ
    obtain ⟨s1, s2, s3, s4⟩ := id hS
    obtain ⟨b1, b2, b3⟩ := JY_b hJ b s1
    refine V_iload_n hc 3 d_law_18 rfl rfl ?_
    refine V_aload_n hc 0 d_law_19 rfl rfl ?_
    refine V_alen (t := 0) hc rfl rfl (b1.trans s2) d_law_20 ?_
    rw [b2, s3]
    refine V_bipush (v := 6) hc d_law_21 (by decide) ?_
    refine V_isub hc d_law_23 ?_
    refine V_icmp_gt (tgt := 458) hc d_law_24 (by decide) (fun hq => ?_) (fun hq => ?_)
    · refine V_iconst (v := 1) hc d_law_458 (by decide) ?_
      exact V_end9 hc he (by omega) (by omega) d_law_459
    · have hk6 : 6 * k + 6 ≤ L := lw_more s4 (by omega) hq
      refine V_aload_n hc 0 d_law_27 rfl rfl ?_
      refine V_iload_n hc 3 d_law_28 rfl rfl ?_
      refine V_iald (a := b) hc rfl (b1.trans s2) (by rw [b2, s3]; exact vp_in_nI (by omega) (by omega)) d_law_29 ?_
      refine V_bipush (v := 15) hc d_law_30 (by decide) ?_
      refine V_iand hc d_law_32 ?_
      obtain ⟨d, hd, ed⟩ := and15 (mm_I M b (nI (6 * k)).toNatClampNeg)
      rw [ed]
      have fin : ∀ X' M', JY (mm_ge (eG E)) ax h0 M' X' X' → V E 4 (200 + 12 * k + 12) (1000000 + 1208 * k + 1208) M' 452 (lw_lv b ax k) [] := fun X' M' J' => by
        refine V_iinc (v := nI (6 * (k + 1))) (lv' := [(3, .int (nI (6 * (k + 1)))), (0, va_rf (some b)), (1, va_rf (some ax)), (2, va_rf (some (ax + 91)))]) hc 3 d_law_452 rfl (nI_add (6 * k) 6) (by decide) rfl ?_
        refine V_goto (tgt := 18) hc d_law_455 (by decide) ?_
        refine V_sub (lv' := lw_lv b ax (k + 1)) [1, 2, 3, 0] rfl ?_
        exact V_wide (cs' := 200 + 12 * (k + 1)) (sl' := 1000000 + 1208 * (k + 1)) (by omega) (by omega) (ih (k + 1) X' M' (by omega) (by omega) J')
      rcases (show d = 0 ∨ d = 1 ∨ d = 2 ∨ d = 3 ∨ d = 4 ∨ d = 5 ∨ d = 6 ∨ d = 7 ∨ d = 8 ∨ d = 9 ∨ d = 10 ∨ d = 11 ∨ d = 12 ∨ d = 13 ∨ d = 14 ∨ d = 15 by omega) with rfl | rfl | rfl | rfl | rfl | rfl | rfl | rfl | rfl | rfl | rfl | rfl | rfl | rfl | rfl | rfl
      · exact V_tabIn (tgt := 96) hc d_law_33 (by decide) (by decide) (show _ = some (63 : Int) by decide) (by decide) (law_c0 hc hS hk6 (by omega) (by omega) hJ fin)
      · exact V_tabIn (tgt := 159) hc d_law_33 (by decide) (by decide) (show _ = some (126 : Int) by decide) (by decide) (law_c1 hc hS hk6 (by omega) (by omega) hJ fin)
      · exact V_tabIn (tgt := 192) hc d_law_33 (by decide) (by decide) (show _ = some (159 : Int) by decide) (by decide) (law_c2 hc hS hk6 (by omega) (by omega) hJ fin)
      · exact V_tabIn (tgt := 215) hc d_law_33 (by decide) (by decide) (show _ = some (182 : Int) by decide) (by decide) (law_c3 hc hS hk6 (by omega) (by omega) hJ fin)
      · exact V_tabIn (tgt := 238) hc d_law_33 (by decide) (by decide) (show _ = some (205 : Int) by decide) (by decide) (law_c4 hc hS hk6 (by omega) (by omega) hJ fin)
      · exact V_tabIn (tgt := 261) hc d_law_33 (by decide) (by decide) (show _ = some (228 : Int) by decide) (by decide) (law_c5 hc hS hk6 (by omega) (by omega) hJ fin)
      · exact V_tabIn (tgt := 274) hc d_law_33 (by decide) (by decide) (show _ = some (241 : Int) by decide) (by decide) (law_c6 hc hS hk6 (by omega) (by omega) hJ fin)
      · exact V_tabIn (tgt := 297) hc d_law_33 (by decide) (by decide) (show _ = some (264 : Int) by decide) (by decide) (law_c7 hc hS hk6 (by omega) (by omega) hJ fin)
      · exact V_tabIn (tgt := 330) hc d_law_33 (by decide) (by decide) (show _ = some (297 : Int) by decide) (by decide) (law_c8 hc hS hk6 (by omega) (by omega) hJ fin)
      · exact V_tabIn (tgt := 353) hc d_law_33 (by decide) (by decide) (show _ = some (320 : Int) by decide) (by decide) (law_c9 hc hS hk6 (by omega) (by omega) hJ fin)
      · exact V_tabIn (tgt := 396) hc d_law_33 (by decide) (by decide) (show _ = some (363 : Int) by decide) (by decide) (law_c10 hc hS hk6 (by omega) (by omega) hJ fin)
      · exact V_tabIn (tgt := 429) hc d_law_33 (by decide) (by decide) (show _ = some (396 : Int) by decide) (by decide) (law_c11 hc hS hk6 (by omega) (by omega) hJ fin)
      · exact V_tabOut (tgt := 452) hc d_law_33 (Or.inr (by decide)) (by decide) (V_wide (by omega) (by omega) (fin X M hJ))
      · exact V_tabOut (tgt := 452) hc d_law_33 (Or.inr (by decide)) (by decide) (V_wide (by omega) (by omega) (fin X M hJ))
      · exact V_tabOut (tgt := 452) hc d_law_33 (Or.inr (by decide)) (by decide) (V_wide (by omega) (by omega) (fin X M hJ))
      · exact V_tabOut (tgt := 452) hc d_law_33 (Or.inr (by decide)) (by decide) (V_wide (by omega) (by omega) (fin X M hJ))
end LW
