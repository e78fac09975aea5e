/-! ===== Int32 by its bits: bt x i ===== -/
def bt (x : Int32) (i : Nat) : Bool := x.toBitVec.getLsbD i
theorem b_ext {x y : Int32} (h : ∀ i, i < 32 → bt x i = bt y i) : x = y := Int32.toBitVec_inj.mp (BitVec.eq_of_getLsbD_eq (fun i hi => h i hi))
theorem b_or (x y : Int32) (i : Nat) : bt (x ||| y) i = (bt x i || bt y i) := by unfold bt; rw [Int32.toBitVec_or, BitVec.getLsbD_or]
theorem b_and (x y : Int32) (i : Nat) : bt (x &&& y) i = (bt x i && bt y i) := by unfold bt; rw [Int32.toBitVec_and, BitVec.getLsbD_and]
theorem b_xor (x y : Int32) (i : Nat) : bt (x ^^^ y) i = (bt x i ^^ bt y i) := by unfold bt; rw [Int32.toBitVec_xor, BitVec.getLsbD_xor]
theorem b_big {x : Int32} {i : Nat} (h : 32 ≤ i) : bt x i = false := BitVec.getLsbD_of_ge _ _ h
theorem b_255 (i : Nat) : bt 255 i = decide (i < 8) := by
  rcases Nat.lt_or_ge i 32 with h | h
  · exact (by decide +kernel : ∀ i, i < 32 → bt 255 i = decide (i < 8)) i h
  · rw [b_big h, decide_eq_false (by omega)]
theorem b_65535 (i : Nat) : bt 65535 i = decide (i < 16) := by
  rcases Nat.lt_or_ge i 32 with h | h
  · exact (by decide +kernel : ∀ i, i < 32 → bt 65535 i = decide (i < 16)) i h
  · rw [b_big h, decide_eq_false (by omega)]
theorem b_m1 : ∀ i, i < 32 → bt (-1) i = true := by decide +kernel
theorem b_0 (i : Nat) : bt 0 i = false := BitVec.getLsbD_zero
theorem s_l : ∀ n, n < 32 → ((nI n &&& 31).toBitVec.smod 32).toNat = n := by decide +kernel
theorem s_u : ∀ n, n < 32 → (((nI n).toUInt32 &&& Int32.toUInt32 31).toBitVec % 32).toNat = n := by decide +kernel
theorem b_shl (n : Nat) (hn : n < 32) (x : Int32) {i : Nat} (hi : i < 32) : bt (x <<< (nI n &&& 31)) i = (decide (n ≤ i) && bt x (i - n)) := by
  unfold bt
  rw [Int32.toBitVec_shiftLeft]
  show (x.toBitVec <<< ((nI n &&& 31).toBitVec.smod 32).toNat).getLsbD i = _
  rw [s_l n hn, BitVec.getLsbD_shiftLeft]
  rcases Nat.lt_or_ge i n with h | h
  · simp [h, Nat.not_le.mpr h]
  · simp [hi, h, Nat.not_lt.mpr h]
theorem b_ushr (n : Nat) (hn : n < 32) (x : Int32) (i : Nat) : bt ((x.toUInt32 >>> ((nI n).toUInt32 &&& Int32.toUInt32 31)).toInt32) i = bt x (n + i) := by
  show (x.toUInt32 >>> ((nI n).toUInt32 &&& Int32.toUInt32 31)).toBitVec.getLsbD i = x.toUInt32.toBitVec.getLsbD (n + i)
  rw [UInt32.toBitVec_shiftRight]
  show (x.toUInt32.toBitVec >>> (((nI n).toUInt32 &&& Int32.toUInt32 31).toBitVec % 32).toNat).getLsbD i = _
  rw [s_u n hn, BitVec.getLsbD_ushiftRight]
theorem b_sshr (n : Nat) (hn : n < 32) (x : Int32) {i : Nat} (hi : i < 32) : bt (x >>> (nI n &&& 31)) i = if n + i < 32 then bt x (n + i) else bt x 31 := by
  unfold bt
  rw [Int32.toBitVec_shiftRight]
  show (x.toBitVec.sshiftRight ((nI n &&& 31).toBitVec.smod 32).toNat).getLsbD i = _
  rw [s_l n hn, BitVec.getLsbD_sshiftRight, BitVec.msb_eq_getLsbD_last]
  simp [hi]
theorem b_shl8 (x : Int32) {i : Nat} (hi : i < 32) : bt (x <<< ((8 : Int32) &&& 31)) i = (decide (8 ≤ i) && bt x (i - 8)) := b_shl 8 (by omega) x hi
theorem b_shl16 (x : Int32) {i : Nat} (hi : i < 32) : bt (x <<< ((16 : Int32) &&& 31)) i = (decide (16 ≤ i) && bt x (i - 16)) := b_shl 16 (by omega) x hi
theorem b_shl24 (x : Int32) {i : Nat} (hi : i < 32) : bt (x <<< ((24 : Int32) &&& 31)) i = (decide (24 ≤ i) && bt x (i - 24)) := b_shl 24 (by omega) x hi
theorem b_sshr8 (x : Int32) {i : Nat} (hi : i < 32) : bt (x >>> ((8 : Int32) &&& 31)) i = if 8 + i < 32 then bt x (8 + i) else bt x 31 := b_sshr 8 (by omega) x hi
/-! ===== a byte read unsigned ===== -/
theorem bp_b (x : Int32) : x.toInt8.toInt32 &&& 255 = x &&& 255 := by
  apply Int32.toBitVec_inj.mp
  rw [Int32.toBitVec_and, Int32.toBitVec_and, Int8.toBitVec_toInt32, Int32.toBitVec_toInt8]
  apply BitVec.eq_of_getLsbD_eq
  intro i hi
  rw [BitVec.getLsbD_and, BitVec.getLsbD_and]
  have hm : ∀ i < 32, 8 ≤ i → (255 : Int32).toBitVec.getLsbD i = false := by decide
  rcases Nat.lt_or_ge i 8 with z | z
  · rw [BitVec.getLsbD_signExtend, BitVec.getLsbD_signExtend, if_pos z, if_pos hi]
    simp only [z, hi, decide_true, Bool.true_and]
  · rw [hm i hi z]; simp
/-! Int64 by its bits -/
def bl (x : Int64) (i : Nat) : Bool := x.toBitVec.getLsbD i
theorem l_ext {x y : Int64} (h : ∀ i, i < 64 → bl x i = bl y i) : x = y := Int64.toBitVec_inj.mp (BitVec.eq_of_getLsbD_eq (fun i hi => h i hi))
theorem l_or (x y : Int64) (i : Nat) : bl (x ||| y) i = (bl x i || bl y i) := by unfold bl; rw [Int64.toBitVec_or, BitVec.getLsbD_or]
theorem l_and (x y : Int64) (i : Nat) : bl (x &&& y) i = (bl x i && bl y i) := by unfold bl; rw [Int64.toBitVec_and, BitVec.getLsbD_and]
theorem l_big {x : Int64} {i : Nat} (h : 64 ≤ i) : bl x i = false := BitVec.getLsbD_of_ge _ _ h
theorem l_0 (i : Nat) : bl 0 i = false := BitVec.getLsbD_zero
theorem l_255 (i : Nat) : bl 255 i = decide (i < 8) := by
  rcases Nat.lt_or_ge i 64 with h | h
  · exact (by decide +kernel : ∀ i, i < 64 → bl 255 i = decide (i < 8)) i h
  · rw [l_big h, decide_eq_false (by omega)]
/-- the shift of a long by 8 i -/
theorem l_s : ∀ n, n < 8 → ((((8 : Int32) * nI n).toInt64 &&& 63).toBitVec.smod 64).toNat = 8 * n := by decide +kernel
theorem l_shl (n : Nat) (hn : n < 8) (x : Int64) {i : Nat} (hi : i < 64) : bl (x <<< (((8 : Int32) * nI n).toInt64 &&& 63)) i = (decide (8 * n ≤ i) && bl x (i - 8 * n)) := by
  unfold bl
  rw [Int64.toBitVec_shiftLeft]
  show (x.toBitVec <<< ((((8 : Int32) * nI n).toInt64 &&& 63).toBitVec.smod 64).toNat).getLsbD i = _
  rw [l_s n hn, BitVec.getLsbD_shiftLeft]
  rcases Nat.lt_or_ge i (8 * n) with h | h
  · simp [h, Nat.not_le.mpr h]
  · simp [hi, h, Nat.not_lt.mpr h]
theorem l_sshr (n : Nat) (hn : n < 8) (x : Int64) {i : Nat} (hi : i < 64) : bl (x >>> (((8 : Int32) * nI n).toInt64 &&& 63)) i = if 8 * n + i < 64 then bl x (8 * n + i) else bl x 63 := by
  unfold bl
  rw [Int64.toBitVec_shiftRight]
  show (x.toBitVec.sshiftRight ((((8 : Int32) * nI n).toInt64 &&& 63).toBitVec.smod 64).toNat).getLsbD i = _
  rw [l_s n hn, BitVec.getLsbD_sshiftRight, BitVec.msb_eq_getLsbD_last]
  simp [hi]
theorem l_i (x : Int64) {i : Nat} (hi : i < 32) : bt x.toInt32 i = bl x i := by
  unfold bt bl
  rw [Int64.toBitVec_toInt32, BitVec.getLsbD_signExtend, if_pos (show i < 64 by omega)]
  simp only [hi, decide_true, Bool.true_and]
theorem i_l (x : Int32) {i : Nat} (hi : i < 64) : bl x.toInt64 i = if i < 32 then bt x i else bt x 31 := by
  unfold bt bl
  rw [Int32.toBitVec_toInt64, BitVec.getLsbD_signExtend, BitVec.msb_eq_getLsbD_last]
  simp [hi]
/-- a byte as it is kept -/
def sb (x : Int32) : Int32 := x.toInt8.toInt32
/-- a byte: 0 .. 255 -/
def isB (x : Int32) : Prop := x &&& 255 = x
theorem isB_and (x : Int32) : isB (x &&& 255) := by
  unfold isB
  apply b_ext
  intro i hi
  rw [b_and, b_and, Bool.and_assoc, Bool.and_self]
theorem isB_bt {x : Int32} (h : isB x) {i : Nat} (hi : 8 ≤ i) : bt x i = false := by
  have : bt (x &&& 255) i = bt x i := by rw [h]
  rw [b_and, b_255, decide_eq_false (by omega), Bool.and_false] at this
  exact this.symm
theorem sb_and (x : Int32) : sb x &&& 255 = x &&& 255 := bp_b x
theorem sbt_ {x : Int32} (h : isB x) : sb x &&& 255 = x := (bp_b x).trans h
theorem sb_bt (x : Int32) {i : Nat} (hi : i < 32) : bt (sb x) i = if i < 8 then bt x i else bt x 7 := by
  unfold sb bt
  rw [Int8.toBitVec_toInt32, Int32.toBitVec_toInt8, BitVec.getLsbD_signExtend, BitVec.msb_eq_getLsbD_last]
  by_cases z : i < 8
  · rw [if_pos z, if_pos z, BitVec.getLsbD_signExtend, if_pos hi]
    simp only [z, hi, decide_true, Bool.true_and]
  · rw [if_neg z, if_neg z, BitVec.getLsbD_signExtend, if_pos (by decide)]
    simp [hi]
theorem sb_ext {x y : Int32} (h : ∀ i, i < 8 → bt x i = bt y i) : sb x = sb y := by
  apply b_ext
  intro i hi
  rw [sb_bt x hi, sb_bt y hi]
  split
  · exact h i (by assumption)
  · exact h 7 (by decide)
theorem sb_sb (x : Int32) : sb (sb x) = sb x := sb_ext (fun i hi => by rw [sb_bt x (by omega), if_pos hi])
theorem sb_a (x : Int32) : sb (x &&& 255) = sb x := sb_ext (fun i hi => by rw [b_and, b_255, decide_eq_true hi, Bool.and_true])
theorem sb_inj {x y : Int32} (hx : isB x) (hy : isB y) (h : sb x = sb y) : x = y := by rw [← sbt_ hx, h, sbt_ hy]
theorem vp_sb (x : Int32) : vp_nar .byte x = sb x := vp_nar_byte x
/-- what put keeps -/
theorem sb_put (v : Int64) (i : Nat) : vp_nar .byte (Int8.toInt32 (Int32.toInt8 (Int64.toInt32 (v >>> (((8 : Int32) * nI i).toInt64 &&& 63))))) = sb (r_b8 v i) := by
  rw [vp_sb]
  show sb (sb _) = _
  rw [sb_sb]
  apply sb_ext
  intro j hj
  unfold r_b8
  rw [l_i _ (by omega), l_i _ (by omega), l_and, l_255, decide_eq_true hj, Bool.and_true]
theorem isB_b8 (v : Int64) (i : Nat) : isB (r_b8 v i) := by
  unfold isB
  apply b_ext
  intro j hj
  rw [b_and, b_255]
  by_cases z : j < 8
  · rw [decide_eq_true z, Bool.and_true]
  · rw [decide_eq_false z, Bool.and_false]
    unfold r_b8
    rw [l_i _ hj, l_and, l_255, decide_eq_false z, Bool.and_false]
theorem b8_0 (x : Int32) : r_b8 x.toInt64 0 = x &&& 255 := by
  apply b_ext
  intro j hj
  unfold r_b8
  rw [l_i _ hj, l_and, l_255, l_sshr 0 (by decide) _ (by omega), if_pos (by omega), b_and, b_255, i_l _ (by omega), Nat.mul_zero, Nat.zero_add, if_pos hj]
/-- the bytes of an int, through the long -/
theorem s_8 : ∀ n, n < 4 → (((8 : Int32) * nI n &&& 31).toBitVec.smod 32).toNat = 8 * n := by decide +kernel
theorem b_sshr_8 (n : Nat) (hn : n < 4) (x : Int32) {i : Nat} (hi : i < 32) : bt (x >>> ((8 : Int32) * nI n &&& 31)) i = if 8 * n + i < 32 then bt x (8 * n + i) else bt x 31 := by
  unfold bt
  rw [Int32.toBitVec_shiftRight]
  show (x.toBitVec.sshiftRight (((8 : Int32) * nI n &&& 31).toBitVec.smod 32).toNat).getLsbD i = _
  rw [s_8 n hn, BitVec.getLsbD_sshiftRight, BitVec.msb_eq_getLsbD_last]
  simp [hi]
theorem b8_i (x : Int32) {n : Nat} (hn : n < 4) : r_b8 x.toInt64 n = x >>> ((8 : Int32) * nI n &&& 31) &&& 255 := by
  apply b_ext
  intro j hj
  unfold r_b8
  rw [l_i _ hj, l_and, l_255, b_and, b_255]
  by_cases z : j < 8
  · rw [l_sshr n (by omega) _ (by omega), if_pos (by omega), b_sshr_8 n hn _ hj, if_pos (by omega), i_l _ (by omega), if_pos (by omega)]
  · rw [decide_eq_false z, Bool.and_false, Bool.and_false]
