/-! the reference: its fields by place, its arrays by offset -/
abbrev F_is : Nat := 0
abbrev F_in : Nat := 1
abbrev F_mode : Nat := 2
abbrev F_version : Nat := 3
abbrev F_mtime : Nat := 4
abbrev F_size : Nat := 5
abbrev F_nameSize : Nat := 6
abbrev F_name : Nat := 7
abbrev F_data : Nat := 8
abbrev F_paths : Nat := 9
abbrev F_time : Nat := 10
abbrev F_snapshots : Nat := 11
abbrev F_looseFirst : Nat := 12
abbrev F_loose : Nat := 13
abbrev F_tape : Nat := 14
abbrev F_answer : Nat := 15
abbrev F_tapeSize : Nat := 16
abbrev F_answerSize : Nat := 17
abbrev F_ill : Nat := 18
abbrev F_errors : Nat := 19
abbrev F_msize : Nat := 20
abbrev F_fNumber : Nat := 21
abbrev F_fTree : Nat := 22
abbrev F_fPath : Nat := 23
abbrev F_fMode : Nat := 24
abbrev F_fTold : Nat := 25
abbrev F_fLast : Nat := 26
abbrev F_fids : Nat := 27
abbrev F_at : Nat := 28
abbrev F_end : Nat := 29
abbrev F_good : Nat := 30
abbrev F_textAt : Nat := 31
abbrev F_textSize : Nat := 32
abbrev F_mFid : Nat := 33
abbrev F_mOther : Nat := 34
abbrev F_mMode : Nat := 35
abbrev F_mPerm : Nat := 36
abbrev F_mMany : Nat := 37
abbrev F_mText : Nat := 38
abbrev F_mTextSize : Nat := 39
abbrev F_mSecond : Nat := 40
abbrev F_mSecondSize : Nat := 41
abbrev F_mData : Nat := 42
abbrev F_mOffset : Nat := 43
abbrev F_mCount : Nat := 44
abbrev F_wAt : Nat := 45
abbrev F_wSize : Nat := 46
abbrev F_sOnes : Nat := 47
abbrev F_sMode : Nat := 48
abbrev F_sTime : Nat := 49
abbrev F_sLength : Nat := 50
abbrev F_sRest : Nat := 51
abbrev F_sync : Nat := 52
abbrev F_error : Nat := 53
abbrev F_score : Nat := 54
abbrev F_block : Nat := 55
abbrev F_chunk : Nat := 56
abbrev F_hash : Nat := 57
abbrev F_last : Nat := 58
abbrev F_blocks : Nat := 59
abbrev F_blockBytes : Nat := 60
abbrev F_blockSize : Nat := 61
abbrev F_came : Nat := 62
abbrev F_isFull : Nat := 63
abbrev F_isKept : Nat := 64
abbrev F_parts : Nat := 65
abbrev O_is : Nat := 1
abbrev O_in : Nat := 2
abbrev O_mode : Nat := 3
abbrev O_version : Nat := 4
abbrev O_mtime : Nat := 5
abbrev O_size : Nat := 6
abbrev O_nameSize : Nat := 7
abbrev O_name : Nat := 8
abbrev O_data : Nat := 9
abbrev O_tape : Nat := 10
abbrev O_answer : Nat := 11
abbrev O_fNumber : Nat := 12
abbrev O_fTree : Nat := 13
abbrev O_fPath : Nat := 14
abbrev O_fMode : Nat := 15
abbrev O_fTold : Nat := 16
abbrev O_fLast : Nat := 17
abbrev O_wAt : Nat := 18
abbrev O_wSize : Nat := 19
abbrev O_sOnes : Nat := 20
abbrev O_score : Nat := 21
abbrev O_block : Nat := 22
abbrev O_chunk : Nat := 23
abbrev O_hash : Nat := 24
abbrev O_last : Nat := 25
abbrev O_parts : Nat := 26
/-- the shape of the reference at am -/
def RM (am : Nat) (h : mm_M) : Prop :=
  mm_k h am = kd_Model ∧
  (mm_P h am 0 = some (am + 1) ∧ mm_k h (am + 1) = 102 ∧ mm_n h (am + 1) = 1680) ∧
  (mm_P h am 1 = some (am + 2) ∧ mm_k h (am + 2) = 100 ∧ mm_n h (am + 2) = 1680) ∧
  (mm_P h am 2 = some (am + 3) ∧ mm_k h (am + 3) = 100 ∧ mm_n h (am + 3) = 1680) ∧
  (mm_P h am 3 = some (am + 4) ∧ mm_k h (am + 4) = 100 ∧ mm_n h (am + 4) = 1680) ∧
  (mm_P h am 4 = some (am + 5) ∧ mm_k h (am + 5) = 100 ∧ mm_n h (am + 5) = 1680) ∧
  (mm_P h am 5 = some (am + 6) ∧ mm_k h (am + 6) = 100 ∧ mm_n h (am + 6) = 1680) ∧
  (mm_P h am 6 = some (am + 7) ∧ mm_k h (am + 7) = 100 ∧ mm_n h (am + 7) = 1680) ∧
  (mm_P h am 7 = some (am + 8) ∧ mm_k h (am + 8) = 100 ∧ mm_n h (am + 8) = 33600) ∧
  (mm_P h am 8 = some (am + 9) ∧ mm_k h (am + 9) = 100 ∧ mm_n h (am + 9) = 860160) ∧
  (mm_P h am 14 = some (am + 10) ∧ mm_k h (am + 10) = 100 ∧ mm_n h (am + 10) = 1400) ∧
  (mm_P h am 15 = some (am + 11) ∧ mm_k h (am + 11) = 100 ∧ mm_n h (am + 11) = 1500) ∧
  (mm_P h am 21 = some (am + 12) ∧ mm_k h (am + 12) = 100 ∧ mm_n h (am + 12) = 24) ∧
  (mm_P h am 22 = some (am + 13) ∧ mm_k h (am + 13) = 100 ∧ mm_n h (am + 13) = 24) ∧
  (mm_P h am 23 = some (am + 14) ∧ mm_k h (am + 14) = 100 ∧ mm_n h (am + 14) = 24) ∧
  (mm_P h am 24 = some (am + 15) ∧ mm_k h (am + 15) = 100 ∧ mm_n h (am + 15) = 24) ∧
  (mm_P h am 25 = some (am + 16) ∧ mm_k h (am + 16) = 100 ∧ mm_n h (am + 16) = 24) ∧
  (mm_P h am 26 = some (am + 17) ∧ mm_k h (am + 17) = 100 ∧ mm_n h (am + 17) = 24) ∧
  (mm_P h am 45 = some (am + 18) ∧ mm_k h (am + 18) = 100 ∧ mm_n h (am + 18) = 1400) ∧
  (mm_P h am 46 = some (am + 19) ∧ mm_k h (am + 19) = 100 ∧ mm_n h (am + 19) = 1400) ∧
  (mm_P h am 47 = some (am + 20) ∧ mm_k h (am + 20) = 102 ∧ mm_n h (am + 20) = 2) ∧
  (mm_P h am 54 = some (am + 21) ∧ mm_k h (am + 21) = 100 ∧ mm_n h (am + 21) = 3000) ∧
  (mm_P h am 55 = some (am + 22) ∧ mm_k h (am + 22) = 100 ∧ mm_n h (am + 22) = 6080) ∧
  (mm_P h am 56 = some (am + 23) ∧ mm_k h (am + 23) = 100 ∧ mm_n h (am + 23) = 80) ∧
  (mm_P h am 57 = some (am + 24) ∧ mm_k h (am + 24) = 100 ∧ mm_n h (am + 24) = 5) ∧
  (mm_P h am 58 = some (am + 25) ∧ mm_k h (am + 25) = 100 ∧ mm_n h (am + 25) = 300) ∧
  (mm_P h am 65 = some (am + 26) ∧ mm_k h (am + 26) = 100 ∧ mm_n h (am + 26) = 40)
abbrev rS : Type := (Nat → Int32) × (Nat → Int64) × (Nat → Nat → Int32)
/-- the memory whose rows of the reference are σ -/
def r_em (am : Nat) (σ : rS) (h : mm_M) : mm_M := (h.1, h.2.1, (fun b j => if b = am then σ.1 j else if am < b ∧ b < am + 27 then σ.2.2 (b - am) j else mm_I h b j), (fun b j => if b = am then σ.2.1 j else mm_L h b j), h.2.2.2.2)
def r_vw (am : Nat) (h : mm_M) : rS := (fun j => mm_I h am j, fun j => mm_L h am j, fun o j => mm_I h (am + o) j)
theorem r_em_vw (am : Nat) (h : mm_M) : r_em am (r_vw am h) h = h := by
  unfold r_em r_vw
  refine Prod.ext rfl (Prod.ext rfl (Prod.ext ?_ (Prod.ext ?_ rfl)))
  · funext b j
    show (if b = am then mm_I h am j else if am < b ∧ b < am + 27 then mm_I h (am + (b - am)) j else mm_I h b j) = mm_I h b j
    by_cases h1 : b = am
    · rw [if_pos h1, h1]
    · rw [if_neg h1]
      by_cases h2 : am < b ∧ b < am + 27
      · rw [if_pos h2, show am + (b - am) = b by omega]
      · rw [if_neg h2]
  · funext b j
    show (if b = am then mm_L h am j else mm_L h b j) = mm_L h b j
    by_cases h1 : b = am
    · rw [if_pos h1, h1]
    · rw [if_neg h1]
theorem r_em_em (am : Nat) (σ τ : rS) (h : mm_M) : r_em am σ (r_em am τ h) = r_em am σ h := by
  unfold r_em
  refine Prod.ext rfl (Prod.ext rfl (Prod.ext ?_ (Prod.ext ?_ rfl)))
  · funext b j
    show (if b = am then σ.1 j else if am < b ∧ b < am + 27 then σ.2.2 (b - am) j else (if b = am then τ.1 j else if am < b ∧ b < am + 27 then τ.2.2 (b - am) j else mm_I h b j)) = if b = am then σ.1 j else if am < b ∧ b < am + 27 then σ.2.2 (b - am) j else mm_I h b j
    by_cases h1 : b = am
    · rw [if_pos h1, if_pos h1]
    · rw [if_neg h1, if_neg h1, if_neg h1]
      by_cases h2 : am < b ∧ b < am + 27
      · rw [if_pos h2, if_pos h2]
      · rw [if_neg h2, if_neg h2, if_neg h2]
  · funext b j
    show (if b = am then σ.2.1 j else (if b = am then τ.2.1 j else mm_L h b j)) = if b = am then σ.2.1 j else mm_L h b j
    by_cases h1 : b = am
    · rw [if_pos h1, if_pos h1]
    · rw [if_neg h1, if_neg h1, if_neg h1]
def r_f (σ : rS) (k : Nat) (x : Int32) : rS := (upd σ.1 k x, σ.2)
def r_l (σ : rS) (k : Nat) (x : Int64) : rS := (σ.1, (fun j => if j = k then x else σ.2.1 j), σ.2.2)
def r_a (σ : rS) (o k : Nat) (x : Int32) : rS := (σ.1, σ.2.1, mm_up σ.2.2 o k x)
theorem rI0 (am : Nat) (σ : rS) (h : mm_M) (j : Nat) : mm_I (r_em am σ h) am j = σ.1 j := if_pos rfl
theorem rL0 (am : Nat) (σ : rS) (h : mm_M) (j : Nat) : mm_L (r_em am σ h) am j = σ.2.1 j := if_pos rfl
theorem rI (am o : Nat) (h1 : 0 < o) (h2 : o < 27) (σ : rS) (h : mm_M) (j : Nat) : mm_I (r_em am σ h) (am + o) j = σ.2.2 o j := by
  show (if am + o = am then _ else if am < am + o ∧ am + o < am + 27 then σ.2.2 (am + o - am) j else _) = _
  rw [if_neg (by omega), if_pos (by omega), show am + o - am = o by omega]
theorem rk (am : Nat) (σ : rS) (h : mm_M) : mm_k (r_em am σ h) = mm_k h := rfl
theorem rn (am : Nat) (σ : rS) (h : mm_M) : mm_n (r_em am σ h) = mm_n h := rfl
theorem rP (am : Nat) (σ : rS) (h : mm_M) : mm_P (r_em am σ h) = mm_P h := rfl
theorem rz (am : Nat) (σ : rS) (h : mm_M) : mm_z (r_em am σ h) = mm_z h := rfl
theorem rU0 (am : Nat) (σ : rS) (h : mm_M) (k : Nat) (x : Int32) : mm_uI (r_em am σ h) am k x = r_em am (r_f σ k x) h := by
  unfold mm_uI r_em r_f
  refine Prod.ext rfl (Prod.ext rfl (Prod.ext ?_ rfl))
  funext b j
  show (if b = am ∧ j = k then x else (if b = am then σ.1 j else if am < b ∧ b < am + 27 then σ.2.2 (b - am) j else mm_I h b j)) = if b = am then (if j = k then x else σ.1 j) else if am < b ∧ b < am + 27 then σ.2.2 (b - am) j else mm_I h b j
  by_cases h1 : b = am
  · by_cases h2 : j = k
    · rw [if_pos ⟨h1, h2⟩, if_pos h1, if_pos h2]
    · rw [if_neg (fun z => h2 z.2), if_pos h1, if_pos h1, if_neg h2]
  · rw [if_neg (fun z => h1 z.1), if_neg h1, if_neg h1]
theorem rUL (am : Nat) (σ : rS) (h : mm_M) (k : Nat) (x : Int64) : mm_uL (r_em am σ h) am k x = r_em am (r_l σ k x) h := by
  unfold mm_uL r_em r_l
  refine Prod.ext rfl (Prod.ext rfl (Prod.ext rfl (Prod.ext ?_ rfl)))
  funext b j
  show (if b = am ∧ j = k then x else (if b = am then σ.2.1 j else mm_L h b j)) = if b = am then (if j = k then x else σ.2.1 j) else mm_L h b j
  by_cases h1 : b = am
  · by_cases h2 : j = k
    · rw [if_pos ⟨h1, h2⟩, if_pos h1, if_pos h2]
    · rw [if_neg (fun z => h2 z.2), if_pos h1, if_pos h1, if_neg h2]
  · rw [if_neg (fun z => h1 z.1), if_neg h1, if_neg h1]
theorem rU (am o : Nat) (h1 : 0 < o) (h2 : o < 27) (σ : rS) (h : mm_M) (k : Nat) (x : Int32) : mm_uI (r_em am σ h) (am + o) k x = r_em am (r_a σ o k x) h := by
  unfold mm_uI r_em r_a
  refine Prod.ext rfl (Prod.ext rfl (Prod.ext ?_ rfl))
  funext b j
  show (if b = am + o ∧ j = k then x else (if b = am then σ.1 j else if am < b ∧ b < am + 27 then σ.2.2 (b - am) j else mm_I h b j)) = if b = am then σ.1 j else if am < b ∧ b < am + 27 then (if b - am = o ∧ j = k then x else σ.2.2 (b - am) j) else mm_I h b j
  by_cases e1 : b = am + o
  · subst e1
    have n1 : ¬ am + o = am := by omega
    have n2 : am < am + o ∧ am + o < am + 27 := by omega
    have n3 : am + o - am = o := by omega
    rw [n3, if_neg n1, if_neg n1, if_pos n2, if_pos n2]
    by_cases e2 : j = k
    · rw [if_pos ⟨rfl, e2⟩, if_pos ⟨rfl, e2⟩]
    · rw [if_neg (fun z => e2 z.2), if_neg (fun z => e2 z.2)]
  · rw [if_neg (fun z => e1 z.1)]
    by_cases e3 : b = am
    · rw [if_pos e3, if_pos e3]
    · rw [if_neg e3, if_neg e3]
      by_cases e4 : am < b ∧ b < am + 27
      · rw [if_pos e4, if_pos e4, if_neg (show ¬ (b - am = o ∧ j = k) by omega)]
      · rw [if_neg e4, if_neg e4]
theorem RM_em {am : Nat} {h : mm_M} (hM : RM am h) (σ : rS) : RM am (r_em am σ h) := hM

