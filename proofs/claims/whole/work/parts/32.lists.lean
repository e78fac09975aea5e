/-! rows of bytes as lists: the reference's answer, the class's rows -/
/-- the n lowest bytes of v, the lowest first, from byte i on -/
def leF (v : Int64) : Nat → Nat → List Int32
  | _, 0 => []
  | i, n + 1 => r_b8 v i :: leF v (i + 1) n
def le (n : Nat) (v : Int64) : List Int32 := leF v 0 n
theorem leF_len (v : Int64) : ∀ (n i : Nat), (leF v i n).length = n
  | 0, _ => rfl
  | n + 1, i => by show (leF v (i + 1) n).length + 1 = n + 1; rw [leF_len v n (i + 1)]
theorem le_len (n : Nat) (v : Int64) : (le n v).length = n := leF_len v n 0
def allB (L : List Int32) : Prop := ∀ x ∈ L, isB x
theorem leF_B (v : Int64) : ∀ (n i : Nat), allB (leF v i n)
  | 0, _ => fun _ h => absurd h List.not_mem_nil
  | n + 1, i => fun x h => by
    rcases List.mem_cons.mp h with rfl | h
    · exact isB_b8 v i
    · exact leF_B v n (i + 1) x h
theorem le_B (n : Nat) (v : Int64) : allB (le n v) := leF_B v n 0
theorem allB_nil : allB [] := fun _ h => absurd h List.not_mem_nil
theorem allB_app {A B : List Int32} (h1 : allB A) (h2 : allB B) : allB (A ++ B) := fun x h => (List.mem_append.mp h).elim (h1 x) (h2 x)
theorem allB_cons {x : Int32} {A : List Int32} (h1 : isB x) (h2 : allB A) : allB (x :: A) := fun y h => (List.mem_cons.mp h).elim (fun e => e ▸ h1) (h2 y)
/-- bytes come to the answer -/
def r_ap (σ : rS) : List Int32 → rS
  | [] => σ
  | x :: L => r_ap (r_pb σ x) L
theorem r_ap_app (σ : rS) (A B : List Int32) : r_ap σ (A ++ B) = r_ap (r_ap σ A) B := by
  induction A generalizing σ with
  | nil => rfl
  | cons x A ih => exact ih (r_pb σ x)
theorem r_pt_ap (v : Int64) : ∀ (n i : Nat) (σ : rS), r_pt v i n σ = r_ap σ (leF v i n)
  | 0, _, _ => rfl
  | n + 1, i, σ => r_pt_ap v n (i + 1) (r_pb σ (r_b8 v i))
theorem r_ap_o {o j : Nat} (h : ¬ o = O_answer) : ∀ (L : List Int32) (σ : rS), (r_ap σ L).2.2 o j = σ.2.2 o j
  | [], _ => rfl
  | x :: L, σ => (r_ap_o h L (r_pb σ x)).trans (r_pb_o h)
theorem r_ap_f {k : Nat} (h : ¬ k = F_answerSize) : ∀ (L : List Int32) (σ : rS), (r_ap σ L).1 k = σ.1 k
  | [], _ => rfl
  | x :: L, σ => (r_ap_f h L (r_pb σ x)).trans (r_pb_f h)
theorem r_ap_l : ∀ (L : List Int32) (σ : rS), (r_ap σ L).2.1 = σ.2.1
  | [], _ => rfl
  | x :: L, σ => (r_ap_l L (r_pb σ x)).trans rfl
/-- the answer is the list A -/
def r_an (σ : rS) (A : List Int32) : Prop := σ.1 F_answerSize = nI A.length ∧ ∀ (j : Nat) (x : Int32), A[j]? = some x → σ.2.2 O_answer j = x
theorem r_an_len {σ : rS} {A : List Int32} (h : r_an σ A) : σ.1 F_answerSize = nI A.length := h.1
theorem r_an_ap : ∀ (B : List Int32) {σ : rS} {A : List Int32}, r_an σ A → A.length + B.length < 2 ^ 31 → r_an (r_ap σ B) (A ++ B)
  | [], σ, A, h, _ => by rw [List.append_nil]; exact h
  | x :: B, σ, A, h, hl => by
    have hl2 : A.length + (B.length + 1) < 2 ^ 31 := hl
    have h1 : r_an (r_pb σ x) (A ++ [x]) := by
      refine ⟨?_, fun j y hj => ?_⟩
      · rw [r_pb_t x h.1, List.length_append]; rfl
      · show mm_up σ.2.2 O_answer (σ.1 F_answerSize).toNatClampNeg x O_answer j = y
        rw [h.1, nI_clamp (by omega)]
        unfold mm_up
        by_cases e : j = A.length
        · subst e
          rw [if_pos ⟨rfl, rfl⟩]
          simpa using hj
        · rw [if_neg (fun z => e z.2)]
          have hjl : j < (A ++ [x]).length := (List.getElem?_eq_some_iff.mp hj).1
          rw [List.length_append] at hjl
          have hjA : j < A.length := by simp at hjl; omega
          rw [List.getElem?_append_left hjA] at hj
          exact h.2 j y hj
    have := r_an_ap (A := A ++ [x]) B h1 (by rw [List.length_append]; show A.length + 1 + B.length < _; omega)
    rw [List.append_assoc] at this
    exact this
/-- put, by lists -/
theorem rp_put {ge : Nat → Nat} {am : Nat} {h : mm_M} (hM : RM am h) (hg : ge 0 ≤ am) (σ : rS) {t n : Nat} (ht : σ.1 F_answerSize = nI t) (hn : t + n ≤ 1500) (v : Int64) (Z : mm_M → Prop)
    (hZ : Z (r_em am (r_ap σ (le n v)) h)) : wq_Model_put ge am v (nI n) (r_em am σ h) Z := by
  refine rq_put hM hg σ ht hn v Z ?_
  rw [r_pt_ap]
  exact hZ
theorem r_ap_t : ∀ (L : List Int32) {σ : rS} {t : Nat}, σ.1 F_answerSize = nI t → (r_ap σ L).1 F_answerSize = nI (t + L.length)
  | [], _, _, h => h
  | x :: L, σ, t, h => by
    have := r_ap_t L (r_pb_t x h)
    show (r_ap (r_pb σ x) L).1 F_answerSize = _
    rw [this, List.length_cons]
    congr 1
    omega
/-! the class: a row of bytes at o -/
def c_pb (κ : cS) (o : Nat) (x : Int32) : cS := c_u (c_u κ (o + 1) (κ.1 o 1).toNatClampNeg (sb x)) o 1 (κ.1 o 1 + 1)
def c_ap (κ : cS) (o : Nat) : List Int32 → cS
  | [] => κ
  | x :: L => c_ap (c_pb κ o x) o L
theorem c_ap_app (κ : cS) (o : Nat) (A B : List Int32) : c_ap κ o (A ++ B) = c_ap (c_ap κ o A) o B := by
  induction A generalizing κ with
  | nil => rfl
  | cons x A ih => exact ih (c_pb κ o x)
theorem c_ap_2 (o : Nat) : ∀ (L : List Int32) (κ : cS), (c_ap κ o L).2 = κ.2
  | [], _ => rfl
  | x :: L, κ => (c_ap_2 o L (c_pb κ o x)).trans rfl
theorem c_ap_o {o o' j : Nat} (h1 : ¬ o' = o ∨ ¬ j = 1) (h2 : ¬ o' = o + 1) : ∀ (L : List Int32) (κ : cS), (c_ap κ o L).1 o' j = κ.1 o' j
  | [], _ => rfl
  | x :: L, κ => by
    refine (c_ap_o h1 h2 L (c_pb κ o x)).trans ?_
    unfold c_pb
    rw [cu1, if_neg (fun z => h1.elim (fun q => q z.1) (fun q => q z.2)), cu1, if_neg (fun z => h2 z.1)]
/-- the row at o is the list A -/
def c_L (κ : cS) (o : Nat) (A : List Int32) : Prop := κ.1 o 1 = nI A.length ∧ ∀ (j : Nat) (x : Int32), A[j]? = some x → κ.1 (o + 1) j = sb x
theorem c_pb_t {κ : cS} {o t : Nat} (x : Int32) (ht : κ.1 o 1 = nI t) : (c_pb κ o x).1 o 1 = nI (t + 1) := by
  unfold c_pb
  rw [cu1, if_pos ⟨rfl, rfl⟩, ht, nI_succ]
theorem c_ap_t {o : Nat} : ∀ (L : List Int32) {κ : cS} {t : Nat}, κ.1 o 1 = nI t → (c_ap κ o L).1 o 1 = nI (t + L.length)
  | [], _, _, h => h
  | x :: L, κ, t, h => by
    have := c_ap_t L (c_pb_t x h)
    show (c_ap (c_pb κ o x) o L).1 o 1 = _
    rw [this, List.length_cons]
    congr 1
    omega
theorem c_L_ap {o : Nat} : ∀ (B : List Int32) {κ : cS} {A : List Int32}, c_L κ o A → A.length + B.length < 2 ^ 31 → c_L (c_ap κ o B) o (A ++ B)
  | [], κ, A, h, _ => by rw [List.append_nil]; exact h
  | x :: B, κ, A, h, hl => by
    have hl2 : A.length + (B.length + 1) < 2 ^ 31 := hl
    have h1 : c_L (c_pb κ o x) o (A ++ [x]) := by
      refine ⟨?_, fun j y hj => ?_⟩
      · rw [c_pb_t x h.1, List.length_append]; rfl
      · unfold c_pb
        rw [cu1, if_neg (fun z => absurd z.1 (by omega)), cu1, h.1, nI_clamp (by omega)]
        by_cases e : j = A.length
        · subst e
          rw [if_pos ⟨rfl, rfl⟩]
          have : x = y := by simpa using hj
          rw [this]
        · rw [if_neg (fun z => e z.2)]
          have hjl : j < (A ++ [x]).length := (List.getElem?_eq_some_iff.mp hj).1
          rw [List.length_append] at hjl
          have hjA : j < A.length := by simp at hjl; omega
          rw [List.getElem?_append_left hjA] at hj
          exact h.2 j y hj
    have := c_L_ap (A := A ++ [x]) B h1 (by rw [List.length_append]; show A.length + 1 + B.length < _; omega)
    rw [List.append_assoc] at this
    exact this
