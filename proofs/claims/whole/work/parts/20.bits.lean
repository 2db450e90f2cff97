/-! sets as numbers: bc counts the bits below 16 -/
def bcn : Nat → Nat → Nat
  | 0, _ => 0
  | k + 1, s => bcn k s + (if s.testBit k then 1 else 0)
def bc (s : Nat) : Nat := bcn 16 s
def sb (s t : Nat) : Prop := ∀ i, s.testBit i = true → t.testBit i = true
theorem sb_rf (s : Nat) : sb s s := fun _ h => h
theorem sb_tr {s t u : Nat} (h : sb s t) (g : sb t u) : sb s u := fun i q => g i (h i q)
theorem sb_0 (s : Nat) : sb 0 s := fun i h => by simp at h
theorem sb_iff {s t : Nat} : sb s t ↔ s &&& t = s := by
  constructor
  · intro h
    apply Nat.eq_of_testBit_eq
    intro i
    rw [Nat.testBit_and]
    cases hs : s.testBit i
    · rfl
    · rw [h i hs]; rfl
  · intro h i hi
    rw [← h, Nat.testBit_and] at hi
    simp at hi
    exact hi.2
theorem sb_le {s t : Nat} (h : sb s t) : s ≤ t := by
  have h1 := sb_iff.mp h
  rw [← h1]
  exact Nat.and_le_right
theorem sb_as {s t : Nat} (h : sb s t) (g : sb t s) : s = t := Nat.le_antisymm (sb_le h) (sb_le g)
theorem bcn_orand (k a b : Nat) : bcn k (a ||| b) + bcn k (a &&& b) = bcn k a + bcn k b := by
  induction k with
  | zero => rfl
  | succ k ih =>
    simp only [bcn, Nat.testBit_or, Nat.testBit_and]
    cases a.testBit k <;> cases b.testBit k <;> simp <;> omega
theorem bcn_mono (k : Nat) {a b : Nat} (h : sb a b) : bcn k a ≤ bcn k b := by
  induction k with
  | zero => exact Nat.le_refl _
  | succ k ih =>
    simp only [bcn]
    have := h k
    cases ha : a.testBit k
    · simp; omega
    · rw [this ha]; simp; omega
theorem bcn_le (k a : Nat) : bcn k a ≤ k := by
  induction k with
  | zero => exact Nat.le_refl _
  | succ k ih => simp only [bcn]; split <;> omega
theorem bcn_zero (k : Nat) : bcn k 0 = 0 := by
  induction k with
  | zero => rfl
  | succ k ih => simp [bcn, ih]
theorem bcn_pos (k : Nat) {a i : Nat} (hi : i < k) (h : a.testBit i = true) : 1 ≤ bcn k a := by
  induction k with
  | zero => omega
  | succ k ih =>
    simp only [bcn]
    by_cases e : i = k
    · subst e; rw [h]; simp
    · have := ih (by omega); omega
theorem bcn_strict (k : Nat) {a b i : Nat} (h : sb a b) (hi : i < k) (hb : b.testBit i = true) (ha : a.testBit i = false) : bcn k a < bcn k b := by
  induction k with
  | zero => omega
  | succ k ih =>
    simp only [bcn]
    by_cases e : i = k
    · subst e
      have := bcn_mono i h
      rw [hb, ha]; simp; omega
    · have h1 := ih (by omega)
      have := h k
      cases hk : a.testBit k
      · simp; omega
      · rw [this hk]; simp; omega
theorem bcn_one (k i : Nat) (hi : i < k) : bcn k (1 <<< i) = 1 := by
  induction k with
  | zero => omega
  | succ k ih =>
    simp only [bcn]
    by_cases e : i = k
    · subst e
      have h0 : bcn i (1 <<< i) = 0 := by
        have : ∀ j, j ≤ i → bcn j (1 <<< i) = 0 := by
          intro j
          induction j with
          | zero => intro _; rfl
          | succ j ih => intro hj; simp only [bcn]; rw [ih (by omega)]; simp [Nat.testBit_shiftLeft, show ¬ i ≤ j by omega]
        exact this i (Nat.le_refl _)
      rw [h0]; simp [Nat.testBit_shiftLeft]
    · rw [ih (by omega)]
      have : (1 <<< i).testBit k = false := by
        simp [Nat.testBit_shiftLeft]
        intro _
        rw [show k - i = (k - i - 1) + 1 by omega, Nat.testBit_succ]
        simp
      rw [this]; simp
/-- the bit i -/
def b1 (i : Nat) : Nat := 1 <<< i
theorem b1_bit (i j : Nat) : (b1 i).testBit j = decide (i = j) := by
  unfold b1
  rw [Nat.testBit_shiftLeft]
  by_cases h : i = j
  · subst h; simp
  · by_cases hij : i ≤ j
    · rw [show j - i = (j - i - 1) + 1 by omega, Nat.testBit_succ]
      simp [h]
    · simp [hij, h]
/-- s without the bits of t -/
def df (s t : Nat) : Nat := s ^^^ (s &&& t)
theorem df_bit (s t i : Nat) : (df s t).testBit i = (s.testBit i && !t.testBit i) := by
  unfold df
  rw [Nat.testBit_xor, Nat.testBit_and]
  cases s.testBit i <;> cases t.testBit i <;> rfl
theorem bit_lt {n s : Nat} (h : s < 2 ^ n) {i : Nat} (hi : s.testBit i = true) : i < n := by
  rcases Nat.lt_or_ge i n with q | q
  · exact q
  · rw [Nat.testBit_lt_two_pow (Nat.lt_of_lt_of_le h (Nat.pow_le_pow_right (by decide) q))] at hi
    cases hi
theorem lt_of_bits {n s : Nat} (h : ∀ i, s.testBit i = true → i < n) : s < 2 ^ n := by
  apply Nat.lt_pow_two_of_testBit
  intro i hi
  cases hs : s.testBit i
  · rfl
  · have := h i hs; omega
theorem bc_orand (a b : Nat) : bc (a ||| b) + bc (a &&& b) = bc a + bc b := bcn_orand 16 a b
theorem bc_mono {a b : Nat} (h : sb a b) : bc a ≤ bc b := bcn_mono 16 h
theorem bc_0 : bc 0 = 0 := bcn_zero 16
theorem bc_one {i : Nat} (hi : i < 16) : bc (b1 i) = 1 := bcn_one 16 i hi
theorem sb_or_l (a b : Nat) : sb a (a ||| b) := fun i h => by rw [Nat.testBit_or, h]; rfl
theorem sb_or_r (a b : Nat) : sb b (a ||| b) := fun i h => by rw [Nat.testBit_or, h]; simp
theorem sb_and_l (a b : Nat) : sb (a &&& b) a := fun i h => by rw [Nat.testBit_and] at h; simp at h; exact h.1
theorem sb_and_r (a b : Nat) : sb (a &&& b) b := fun i h => by rw [Nat.testBit_and] at h; simp at h; exact h.2
theorem sb_or {a b c : Nat} (h : sb a c) (g : sb b c) : sb (a ||| b) c := fun i q => by
  rw [Nat.testBit_or] at q; simp at q; exact q.elim (h i) (g i)
theorem sb_and {a b c : Nat} (h : sb c a) (g : sb c b) : sb c (a &&& b) := fun i q => by rw [Nat.testBit_and, h i q, g i q]; rfl
theorem sb_df (s t : Nat) : sb (df s t) s := fun i h => by rw [df_bit] at h; simp at h; exact h.1
theorem sb_b1 {i s : Nat} : sb (b1 i) s ↔ s.testBit i = true := by
  constructor
  · intro h; exact h i (by rw [b1_bit]; simp)
  · intro h j hj; rw [b1_bit] at hj; simp at hj; subst hj; exact h
theorem bc_df {s t : Nat} (h : sb t s) : bc (df s t) + bc t = bc s := by
  have h1 := bc_orand (df s t) t
  have e1 : df s t ||| t = s := by
    apply Nat.eq_of_testBit_eq
    intro i
    rw [Nat.testBit_or, df_bit]
    have := h i
    cases hs : s.testBit i <;> cases ht : t.testBit i <;> simp_all
  have e2 : df s t &&& t = 0 := by
    apply Nat.eq_of_testBit_eq
    intro i
    rw [Nat.testBit_and, df_bit]
    cases s.testBit i <;> cases t.testBit i <;> simp
  rw [e1, e2, bc_0] at h1
  omega
theorem bc_add {s i : Nat} (hi : i < 16) (h : s.testBit i = false) : bc (s ||| b1 i) = bc s + 1 := by
  have h1 := bc_orand s (b1 i)
  have e2 : s &&& b1 i = 0 := by
    apply Nat.eq_of_testBit_eq
    intro j
    rw [Nat.testBit_and, b1_bit]
    by_cases e : i = j
    · subst e; rw [h]; simp
    · simp [e]
  rw [e2, bc_0, bc_one hi] at h1
  omega
theorem bc_sub {s i : Nat} (hi : i < 16) (h : s.testBit i = true) : bc (df s (b1 i)) + 1 = bc s := by
  have := bc_df (sb_b1.mpr h)
  rw [bc_one hi] at this
  exact this
theorem bc_pos {s i : Nat} (hi : i < 16) (h : s.testBit i = true) : 1 ≤ bc s := bcn_pos 16 hi h
/-- more bits: one that isn't among the others -/
theorem bcn_more (k : Nat) {a b : Nat} (h : bcn k a < bcn k b) : ∃ i, i < k ∧ b.testBit i = true ∧ a.testBit i = false := by
  induction k with
  | zero => simp [bcn] at h
  | succ k ih =>
    simp only [bcn] at h
    by_cases hb : b.testBit k = true ∧ a.testBit k = false
    · exact ⟨k, by omega, hb.1, hb.2⟩
    · have h1 : bcn k a < bcn k b := by
        cases h2 : b.testBit k <;> cases h3 : a.testBit k <;> simp_all <;> omega
      obtain ⟨i, q1, q2, q3⟩ := ih h1
      exact ⟨i, by omega, q2, q3⟩
theorem bc_more {a b : Nat} (h : bc a < bc b) : ∃ i, i < 16 ∧ b.testBit i = true ∧ a.testBit i = false := bcn_more 16 h
theorem bc_le_n {n s : Nat} (h : s < 2 ^ n) : bc s ≤ n := by
  have : ∀ k, bcn k s ≤ n := by
    intro k
    induction k with
    | zero => exact Nat.zero_le _
    | succ k ih =>
      simp only [bcn]
      by_cases hk : k < n
      · have := bcn_le k s; split <;> omega
      · have : s.testBit k = false := by
          cases hq : s.testBit k
          · rfl
          · exact absurd (bit_lt h hq) hk
        rw [this]; simp; exact ih
  exact this 16
/-- equal counts and one within the other: the same -/
theorem bc_eq {n a b : Nat} (hn : n ≤ 16) (hb : b < 2 ^ n) (h : sb a b) (he : bc b ≤ bc a) : a = b := by
  refine sb_as h fun i hi => ?_
  cases ha : a.testBit i
  · exact absurd (bcn_strict 16 h (Nat.lt_of_lt_of_le (bit_lt hb hi) hn) hi ha) (Nat.not_lt.mpr he)
  · rfl
