/-! families of sets with the law; ranks -/
theorem df_lt {s i : Nat} (h : s.testBit i = true) : df s (b1 i) < s := by
  have h1 := sb_le (sb_df s (b1 i))
  rcases Nat.lt_or_ge (df s (b1 i)) s with q | q
  · exact q
  · have e : df s (b1 i) = s := Nat.le_antisymm h1 q
    have : (df s (b1 i)).testBit i = false := by rw [df_bit, b1_bit]; simp
    rw [e, h] at this
    cases this
theorem df_or {s i : Nat} (h : s.testBit i = true) : df s (b1 i) ||| b1 i = s := by
  apply Nat.eq_of_testBit_eq
  intro j
  rw [Nat.testBit_or, df_bit, b1_bit]
  by_cases e : i = j
  · subst e; rw [h]; simp
  · simp [e]
theorem bits_ex {s : Nat} (h : s ≠ 0) : ∃ i, s.testBit i = true := by
  obtain ⟨i, hi⟩ := Nat.exists_testBit_of_ne_zero h
  exact ⟨i, hi⟩
/-- by one thing after another -/
theorem bits_ind {P : Nat → Prop} (y : Nat) (h0 : P 0) (hs : ∀ u i, sb (u ||| b1 i) y → u.testBit i = false → P u → P (u ||| b1 i)) : P y := by
  have key : ∀ m u, u ≤ m → sb u y → P u := by
    intro m
    induction m with
    | zero => intro u hu _; rw [Nat.le_zero.mp hu]; exact h0
    | succ m ih =>
      intro u hu hsb
      by_cases e : u = 0
      · rw [e]; exact h0
      · obtain ⟨i, hi⟩ := bits_ex e
        have hlt := df_lt hi
        have := hs (df u (b1 i)) i (by rw [df_or hi]; exact hsb) (by rw [df_bit, b1_bit]; simp) (ih _ (by omega) (sb_tr (sb_df _ _) hsb))
        rw [df_or hi] at this
        exact this
  exact key y y (Nat.le_refl _) (sb_rf _)
theorem or_lt {n a b : Nat} (ha : a < 2 ^ n) (hb : b < 2 ^ n) : a ||| b < 2 ^ n := Nat.or_lt_two_pow ha hb
theorem sb_lt {n a b : Nat} (h : sb a b) (hb : b < 2 ^ n) : a < 2 ^ n := Nat.lt_of_le_of_lt (sb_le h) hb
theorem b1_lt {n i : Nat} (h : i < n) : b1 i < 2 ^ n := by
  refine lt_of_bits fun j hj => ?_
  rw [b1_bit] at hj
  simp at hj
  omega
def mat (n : Nat) (A : Nat → Bool) : Prop := A 0 = true ∧ (∀ s t, t < 2 ^ n → sb s t → A t = true → A s = true) ∧
  (∀ s t, s < 2 ^ n → t < 2 ^ n → A s = true → A t = true → bc s < bc t → ∃ i, t.testBit i = true ∧ s.testBit i = false ∧ A (s ||| b1 i) = true)
def rkf (A : Nat → Bool) (s : Nat) : Nat → Nat
  | 0 => 0
  | k + 1 => max (rkf A s k) (if A k = true ∧ k &&& s = k then bc k else 0)
def rk (A : Nat → Bool) (s : Nat) : Nat := rkf A s (s + 1)
theorem rkf_ge {A : Nat → Bool} {s p : Nat} (hp : sb p s) (ha : A p = true) : ∀ k, p < k → bc p ≤ rkf A s k := by
  intro k
  induction k with
  | zero => intro h; omega
  | succ k ih =>
    intro h
    simp only [rkf]
    by_cases e : p = k
    · subst e
      rw [if_pos ⟨ha, sb_iff.mp hp⟩]
      exact Nat.le_max_right _ _
    · exact Nat.le_trans (ih (by omega)) (Nat.le_max_left _ _)
theorem rk_ge {A : Nat → Bool} {s p : Nat} (hp : sb p s) (ha : A p = true) : bc p ≤ rk A s := rkf_ge hp ha _ (Nat.lt_succ_of_le (sb_le hp))
theorem rkf_ex {A : Nat → Bool} {s : Nat} (h0 : A 0 = true) : ∀ k, ∃ p, sb p s ∧ A p = true ∧ bc p = rkf A s k := by
  intro k
  induction k with
  | zero => exact ⟨0, sb_0 s, h0, bc_0⟩
  | succ k ih =>
    simp only [rkf]
    by_cases c : A k = true ∧ k &&& s = k
    · rw [if_pos c]
      rcases Nat.le_total (rkf A s k) (bc k) with q | q
      · exact ⟨k, sb_iff.mpr c.2, c.1, by rw [Nat.max_eq_right q]⟩
      · rw [Nat.max_eq_left q]; exact ih
    · rw [if_neg c, Nat.max_eq_left (Nat.zero_le _)]; exact ih
theorem rk_ex {A : Nat → Bool} (s : Nat) (h0 : A 0 = true) : ∃ p, sb p s ∧ A p = true ∧ bc p = rk A s := rkf_ex h0 _
theorem rk_le {A : Nat → Bool} {s : Nat} (h0 : A 0 = true) : rk A s ≤ bc s := by
  obtain ⟨p, h1, h2, h3⟩ := rk_ex (A := A) s h0
  rw [← h3]
  exact bc_mono h1
theorem rk_mono {A : Nat → Bool} {s t : Nat} (h0 : A 0 = true) (h : sb s t) : rk A s ≤ rk A t := by
  obtain ⟨p, h1, h2, h3⟩ := rk_ex (A := A) s h0
  rw [← h3]
  exact rk_ge (sb_tr h1 h) h2
theorem rk_0 {A : Nat → Bool} (h0 : A 0 = true) : rk A 0 = 0 := by
  have := rk_le (A := A) (s := 0) h0
  rw [bc_0] at this
  omega
/-- allowed just where the rank is as many as the set has -/
theorem rk_iff {n : Nat} {A : Nat → Bool} (hn : n ≤ 16) (h0 : A 0 = true) {s : Nat} (hs : s < 2 ^ n) : A s = true ↔ rk A s = bc s := by
  constructor
  · intro h
    exact Nat.le_antisymm (rk_le h0) (rk_ge (sb_rf s) h)
  · intro h
    obtain ⟨p, h1, h2, h3⟩ := rk_ex (A := A) s h0
    rw [← bc_eq hn hs h1 (by omega)]
    exact h2
theorem rk_unit {n : Nat} {A : Nat → Bool} (h0 : A 0 = true) (hd : ∀ s t, t < 2 ^ n → sb s t → A t = true → A s = true) {s i : Nat} (hs : s < 2 ^ n) (hi : i < n) (hn : n ≤ 16) : rk A (s ||| b1 i) ≤ rk A s + 1 := by
  obtain ⟨p, h1, h2, h3⟩ := rk_ex (A := A) (s ||| b1 i) h0
  rw [← h3]
  have hp : p < 2 ^ n := sb_lt h1 (or_lt hs (b1_lt hi))
  by_cases c : p.testBit i = true
  · have e := bc_sub (by omega) c
    have h4 : A (df p (b1 i)) = true := hd _ p hp (sb_df _ _) h2
    have h5 : sb (df p (b1 i)) s := by
      intro j hj
      rw [df_bit, b1_bit] at hj
      simp at hj
      have := h1 j hj.1
      rw [Nat.testBit_or, b1_bit] at this
      simp [hj.2] at this
      exact this
    have := rk_ge h5 h4
    omega
  · have h5 : sb p s := by
      intro j hj
      have := h1 j hj
      rw [Nat.testBit_or, b1_bit] at this
      simp at this
      rcases this with q | q
      · exact q
      · subst q; exact absurd hj c
    have := rk_ge h5 h2
    omega
/-- an allowed set within s grows to as many as the rank of s -/
theorem mat_ext {n : Nat} {A : Nat → Bool} (hn : n ≤ 16) (hm : mat n A) {s p : Nat} (hs : s < 2 ^ n) (hp : sb p s) (ha : A p = true) : ∃ q, sb p q ∧ sb q s ∧ A q = true ∧ bc q = rk A s := by
  have key : ∀ d p, sb p s → A p = true → rk A s - bc p ≤ d → ∃ q, sb p q ∧ sb q s ∧ A q = true ∧ bc q = rk A s := by
    intro d
    induction d with
    | zero =>
      intro p h1 h2 h3
      have := rk_ge h1 h2
      exact ⟨p, sb_rf p, h1, h2, by omega⟩
    | succ d ih =>
      intro p h1 h2 h3
      have h4 := rk_ge h1 h2
      by_cases e : bc p = rk A s
      · exact ⟨p, sb_rf p, h1, h2, e⟩
      · obtain ⟨q, q1, q2, q3⟩ := rk_ex (A := A) s hm.1
        obtain ⟨i, i1, i2, i3⟩ := hm.2.2 p q (sb_lt h1 hs) (sb_lt q1 hs) h2 q2 (by omega)
        have hi : i < n := bit_lt (sb_lt q1 hs) i1
        have hb := bc_add (s := p) (i := i) (by omega) i2
        obtain ⟨r, r1, r2, r3, r4⟩ := ih (p ||| b1 i) (sb_or h1 (sb_b1.mpr (q1 i i1))) i3 (by omega)
        exact ⟨r, sb_tr (sb_or_l _ _) r1, r2, r3, r4⟩
  exact key _ p hp ha (Nat.le_refl _)
theorem rk_sub {n : Nat} {A : Nat → Bool} (hn : n ≤ 16) (hm : mat n A) {x y : Nat} (hx : x < 2 ^ n) (hy : y < 2 ^ n) : rk A (x ||| y) + rk A (x &&& y) ≤ rk A x + rk A y := by
  obtain ⟨i, i1, i2, i3⟩ := rk_ex (A := A) (x &&& y) hm.1
  have hxy := or_lt hx hy
  obtain ⟨j, j1, j2, j3, j4⟩ := mat_ext hn hm hxy (sb_tr i1 (sb_tr (sb_and_l x y) (sb_or_l x y))) i2
  have hj : j < 2 ^ n := sb_lt j2 hxy
  have a1 := rk_ge (A := A) (sb_and_r j x) (hm.2.1 _ j hj (sb_and_l j x) j3)
  have a2 := rk_ge (A := A) (sb_and_r j y) (hm.2.1 _ j hj (sb_and_l j y) j3)
  have a3 := bc_orand (j &&& x) (j &&& y)
  have e1 : (j &&& x) ||| (j &&& y) = j := by
    apply Nat.eq_of_testBit_eq
    intro b
    have := j2 b
    rw [Nat.testBit_or] at this
    rw [Nat.testBit_or, Nat.testBit_and, Nat.testBit_and]
    cases hb : j.testBit b
    · rfl
    · have := this hb
      simpa using this
  have e2 : sb i ((j &&& x) &&& (j &&& y)) := sb_and (sb_and j1 (sb_tr i1 (sb_and_l x y))) (sb_and j1 (sb_tr i1 (sb_and_r x y)))
  have := bc_mono e2
  rw [e1] at a3
  omega
/-! functions that are such ranks -/
def rax (n : Nat) (f : Nat → Nat) : Prop := f 0 = 0 ∧ (∀ s t, t < 2 ^ n → sb s t → f s ≤ f t) ∧ (∀ x y, x < 2 ^ n → y < 2 ^ n → f (x ||| y) + f (x &&& y) ≤ f x + f y)
theorem rax_rk {n : Nat} {A : Nat → Bool} (hn : n ≤ 16) (hm : mat n A) : rax n (rk A) := ⟨rk_0 hm.1, fun _ _ _ h => rk_mono hm.1 h, fun _ _ hx hy => rk_sub hn hm hx hy⟩
/-- what adds nothing one by one adds nothing together -/
theorem rax_cl {n : Nat} {f : Nat → Nat} (hf : rax n f) {x y : Nat} (hx : x < 2 ^ n) (hy : y < 2 ^ n) (h : ∀ i, y.testBit i = true → f (x ||| b1 i) = f x) : f (x ||| y) = f x := by
  refine bits_ind (P := fun u => sb u y → f (x ||| u) = f x) y (fun _ => by rw [Nat.or_zero]) ?_ (sb_rf y)
  intro u i hu hui ih hsb
  have h1 : sb u y := sb_tr (sb_or_l _ _) hu
  have hi : y.testBit i = true := sb_b1.mp (sb_tr (sb_or_r _ _) hu)
  have h2 := ih h1
  have h3 := hf.2.2 (x ||| u) (x ||| b1 i) (or_lt hx (sb_lt h1 hy)) (or_lt hx (sb_lt (sb_b1.mpr hi) hy))
  have h4 : f x ≤ f ((x ||| u) &&& (x ||| b1 i)) := hf.2.1 _ _ (sb_lt (sb_and_l _ _) (or_lt hx (sb_lt h1 hy))) (sb_and (sb_or_l _ _) (sb_or_l _ _))
  have e : (x ||| u) ||| (x ||| b1 i) = x ||| (u ||| b1 i) := by
    apply Nat.eq_of_testBit_eq
    intro j
    simp only [Nat.testBit_or]
    cases x.testBit j <;> cases u.testBit j <;> simp
  have h5 : f x ≤ f (x ||| (u ||| b1 i)) := hf.2.1 _ _ (or_lt hx (sb_lt hsb hy)) (sb_or_l _ _)
  rw [e, h2, h i hi] at h3
  omega
