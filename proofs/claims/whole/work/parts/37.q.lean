/-! dealing: one after another -/
def re (n e : Nat) : Nat := df (2 ^ n - 1) (2 ^ e - 1)
theorem re_bit (n e i : Nat) : (re n e).testBit i = (decide (i < n) && !decide (i < e)) := by
  unfold re
  rw [df_bit, Nat.testBit_two_pow_sub_one, Nat.testBit_two_pow_sub_one]
theorem re_lt (n e : Nat) : re n e < 2 ^ n := by
  have := sb_le (sb_df (2 ^ n - 1) (2 ^ e - 1))
  have := Nat.two_pow_pos n
  unfold re
  omega
theorem re_b {n e : Nat} (h : e < n) : (re n e).testBit e = true := by
  rw [re_bit]; simp [h]
theorem re_s (n e : Nat) : df (re n e) (b1 e) = re n (e + 1) := by
  apply Nat.eq_of_testBit_eq
  intro j
  rw [df_bit, re_bit, re_bit, b1_bit]
  have h1 : decide (j < n) = true ∨ decide (j < n) = false := by cases decide (j < n) <;> simp
  by_cases q : e = j
  · subst q; simp
  · have : decide (j < e) = decide (j < e + 1) := by
      apply decide_eq_decide.mpr; omega
    rw [this]; simp [q]
theorem re_0 (n : Nat) : re n 0 = 2 ^ n - 1 := by
  apply Nat.eq_of_testBit_eq
  intro j
  rw [re_bit, Nat.testBit_two_pow_sub_one]; simp
theorem re_n (n : Nat) : re n n = 0 := by
  apply Nat.eq_of_testBit_eq
  intro j
  rw [re_bit]; simp
theorem re_sh {n e p : Nat} (h : sb p (re n e)) : ∃ s, s ≤ (2 ^ n - 1) / 2 ^ e ∧ p = s * 2 ^ e := by
  refine ⟨p / 2 ^ e, Nat.div_le_div_right (sb_le (sb_tr h (sb_df _ _))), ?_⟩
  rw [← Nat.shiftRight_eq_div_pow, ← Nat.shiftLeft_eq]
  apply Nat.eq_of_testBit_eq
  intro j
  rw [Nat.testBit_shiftLeft, Nat.testBit_shiftRight]
  by_cases q : e ≤ j
  · rw [show e + (j - e) = j by omega]; simp [q]
  · cases z : p.testBit j
    · simp [q]
    · have := h j z
      rw [re_bit] at this
      simp at this
      omega
theorem re_hs {n e s : Nat} (h : s ≤ (2 ^ n - 1) / 2 ^ e) : sb (s * 2 ^ e) (re n e) := by
  have h0 := Nat.two_pow_pos n
  have h1 : s * 2 ^ e ≤ 2 ^ n - 1 := Nat.le_trans (Nat.mul_le_mul_right _ h) (Nat.div_mul_le_self _ _)
  intro j hj
  have h2 := bit_lt (show s * 2 ^ e < 2 ^ n by omega) hj
  rw [← Nat.shiftLeft_eq, Nat.testBit_shiftLeft] at hj
  simp at hj
  rw [re_bit]
  simp [h2]
  omega
theorem seq_ex {σ : Type} (I : Nat → σ → Prop) (R : Nat → σ → σ → Prop) (s0 : σ) (h0 : I 0 s0) (n : Nat) (hs : ∀ e s, e < n → I e s → ∃ s', R e s s' ∧ I (e + 1) s') : ∃ f : Nat → σ, f 0 = s0 ∧ ∀ e, e ≤ n → I e (f e) ∧ (e < n → R e (f e) (f (e + 1))) := by
  induction n with
  | zero => exact ⟨fun _ => s0, rfl, fun e he => by
      have : e = 0 := by omega
      subst this
      exact ⟨h0, fun q => absurd q (by omega)⟩⟩
  | succ n ih =>
    obtain ⟨f, f0, hf⟩ := ih (fun e s he h => hs e s (by omega) h)
    obtain ⟨s', r', i'⟩ := hs n (f n) (by omega) (hf n (Nat.le_refl n)).1
    refine ⟨fun i => if i ≤ n then f i else s', by simp [f0], fun e he => ?_⟩
    show I e (if e ≤ n then f e else s') ∧ (e < n + 1 → R e (if e ≤ n then f e else s') (if e + 1 ≤ n then f (e + 1) else s'))
    by_cases q : e ≤ n
    · rw [if_pos q]
      refine ⟨(hf e q).1, fun _ => ?_⟩
      by_cases q2 : e + 1 ≤ n
      · rw [if_pos q2]; exact (hf e q).2 (by omega)
      · rw [if_neg q2]
        have : e = n := by omega
        subst this; exact r'
    · rw [if_neg q]
      have : e = n + 1 := by omega
      subst this
      exact ⟨i', fun q => absurd q (by omega)⟩
/-- a heap that may take e: so it could all be dealt -/
theorem dc_back {n k : Nat} {B : Nat → Nat → Bool} {h : Nat → Nat} {r e j : Nat} (hn : n ≤ 16) (hm : ∀ j, j < k → mat n (B j)) (hh : hp n k B h r) (hr : r < 2 ^ n) (he : r.testBit e = true) (hj : j < k) (ha : B j (h j ||| b1 e) = true) (hd : dc k B (va_up h j (h j ||| b1 e)) (df r (b1 e))) : dc k B h r := by
  have key := (dc_put hn hm hh hr he hj).mp ⟨ha, hd⟩
  have hen := bit_lt hr he
  intro p hp
  have h0 : ∀ j, j < k → B j 0 = true := fun j hj => (hm j hj).1
  cases q : p.testBit e with
  | false =>
    have hp2 : sb p (df r (b1 e)) := fun i hi => by
      rw [df_bit, hp i hi, b1_bit]
      have : e ≠ i := fun z => by subst z; rw [q] at hi; cases hi
      simp [this]
    have k1 := key p hp2
    have hx : h j ||| p < 2 ^ n := or_lt (hh j hj).1 (sb_lt hp hr)
    have k2 := rk_unit (hm j hj).1 (hm j hj).2.1 hx hen hn
    rw [show h j ||| (p ||| b1 e) = (h j ||| p) ||| b1 e by rw [Nat.or_assoc]] at k1
    omega
  | true =>
    have hp2 : sb (df p (b1 e)) (df r (b1 e)) := df_mono _ hp
    have k1 := key _ hp2
    rw [df_or q] at k1
    have k3 := bc_sub (show e < 16 by omega) q
    have mon : ∀ i, i < k → rk (B i) (h i ||| df p (b1 e)) - bc (h i) ≤ rk (B i) (h i ||| p) - bc (h i) := fun i hi => by
      have := rk_mono (h0 i hi) (show sb (h i ||| df p (b1 e)) (h i ||| p) from sb_or (sb_or_l _ _) (sb_tr (sb_df _ _) (sb_or_r _ _)))
      omega
    have k4 := sm_up (k := k) (j := j) (f := fun i => if i = j then rk (B i) (h i ||| p) - bc (h i) else rk (B i) (h i ||| df p (b1 e)) - bc (h i)) (g := fun i => rk (B i) (h i ||| df p (b1 e)) - bc (h i)) hj (fun i _ q => if_neg q)
    have k5 : sm k (fun i => if i = j then rk (B i) (h i ||| p) - bc (h i) else rk (B i) (h i ||| df p (b1 e)) - bc (h i)) ≤ sm k (fun i => rk (B i) (h i ||| p) - bc (h i)) := sm_le (fun i hi => by
      show (if i = j then rk (B i) (h i ||| p) - bc (h i) else rk (B i) (h i ||| df p (b1 e)) - bc (h i)) ≤ _
      by_cases z : i = j
      · rw [if_pos z]; exact Nat.le_refl _
      · rw [if_neg z]; exact mon i hi)
    simp only [if_true] at k4
    omega
/-- heaps of one rule: the opened ones come first -/
def hps (n k : Nat) (B : Nat → Bool) (g : Nat → Nat) (o e : Nat) : Prop := hp n k (fun _ => B) g (re n e) ∧ o ≤ e ∧ o ≤ k ∧ (∀ j, o ≤ j → g j = 0) ∧ ∀ j, j < o → g j ≠ 0
def mt (n k : Nat) (B : Nat → Bool) (g : Nat → Nat) (e j : Nat) : Prop := B (g j ||| b1 e) = true ∧ dc k (fun _ => B) (va_up g j (g j ||| b1 e)) (re n (e + 1))
def dst (n k : Nat) (B : Nat → Bool) (e : Nat) (s s' : (Nat → Nat) × Nat × Nat) : Prop := s'.2.2 < k ∧ s'.2.2 ≤ s.2.1 ∧ mt n k B s.1 e s'.2.2 ∧ s'.1 = va_up s.1 s'.2.2 (s.1 s'.2.2 ||| b1 e) ∧ s'.2.1 = (if s'.2.2 = s.2.1 then s.2.1 + 1 else s.2.1) ∧ ∀ j, j < s'.2.2 → ¬ mt n k B s.1 e j
theorem hps_put {n k : Nat} {B : Nat → Bool} {g : Nat → Nat} {o e j : Nat} (h : hps n k B g o e) (he : e < n) (hj : j < k) (hjo : j ≤ o) (ha : B (g j ||| b1 e) = true) : hps n k B (va_up g j (g j ||| b1 e)) (if j = o then o + 1 else o) (e + 1) := by
  obtain ⟨h1, h2, h3, h4, h5⟩ := h
  have a := hp_put h1 (re_lt n e) (re_b he) hj ha
  rw [re_s] at a
  have nz : g j ||| b1 e ≠ 0 := fun q => by
    have : (g j ||| b1 e).testBit e = true := by rw [Nat.testBit_or, b1_bit]; simp
    rw [q, Nat.zero_testBit] at this; cases this
  by_cases q : j = o
  · subst q
    rw [if_pos rfl]
    refine ⟨a, by omega, by omega, fun i hi => ?_, fun i hi => ?_⟩
    · rw [up_n _ _ (by omega)]; exact h4 i (by omega)
    · by_cases z : i = j
      · subst z; rw [up_s]; exact nz
      · rw [up_n _ _ z]; exact h5 i (by omega)
  · rw [if_neg q]
    refine ⟨a, by omega, h3, fun i hi => ?_, fun i hi => ?_⟩
    · rw [up_n _ _ (by omega)]; exact h4 i (by omega)
    · by_cases z : i = j
      · subst z; rw [up_s]; exact nz
      · rw [up_n _ _ z]; exact h5 i (by omega)
theorem mt_ex {n k : Nat} {B : Nat → Bool} (hn : n ≤ 16) (hm : mat n B) {g : Nat → Nat} {o e : Nat} (h : hps n k B g o e) (he : e < n) (hd : dc k (fun _ => B) g (re n e)) : ∃ j, j < k ∧ j ≤ o ∧ mt n k B g e j ∧ ∀ j', j' < j → ¬ mt n k B g e j' := by
  obtain ⟨h1, h2, h3, h4, h5⟩ := h
  obtain ⟨j, hj, ha, hb⟩ := deal_one hn (fun _ _ => hm) h1 (re_lt n e) (re_b he) hd
  rw [re_s] at hb
  obtain ⟨p, p1, p2, p3⟩ := least_ex (T := fun j => mt n k B g e j) j ⟨ha, hb⟩
  refine ⟨p, by omega, ?_, p1, p3⟩
  by_cases z : p ≤ o
  · exact z
  · exfalso
    refine p3 o (by omega) ?_
    have e1 := h4 p (by omega)
    have e2 := h4 o (Nat.le_refl o)
    have c1 := (dc_put hn (fun _ _ => hm) h1 (re_lt n e) (re_b he) (show p < k by omega)).mp ⟨p1.1, by rw [re_s]; exact p1.2⟩
    have c2 := (dc_put hn (fun _ _ => hm) h1 (re_lt n e) (re_b he) (show o < k by omega)).mpr (by
      rw [e1] at c1
      rw [e2]
      exact c1)
    rw [re_s] at c2
    exact c2
theorem dealx {n k : Nat} {B : Nat → Bool} (hn : n ≤ 16) (hm : mat n B) (hd : dc k (fun _ => B) (fun _ => 0) (2 ^ n - 1)) : ∃ f : Nat → (Nat → Nat) × Nat × Nat, f 0 = ((fun _ => 0), 0, 0) ∧ ∀ e, e ≤ n → (hps n k B (f e).1 (f e).2.1 e ∧ dc k (fun _ => B) (f e).1 (re n e)) ∧ (e < n → dst n k B e (f e) (f (e + 1))) := by
  refine seq_ex (fun e s => hps n k B s.1 s.2.1 e ∧ dc k (fun _ => B) s.1 (re n e)) (dst n k B) ((fun _ => 0), 0, 0) ⟨⟨hp_0 hm _, Nat.le_refl 0, Nat.zero_le _, fun _ _ => rfl, fun j hj => absurd hj (Nat.not_lt_zero j)⟩, ?_⟩ n ?_
  · show dc k (fun _ => B) (fun _ => 0) (re n 0)
    rw [re_0]; exact hd
  · intro e s he ⟨hs, hd⟩
    obtain ⟨j, j1, j2, j3, j4⟩ := mt_ex hn hm hs he hd
    exact ⟨(va_up s.1 j (s.1 j ||| b1 e), (if j = s.2.1 then s.2.1 + 1 else s.2.1), j), ⟨j1, j2, j3, rfl, rfl, j4⟩, hps_put hs he j1 j2 j3.1, j3.2⟩
