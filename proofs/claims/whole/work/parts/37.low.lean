/-! low bits, parts of a set one after another -/
theorem nar_b : ∀ k, k < 128 → vp_nar .byte (nI k).toInt8.toInt32 = nI k := by decide +kernel
theorem nar_0 : vp_nar .byte (0 : Int32) = nI 0 := by decide +kernel
theorem nar_t : vp_nar .boolean (1 : Int32) = bI true := by decide +kernel
theorem nar_bI : ∀ b : Bool, vp_nar .boolean (bI b) = bI b := by decide +kernel
def lwT (s : Nat) : Bool := s == 0 || (List.range 12).any fun i => s.testBit i && (nI s &&& (-nI s) == nI (b1 i)) && (List.range i).all fun j => !s.testBit j
theorem lw_all : ((List.range 64).all fun h => (List.range 64).all fun l => lwT (64 * h + l)) = true := by decide +kernel
theorem low_ex {s : Nat} (h0 : s ≠ 0) (hs : s < 4096) : ∃ i, i < 12 ∧ s.testBit i = true ∧ nI s &&& (-nI s) = nI (b1 i) ∧ ∀ j, j < i → s.testBit j = false := by
  have h1 := List.all_eq_true.mp lw_all (s / 64) (List.mem_range.mpr (by omega))
  have h2 := List.all_eq_true.mp h1 (s % 64) (List.mem_range.mpr (by omega))
  rw [show 64 * (s / 64) + s % 64 = s by omega] at h2
  unfold lwT at h2
  rcases (Bool.or_eq_true _ _).mp h2 with h3 | h3
  · exact absurd (eq_of_beq h3) h0
  · obtain ⟨i, hi, h4⟩ := List.any_eq_true.mp h3
    have h5 := (Bool.and_eq_true _ _).mp h4
    have h6 := (Bool.and_eq_true _ _).mp h5.1
    refine ⟨i, List.mem_range.mp hi, h6.1, eq_of_beq h6.2, fun j hj => ?_⟩
    have := List.all_eq_true.mp h5.2 j (List.mem_range.mpr hj)
    simpa using this
theorem and_half (a b : Nat) : (a &&& b) / 2 = a / 2 &&& b / 2 := by
  apply Nat.eq_of_testBit_eq
  intro i
  rw [Nat.testBit_and, Nat.testBit_div_two, Nat.testBit_div_two, Nat.testBit_div_two, Nat.testBit_and]
theorem and_odd (a b : Nat) : (a &&& b) % 2 = 1 ↔ a % 2 = 1 ∧ b % 2 = 1 := by
  have h : ∀ x : Nat, x % 2 = 1 ↔ x.testBit 0 = true := fun x => by
    rw [Nat.testBit_zero]; simp
  rw [h, h, h, Nat.testBit_and]
  simp
/-- the part of u next below p -/
theorem part_prev : ∀ (u p q : Nat), sb p u → sb q u → q < p → q ≤ (p - 1) &&& u := by
  intro u
  induction u using Nat.strongRecOn with
  | _ u ih =>
    intro p q hp hq hlt
    have hpu := sb_le hp
    have hqu := sb_le hq
    have hu : u ≠ 0 := by omega
    have half : ∀ {x}, sb x u → sb (x / 2) (u / 2) := fun {x} h i hi => by
      rw [Nat.testBit_div_two] at *
      exact h _ hi
    have odd : ∀ {x}, sb x u → x % 2 = 1 → u % 2 = 1 := fun {x} h e => by
      have := h 0 (by rw [Nat.testBit_zero]; simpa using e)
      rw [Nat.testBit_zero] at this
      simpa using this
    have d := and_half (p - 1) u
    have o := and_odd (p - 1) u
    by_cases e : p % 2 = 1
    · have e1 : (p - 1) / 2 = p / 2 := by omega
      rw [e1, sb_iff.mp (half hp)] at d
      omega
    · have e1 : (p - 1) / 2 = p / 2 - 1 := by omega
      have h1 := ih (u / 2) (by omega) (p / 2) (q / 2) (half hp) (half hq) (by omega)
      rw [e1] at d
      have h2 : q % 2 = 1 → ((p - 1) &&& u) % 2 = 1 := fun e2 => o.mpr ⟨by omega, odd hq e2⟩
      omega
theorem prev_sb (p u : Nat) : sb ((p - 1) &&& u) u := sb_and_r _ _
theorem prev_lt {p u : Nat} (h : p ≠ 0) : (p - 1) &&& u < p := by
  have : (p - 1) &&& u ≤ p - 1 := Nat.and_le_left
  omega
/-- a loop over the parts of u, downwards -/
theorem lps {σ : Type} (L : Nat → σ → Nat → Prop) (u : Nat) (I : Nat → σ → Prop)
    (hs : ∀ k p s, sb p u → p ≠ 0 → I p s → (∀ s', I ((p - 1) &&& u) s' → L k s' ((p - 1) &&& u)) → L (k + 1) s p)
    (he : ∀ k s, I 0 s → L (k + 2) s 0) : ∀ (p : Nat), sb p u → ∃ k, ∀ s, I p s → L k s p := by
  intro p
  induction p using Nat.strongRecOn with
  | _ p ih =>
    intro hp
    by_cases e : p = 0
    · subst e
      exact ⟨2, fun s h => he 0 s h⟩
    · obtain ⟨k, hk⟩ := ih ((p - 1) &&& u) (prev_lt e) (prev_sb p u)
      exact ⟨k + 1, fun s h => hs k p s hp e h hk⟩
theorem nI_prev {p u : Nat} (h : p ≠ 0) : (nI p - 1) &&& nI u = nI ((p - 1) &&& u) := by
  rw [nI_sub1 (by omega), nI_and]
theorem pk_low {A : Nat → Bool} {r : Nat} : ∀ (k s i : Nat), pk A r k s → s.testBit i = true → pk A r k (df s (b1 i)) ∨ ∃ k', k = k' + 1 ∧ ∃ b, sb b s ∧ b.testBit i = true ∧ A b = true ∧ bc b = r ∧ pk A r k' (df s b) := by
  intro k
  induction k with
  | zero => exact fun _ _ _ _ => Or.inl trivial
  | succ k ih =>
    intro s i ⟨b, h1, h2, h3, h4⟩ hi
    have cm : ∀ x y : Nat, df (df s x) y = df (df s y) x := fun x y => by
      apply Nat.eq_of_testBit_eq
      intro j
      rw [df_bit, df_bit, df_bit, df_bit]
      cases s.testBit j <;> cases x.testBit j <;> cases y.testBit j <;> rfl
    cases q : b.testBit i with
    | true => exact Or.inr ⟨k, rfl, b, h1, q, h2, h3, h4⟩
    | false =>
      rcases ih (df s b) i h4 (by rw [df_bit, hi, q]; rfl) with g | ⟨k', e, c, c1, c2, c3, c4, c5⟩
      · refine Or.inl ⟨b, fun j hj => ?_, h2, h3, ?_⟩
        · rw [df_bit, h1 j hj, b1_bit]
          have : i ≠ j := fun q' => by subst q'; rw [q] at hj; cases hj
          simp [this]
        · rw [cm]; exact g
      · refine Or.inr ⟨k, rfl, c, sb_tr c1 (sb_df _ _), c2, c3, c4, ?_⟩
        rw [e]
        refine ⟨b, fun j hj => ?_, h2, h3, ?_⟩
        · rw [df_bit, h1 j hj]
          cases z : c.testBit j
          · rfl
          · have := c1 j z
            rw [df_bit, hj] at this
            simp at this
        · rw [cm]; exact c5
