/-! the heaviest and the lightest full set, one thing after another -/
def wsn (wt : Nat → Nat) (s : Nat) : Nat → Nat
  | 0 => 0
  | k + 1 => wsn wt s k + (if s.testBit k = true then wt k else 0)
theorem wsn_add {wt : Nat → Nat} {s e : Nat} (hs : s.testBit e = false) : ∀ k, wsn wt (s ||| b1 e) k = wsn wt s k + (if e < k then wt e else 0) := by
  intro k
  induction k with
  | zero => simp [wsn]
  | succ k ih =>
    simp only [wsn]
    rw [ih, Nat.testBit_or, b1_bit]
    by_cases q : e = k
    · subst q; rw [hs]; simp
    · by_cases z : e < k
      · simp [q, z, show e < k + 1 by omega]; omega
      · simp [q, z, show ¬ e < k + 1 by omega]
def kl (wt : Nat → Nat) (light : Bool) (i j : Nat) : Prop := (if light = true then wt i < wt j else wt j < wt i) ∨ (wt i = wt j ∧ i < j)
theorem kl_as {wt : Nat → Nat} {light : Bool} {i j : Nat} (h : kl wt light i j) (g : kl wt light j i) : False := by
  unfold kl at h g
  cases light <;> simp at h g <;> omega
theorem kl_le {wt : Nat → Nat} {i j : Nat} (h : kl wt false i j) : wt j ≤ wt i := by
  unfold kl at h
  simp at h
  omega
theorem kl_ge {wt : Nat → Nat} {i j : Nat} (h : kl wt true i j) : wt i ≤ wt j := by
  unfold kl at h
  simp at h
  omega
/-- the weights of two sets within P, by a threshold -/
def gw (n : Nat) (wt : Nat → Nat) (light : Bool) (P C s : Nat) : Prop :=
  bc (s &&& P) ≤ bc C ∧ ∀ θ, (∀ i, P.testBit i = true → if light = true then wt i ≤ θ else θ ≤ wt i) → if light = true then wsn wt C n ≤ wsn wt (s &&& P) n + θ * (bc C - bc (s &&& P)) else wsn wt (s &&& P) n + θ * (bc C - bc (s &&& P)) ≤ wsn wt C n
def gl (wt : Nat → Nat) (light : Bool) (P C s : Nat) : Prop := (∀ i, P.testBit i = true → C.testBit i = s.testBit i) ∨ ∃ f, P.testBit f = true ∧ C.testBit f = true ∧ s.testBit f = false ∧ ∀ j, P.testBit j = true → C.testBit j ≠ s.testBit j → j = f ∨ kl wt light f j
def gi (n : Nat) (A : Nat → Bool) (wt : Nat → Nat) (light : Bool) (P C : Nat) : Prop := P < 2 ^ n ∧ sb C P ∧ A C = true ∧ bc C = rk A P ∧ (∀ i j, P.testBit i = true → j < n → P.testBit j = false → kl wt light i j) ∧
  ∀ s, s < 2 ^ n → A s = true → gl wt light P C s ∧ gw n wt light P C s
theorem gi_0 {n : Nat} {A : Nat → Bool} (hm : mat n A) (wt : Nat → Nat) (light : Bool) : gi n A wt light 0 0 := by
  refine ⟨Nat.two_pow_pos n, sb_rf 0, hm.1, by rw [rk_0 hm.1, bc_0], fun i j h => by simp at h, fun s _ _ => ⟨Or.inl fun i h => by simp at h, by rw [Nat.and_zero]; exact Nat.le_refl _, fun θ _ => ?_⟩⟩
  rw [Nat.and_zero, bc_0]
  cases light <;> simp
theorem and_or1 {s P e : Nat} : s &&& (P ||| b1 e) = if s.testBit e = true then (s &&& P) ||| b1 e else s &&& P := by
  split
  · rename_i h
    apply Nat.eq_of_testBit_eq
    intro j
    rw [Nat.testBit_and, Nat.testBit_or, Nat.testBit_or, Nat.testBit_and, b1_bit]
    by_cases q : e = j
    · subst q; rw [h]; simp
    · simp [q]
  · rename_i h
    apply Nat.eq_of_testBit_eq
    intro j
    rw [Nat.testBit_and, Nat.testBit_or, Nat.testBit_and, b1_bit]
    by_cases q : e = j
    · subst q; simp at h; rw [h]; simp
    · simp [q]
theorem mul_step {a b d : Nat} (h : a ≤ b) (hd : 1 ≤ d) : a * (d - 1) + b ≤ b * d := by
  obtain ⟨k, rfl⟩ : ∃ k, d = k + 1 := ⟨d - 1, by omega⟩
  have : a * k ≤ b * k := Nat.mul_le_mul_right k h
  rw [Nat.mul_succ]
  simp
  omega
theorem mul_step2 {a b d : Nat} (h : b ≤ a) (hd : 1 ≤ d) : b * d ≤ a * (d - 1) + b := by
  obtain ⟨k, rfl⟩ : ∃ k, d = k + 1 := ⟨d - 1, by omega⟩
  have : b * k ≤ a * k := Nat.mul_le_mul_right k h
  rw [Nat.mul_succ]
  simp
  omega
theorem gi_step {n : Nat} {A : Nat → Bool} {wt : Nat → Nat} {light : Bool} {P C e : Nat} (hn : n ≤ 16) (hm : mat n A) (h : gi n A wt light P C) (he : e < n) (hP : P.testBit e = false) (hfirst : ∀ j, j < n → P.testBit j = false → j = e ∨ kl wt light e j) :
    gi n A wt light (P ||| b1 e) (if A (C ||| b1 e) = true then C ||| b1 e else C) := by
  obtain ⟨h1, h2, h3, h4, h5, h6⟩ := h
  have hCe : C.testBit e = false := by
    cases q : C.testBit e
    · rfl
    · rw [h2 e q] at hP; cases hP
  have hPe : P ||| b1 e < 2 ^ n := or_lt h1 (b1_lt he)
  have hbC := bc_add (s := C) (i := e) (by omega) hCe
  have hthr : ∀ θ, (∀ i, (P ||| b1 e).testBit i = true → if light = true then wt i ≤ θ else θ ≤ wt i) → (∀ i, P.testBit i = true → if light = true then wt i ≤ θ else θ ≤ wt i) ∧ (if light = true then wt e ≤ θ else θ ≤ wt e) := fun θ q => ⟨fun i hi => q i (by rw [Nat.testBit_or, hi]; rfl), q e (by rw [Nat.testBit_or, b1_bit]; simp)⟩
  have hself : ∀ i, P.testBit i = true → if light = true then wt i ≤ wt e else wt e ≤ wt i := by
    intro i hi
    have := h5 i e hi he hP
    cases hlt : light
    · rw [hlt] at this; simp; exact kl_le this
    · rw [hlt] at this; simp; exact kl_ge this
  have hk : ∀ i j, (P ||| b1 e).testBit i = true → j < n → (P ||| b1 e).testBit j = false → kl wt light i j := by
    intro i j hi hj hjP
    rw [Nat.testBit_or, b1_bit] at hi hjP
    simp at hi hjP
    rcases hi with z | z
    · exact h5 i j z hj hjP.1
    · subst z
      exact (hfirst j hj hjP.1).resolve_left (fun w => hjP.2 w.symm)
  have hsw : ∀ s, (s &&& P).testBit e = false := fun s => by rw [Nat.testBit_and, hP]; simp
  have hbs : ∀ s, bc ((s &&& P) ||| b1 e) = bc (s &&& P) + 1 := fun s => bc_add (by omega) (hsw s)
  have hws : ∀ s, wsn wt ((s &&& P) ||| b1 e) n = wsn wt (s &&& P) n + wt e := fun s => by rw [wsn_add (hsw s) n, if_pos he]
  have hwC : wsn wt (C ||| b1 e) n = wsn wt C n + wt e := by rw [wsn_add hCe n, if_pos he]
  by_cases ha : A (C ||| b1 e) = true
  · rw [if_pos ha]
    refine ⟨hPe, sb_or (sb_tr h2 (sb_or_l _ _)) (sb_or_r _ _), ha, ?_, hk, fun s hs hA => ⟨?_, ?_⟩⟩
    · have u := rk_unit hm.1 hm.2.1 h1 he hn
      have g := rk_ge (A := A) (s := P ||| b1 e) (sb_or (sb_tr h2 (sb_or_l _ _)) (sb_or_r _ _)) ha
      omega
    · rcases (h6 s hs hA).1 with z | ⟨f, f1, f2, f3, f4⟩
      · cases hse : s.testBit e
        · right
          refine ⟨e, by rw [Nat.testBit_or, b1_bit]; simp, by rw [Nat.testBit_or, b1_bit]; simp, hse, fun j hj hne => ?_⟩
          rw [Nat.testBit_or, b1_bit] at hj
          simp at hj
          rcases hj with y | y
          · exfalso
            apply hne
            have : e ≠ j := fun w => by subst w; rw [hP] at y; cases y
            rw [Nat.testBit_or, b1_bit, z j y]
            simp [this]
          · exact Or.inl y.symm
        · left
          intro j hj
          rw [Nat.testBit_or, b1_bit] at hj ⊢
          by_cases q : e = j
          · subst q; rw [hse]; simp
          · simp [q] at hj ⊢
            exact z j hj
      · right
        have hef : e ≠ f := fun w => by subst w; rw [hP] at f1; cases f1
        refine ⟨f, by rw [Nat.testBit_or, f1]; rfl, by rw [Nat.testBit_or, f2]; rfl, f3, fun j hj hne => ?_⟩
        rw [Nat.testBit_or, b1_bit] at hj hne
        by_cases q : e = j
        · subst q; exact Or.inr (h5 f e f1 he hP)
        · simp [q] at hj hne
          exact f4 j hj (by simpa using hne)
    · obtain ⟨g1, g2⟩ := (h6 s hs hA).2
      rw [gw, and_or1]
      split
      · rw [hbs s, hbC, hws s, hwC]
        refine ⟨by omega, fun θ hθ => ?_⟩
        have := g2 θ (hthr θ hθ).1
        rw [show bc C + 1 - (bc (s &&& P) + 1) = bc C - bc (s &&& P) by omega]
        cases light <;> simp at this ⊢ <;> omega
      · rw [hbC, hwC]
        refine ⟨by omega, fun θ hθ => ?_⟩
        have := g2 θ (hthr θ hθ).1
        have t2 := (hthr θ hθ).2
        rw [show bc C + 1 - bc (s &&& P) = (bc C - bc (s &&& P)) + 1 by omega, Nat.mul_succ]
        cases light <;> simp at this t2 ⊢ <;> omega
  · rw [if_neg ha]
    have hrk : rk A (P ||| b1 e) = rk A P := by
      have u := rk_unit hm.1 hm.2.1 h1 he hn
      have m := rk_mono (A := A) hm.1 (sb_or_l P (b1 e))
      by_cases q : rk A (P ||| b1 e) = rk A P
      · exact q
      · exfalso
        obtain ⟨r, r1, r2, r3, r4⟩ := mat_ext hn hm hPe (sb_tr h2 (sb_or_l P (b1 e))) h3
        have hre : r.testBit e = true := by
          cases z : r.testBit e
          · exfalso
            have : sb r P := by
              intro j hj
              have := r2 j hj
              rw [Nat.testBit_or, b1_bit] at this
              by_cases w : e = j
              · subst w; rw [z] at hj; cases hj
              · simp [w] at this; exact this
            have := rk_ge this r3
            omega
          · rfl
        exact ha (hm.2.1 _ r (sb_lt r2 hPe) (sb_or r1 (sb_b1.mpr hre)) r3)
    refine ⟨hPe, sb_tr h2 (sb_or_l _ _), h3, by rw [hrk]; exact h4, hk, fun s hs hA => ⟨?_, ?_⟩⟩
    · rcases (h6 s hs hA).1 with z | ⟨f, f1, f2, f3, f4⟩
      · cases hse : s.testBit e
        · left
          intro j hj
          rw [Nat.testBit_or, b1_bit] at hj
          by_cases q : e = j
          · subst q; rw [hse, hCe]
          · simp [q] at hj
            exact z j hj
        · exfalso
          refine ha (hm.2.1 _ s hs (sb_or (fun j hj => ?_) (sb_b1.mpr hse)) hA)
          rw [← z j (h2 j hj)]; exact hj
      · right
        refine ⟨f, by rw [Nat.testBit_or, f1]; rfl, f2, f3, fun j hj hne => ?_⟩
        rw [Nat.testBit_or, b1_bit] at hj
        by_cases q : e = j
        · subst q; exact Or.inr (h5 f e f1 he hP)
        · simp [q] at hj
          exact f4 j hj hne
    · obtain ⟨g1, g2⟩ := (h6 s hs hA).2
      rw [gw, and_or1]
      split
      · rename_i hse
        rw [hbs s, hws s]
        have hle : bc (s &&& P) + 1 ≤ bc C := by
          rw [← hbs s, h4, ← hrk]
          refine rk_ge (sb_or (sb_tr (sb_and_r _ _) (sb_or_l _ _)) (sb_or_r _ _)) (hm.2.1 _ s hs (sb_or (sb_and_l _ _) (sb_b1.mpr hse)) hA)
        refine ⟨hle, fun θ hθ => ?_⟩
        have := g2 (wt e) hself
        have t2 := (hthr θ hθ).2
        rw [show bc C - (bc (s &&& P) + 1) = bc C - bc (s &&& P) - 1 by omega]
        cases light
        · simp at this t2 ⊢
          have := mul_step (d := bc C - bc (s &&& P)) t2 (by omega)
          omega
        · simp at this t2 ⊢
          have := mul_step2 (d := bc C - bc (s &&& P)) t2 (by omega)
          omega
      · refine ⟨g1, fun θ hθ => ?_⟩
        exact g2 θ (hthr θ hθ).1
/-- the set at the end is better than every other full one -/
theorem gi_end {n u : Nat} {A : Nat → Bool} {wt : Nat → Nat} {light : Bool} {C : Nat} (hn : n ≤ 16) (hu : u = 2 ^ n - 1) (h : gi n A wt light u C) {s : Nat} (hs : s < 2 ^ n) (hA : A s = true) (hb : bc s = rk A u) : (if light = true then wsn wt C n ≤ wsn wt s n else wsn wt s n ≤ wsn wt C n) ∧ (C = s ∨ ∃ f, f < n ∧ C.testBit f = true ∧ s.testBit f = false ∧ ∀ j, j < n → C.testBit j ≠ s.testBit j → j = f ∨ kl wt light f j) := by
  obtain ⟨h1, h2, h3, h4, h5, h6⟩ := h
  have hub : ∀ i, u.testBit i = true ↔ i < n := by
    intro i
    rw [hu, Nat.testBit_two_pow_sub_one]
    simp
  have hsu : s &&& u = s := sb_iff.mp (fun i hi => (hub i).mpr (bit_lt hs hi))
  obtain ⟨g1, g2, g3⟩ := h6 s hs hA
  constructor
  · rw [hsu] at g3
    rw [show bc C - bc s = 0 by omega] at g3
    cases light
    · have := g3 0 (fun i _ => by simp)
      simpa using this
    · obtain ⟨M, hM⟩ : ∃ M, ∀ i, i < n → wt i ≤ M := by
        clear g1 g2 g3 hsu hub h6 h5 h4 h3 h2 h1 hb hA hs hu hn
        induction n with
        | zero => exact ⟨0, fun i hi => by omega⟩
        | succ n ih =>
          obtain ⟨M, hM⟩ := ih
          refine ⟨M + wt n, fun i hi => ?_⟩
          by_cases q : i = n
          · subst q; omega
          · have := hM i (by omega); omega
      have := g3 M (fun i hi => by simp; exact hM i ((hub i).mp hi))
      simpa using this
  · rcases g1 with z | ⟨f, f1, f2, f3, f4⟩
    · left
      apply Nat.eq_of_testBit_eq
      intro i
      by_cases hi : i < n
      · exact z i ((hub i).mpr hi)
      · have a : C.testBit i = false := by
          cases q : C.testBit i
          · rfl
          · exact absurd (bit_lt (sb_lt h2 h1) q) hi
        have b : s.testBit i = false := by
          cases q : s.testBit i
          · rfl
          · exact absurd (bit_lt hs q) hi
        rw [a, b]
    · right
      exact ⟨f, (hub f).mp f1, f2, f3, fun j hj => f4 j ((hub j).mpr hj)⟩
