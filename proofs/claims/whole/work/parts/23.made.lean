/-! rules made of rules -/
theorem rax_add {n : Nat} {f : Nat → Nat} (hn : n ≤ 16) (hu : ∀ s i, s < 2 ^ n → i < n → f (s ||| b1 i) ≤ f s + 1) {s u : Nat} (hs : s < 2 ^ n) (hu2 : u < 2 ^ n) : f (s ||| u) ≤ f s + bc u := by
  refine bits_ind (P := fun v => sb v u → f (s ||| v) ≤ f s + bc v) u (fun _ => by rw [Nat.or_zero, bc_0]; exact Nat.le_refl _) ?_ (sb_rf u)
  intro v i hv hvi ih hsb
  have h1 := ih (sb_tr (sb_or_l _ _) hv)
  have hi : i < n := bit_lt hu2 (sb_b1.mp (sb_tr (sb_or_r v (b1 i)) hv))
  have h2 := hu (s ||| v) i (or_lt hs (sb_lt (sb_tr (sb_or_l _ _) hv) hu2)) hi
  have h3 := bc_add (s := v) (i := i) (by omega) hvi
  rw [Nat.or_assoc] at h2
  omega
theorem rax_mat {n : Nat} {f : Nat → Nat} {A : Nat → Bool} (hn : n ≤ 16) (hf : rax n f) (hu : ∀ s i, s < 2 ^ n → i < n → f (s ||| b1 i) ≤ f s + 1) (hA : ∀ s, s < 2 ^ n → (A s = true ↔ f s = bc s)) : mat n A := by
  have hle : ∀ s, s < 2 ^ n → f s ≤ bc s := by
    intro s hs
    have := rax_add hn hu (Nat.two_pow_pos n) hs
    rw [Nat.zero_or, hf.1] at this
    omega
  refine ⟨(hA 0 (Nat.two_pow_pos n)).mpr (by rw [hf.1, bc_0]), fun s t ht hs h => ?_, fun s t hs ht h1 h2 hlt => ?_⟩
  · have h1 := (hA t ht).mp h
    have hs2 := sb_lt hs ht
    refine (hA s hs2).mpr (Nat.le_antisymm (hle s hs2) ?_)
    have h2 := rax_add hn hu hs2 (sb_lt (sb_df t s) ht)
    have e : s ||| df t s = t := by
      apply Nat.eq_of_testBit_eq
      intro i
      have := hs i
      rw [Nat.testBit_or, df_bit]
      cases h1 : s.testBit i <;> cases h2 : t.testBit i <;> simp_all
    have := bc_df hs
    rw [e] at h2
    omega
  · apply Classical.byContradiction
    intro hno
    have h1' := (hA s hs).mp h1
    have h2' := (hA t ht).mp h2
    have hcl := rax_cl hf hs ht (fun i hi => by
      have hin := bit_lt ht hi
      have m : f s ≤ f (s ||| b1 i) := hf.2.1 _ _ (or_lt hs (b1_lt hin)) (sb_or_l _ _)
      cases hsi : s.testBit i
      · have hb := bc_add (s := s) (i := i) (by omega) hsi
        have u := hu s i hs hin
        have : ¬ A (s ||| b1 i) = true := fun q => hno ⟨i, hi, hsi, q⟩
        have : ¬ f (s ||| b1 i) = bc (s ||| b1 i) := fun q => this ((hA _ (or_lt hs (b1_lt hin))).mpr q)
        omega
      · have : s ||| b1 i = s := by
          apply Nat.eq_of_testBit_eq
          intro j
          rw [Nat.testBit_or, b1_bit]
          by_cases e : i = j
          · subst e; rw [hsi]; simp
          · simp [e]
        rw [this])
    have := hf.2.1 t (s ||| t) (or_lt hs ht) (sb_or_r _ _)
    omega
theorem rk_add {n : Nat} {A : Nat → Bool} (hn : n ≤ 16) (hm : mat n A) {s u : Nat} (hs : s < 2 ^ n) (hu : u < 2 ^ n) : rk A (s ||| u) ≤ rk A s + bc u :=
  rax_add hn (fun s i hs hi => rk_unit hm.1 hm.2.1 hs hi hn) hs hu
theorem df_0 (s : Nat) : df s 0 = s := by unfold df; simp
theorem df_or_l (x y t : Nat) : df (x ||| y) t = df x t ||| df y t := by
  apply Nat.eq_of_testBit_eq
  intro i
  rw [df_bit, Nat.testBit_or, Nat.testBit_or, df_bit, df_bit]
  cases x.testBit i <;> cases y.testBit i <;> cases t.testBit i <;> rfl
theorem df_and_l (x y t : Nat) : df (x &&& y) t = df x t &&& df y t := by
  apply Nat.eq_of_testBit_eq
  intro i
  rw [df_bit, Nat.testBit_and, Nat.testBit_and, df_bit, df_bit]
  cases x.testBit i <;> cases y.testBit i <;> cases t.testBit i <;> rfl
theorem df_or_r (x s t : Nat) : df x (s ||| t) = df x s &&& df x t := by
  apply Nat.eq_of_testBit_eq
  intro i
  rw [df_bit, Nat.testBit_or, Nat.testBit_and, df_bit, df_bit]
  cases x.testBit i <;> cases s.testBit i <;> cases t.testBit i <;> rfl
theorem df_and_r (x s t : Nat) : df x (s &&& t) = df x s ||| df x t := by
  apply Nat.eq_of_testBit_eq
  intro i
  rw [df_bit, Nat.testBit_or, Nat.testBit_and, df_bit, df_bit]
  cases x.testBit i <;> cases s.testBit i <;> cases t.testBit i <;> rfl
theorem df_mono {x y : Nat} (t : Nat) (h : sb x y) : sb (df x t) (df y t) := by
  intro i hi
  rw [df_bit] at hi ⊢
  simp at hi
  rw [h i hi.1, hi.2]; rfl
theorem df_anti {s t : Nat} (x : Nat) (h : sb s t) : sb (df x t) (df x s) := by
  intro i hi
  rw [df_bit] at hi ⊢
  simp at hi
  have := h i
  cases hs : s.testBit i
  · rw [hi.1]; rfl
  · rw [this hs] at hi; simp at hi
theorem df_eq_of {s t : Nat} (h : s &&& t = 0) : df s t = s := by unfold df; rw [h]; simp
theorem and0_of_df {s t : Nat} (h : df s t = s) : s &&& t = 0 := by
  apply Nat.eq_of_testBit_eq
  intro i
  have h1 : (df s t).testBit i = s.testBit i := by rw [h]
  rw [df_bit] at h1
  rw [Nat.testBit_and]
  cases hs : s.testBit i <;> cases ht : t.testBit i <;> simp_all
theorem df_b1 (i t : Nat) : df (b1 i) t = b1 i ∨ df (b1 i) t = 0 := by
  cases ht : t.testBit i
  · left
    apply df_eq_of
    apply Nat.eq_of_testBit_eq
    intro j
    rw [Nat.testBit_and, b1_bit]
    by_cases e : i = j
    · subst e; rw [ht]; simp
    · simp [e]
  · right
    apply Nat.eq_of_testBit_eq
    intro j
    rw [df_bit, b1_bit]
    by_cases e : i = j
    · subst e; rw [ht]; simp
    · simp [e]
/-- LESS -/
theorem mat_less {n t : Nat} {A A' : Nat → Bool} (hn : n ≤ 16) (hm : mat n A) (hA : ∀ s, s < 2 ^ n → (A' s = true ↔ s &&& t = 0 ∧ A s = true)) : mat n A' := by
  have hl : ∀ s, s < 2 ^ n → df s t < 2 ^ n := fun s hs => sb_lt (sb_df s t) hs
  refine rax_mat (f := fun s => rk A (df s t)) hn ⟨?_, fun s u hu hs => rk_mono hm.1 (df_mono t hs), fun x y hx hy => ?_⟩ (fun s i hs hi => ?_) (fun s hs => ?_)
  · show rk A (df 0 t) = 0
    rw [show df 0 t = 0 from Nat.le_zero.mp (sb_le (sb_df 0 t)), rk_0 hm.1]
  · show rk A (df (x ||| y) t) + rk A (df (x &&& y) t) ≤ _
    rw [df_or_l, df_and_l]
    exact rk_sub hn hm (hl x hx) (hl y hy)
  · show rk A (df (s ||| b1 i) t) ≤ rk A (df s t) + 1
    rw [df_or_l]
    rcases df_b1 i t with q | q
    · rw [q]; exact rk_unit hm.1 hm.2.1 (hl s hs) hi hn
    · rw [q, Nat.or_zero]; omega
  · rw [hA s hs]
    constructor
    · intro ⟨h1, h2⟩
      show rk A (df s t) = bc s
      rw [df_eq_of h1]
      exact (rk_iff hn hm.1 hs).mp h2
    · intro h
      have h1 : rk A (df s t) = bc s := h
      have h2 := rk_le (A := A) (s := df s t) hm.1
      have h3 := bc_eq hn hs (sb_df s t) (by omega)
      refine ⟨and0_of_df h3, (rk_iff hn hm.1 hs).mpr ?_⟩
      rw [h3] at h1
      exact h1
/-- TAKEN -/
theorem mat_take {n t : Nat} {A A' : Nat → Bool} (hn : n ≤ 16) (hm : mat n A) (ht : t < 2 ^ n) (hA : ∀ s, s < 2 ^ n → (A' s = true ↔ s &&& t = 0 ∧ rk A (s ||| t) = rk A t + bc s)) : mat n A' := by
  have hge : ∀ s, rk A t ≤ rk A (s ||| t) := fun s => rk_mono hm.1 (sb_or_r s t)
  refine rax_mat (f := fun s => rk A (s ||| t) - rk A t) hn ⟨?_, fun s u hu hs => ?_, fun x y hx hy => ?_⟩ (fun s i hs hi => ?_) (fun s hs => ?_)
  · show rk A (0 ||| t) - rk A t = 0
    rw [Nat.zero_or]; omega
  · have := rk_mono (A := A) hm.1 (sb_or (sb_tr hs (sb_or_l u t)) (sb_or_r u t))
    show rk A (s ||| t) - rk A t ≤ rk A (u ||| t) - rk A t
    omega
  · show (rk A ((x ||| y) ||| t) - rk A t) + (rk A ((x &&& y) ||| t) - rk A t) ≤ (rk A (x ||| t) - rk A t) + (rk A (y ||| t) - rk A t)
    have h := rk_sub hn hm (or_lt hx ht) (or_lt hy ht)
    have e1 : (x ||| t) ||| (y ||| t) = (x ||| y) ||| t := by
      apply Nat.eq_of_testBit_eq
      intro i
      simp only [Nat.testBit_or]
      cases x.testBit i <;> cases y.testBit i <;> cases t.testBit i <;> rfl
    have e2 : (x ||| t) &&& (y ||| t) = (x &&& y) ||| t := by
      apply Nat.eq_of_testBit_eq
      intro i
      simp only [Nat.testBit_or, Nat.testBit_and]
      cases x.testBit i <;> cases y.testBit i <;> cases t.testBit i <;> rfl
    rw [e1, e2] at h
    have a := hge x
    have b := hge y
    have c := hge (x ||| y)
    have d := hge (x &&& y)
    omega
  · show rk A ((s ||| b1 i) ||| t) - rk A t ≤ rk A (s ||| t) - rk A t + 1
    have e1 : (s ||| b1 i) ||| t = (s ||| t) ||| b1 i := by
      apply Nat.eq_of_testBit_eq
      intro j
      simp only [Nat.testBit_or]
      cases s.testBit j <;> cases (b1 i).testBit j <;> cases t.testBit j <;> rfl
    rw [e1]
    have := rk_unit hm.1 hm.2.1 (or_lt hs ht) hi hn
    have := hge s
    omega
  · rw [hA s hs]
    have a := hge s
    constructor
    · intro ⟨h1, h2⟩
      show rk A (s ||| t) - rk A t = bc s
      omega
    · intro h
      have h1 : rk A (s ||| t) - rk A t = bc s := h
      have e1 : s ||| t = t ||| df s t := by
        apply Nat.eq_of_testBit_eq
        intro j
        rw [Nat.testBit_or, Nat.testBit_or, df_bit]
        cases s.testBit j <;> cases t.testBit j <;> rfl
      have h2 := rk_add hn hm ht (sb_lt (sb_df s t) hs)
      rw [← e1] at h2
      exact ⟨and0_of_df (bc_eq hn hs (sb_df s t) (by omega)), by omega⟩
/-- TURNED -/
theorem mat_turn {n u : Nat} {A A' : Nat → Bool} (hn : n ≤ 16) (hm : mat n A) (hu : u = 2 ^ n - 1) (hA : ∀ s, s < 2 ^ n → (A' s = true ↔ rk A (df u s) = rk A u)) : mat n A' := by
  have hu2 : u < 2 ^ n := by have := Nat.two_pow_pos n; omega
  have hub : ∀ s, s < 2 ^ n → sb s u := by
    intro s hs i hi
    rw [hu, Nat.testBit_two_pow_sub_one]
    simp
    exact bit_lt hs hi
  have hge : ∀ s, s < 2 ^ n → rk A u ≤ bc s + rk A (df u s) := by
    intro s hs
    have := rk_add hn hm (sb_lt (sb_df u s) hu2) hs
    have e : df u s ||| s = u := by
      apply Nat.eq_of_testBit_eq
      intro i
      have := hub s hs i
      rw [Nat.testBit_or, df_bit]
      cases h1 : s.testBit i <;> cases h2 : u.testBit i <;> simp_all
    rw [e] at this
    omega
  refine rax_mat (f := fun s => bc s + rk A (df u s) - rk A u) hn ⟨?_, fun s v hv hs => ?_, fun x y hx hy => ?_⟩ (fun s i hs hi => ?_) (fun s hs => ?_)
  · show bc 0 + rk A (df u 0) - rk A u = 0
    rw [bc_0, df_0]; omega
  · show bc s + rk A (df u s) - rk A u ≤ bc v + rk A (df u v) - rk A u
    have h1 := bc_df hs
    have h2 := rk_add hn hm (sb_lt (sb_df u v) hu2) (sb_lt (sb_df v s) hv)
    have e : df u v ||| df v s = df u s := by
      apply Nat.eq_of_testBit_eq
      intro i
      have := hs i
      have := hub v hv i
      rw [Nat.testBit_or, df_bit, df_bit, df_bit]
      cases h1 : s.testBit i <;> cases h2 : v.testBit i <;> cases h3 : u.testBit i <;> simp_all
    rw [e] at h2
    omega
  · show (bc (x ||| y) + rk A (df u (x ||| y)) - rk A u) + (bc (x &&& y) + rk A (df u (x &&& y)) - rk A u) ≤ (bc x + rk A (df u x) - rk A u) + (bc y + rk A (df u y) - rk A u)
    have h := rk_sub hn hm (sb_lt (sb_df u x) hu2) (sb_lt (sb_df u y) hu2)
    have b := bc_orand x y
    have g1 := hge x hx
    have g2 := hge y hy
    have g3 := hge (x ||| y) (or_lt hx hy)
    have g4 := hge (x &&& y) (sb_lt (sb_and_l x y) hx)
    rw [df_or_r] at g3 ⊢
    rw [df_and_r] at g4 ⊢
    omega
  · show bc (s ||| b1 i) + rk A (df u (s ||| b1 i)) - rk A u ≤ bc s + rk A (df u s) - rk A u + 1
    have h1 := bc_orand s (b1 i)
    rw [bc_one (show i < 16 by omega)] at h1
    have h2 := rk_mono (A := A) hm.1 (df_anti u (sb_or_l s (b1 i)))
    have g1 := hge s hs
    omega
  · rw [hA s hs]
    have g1 := hge s hs
    have g2 := rk_mono (A := A) hm.1 (sb_df u s)
    constructor
    · intro h
      show bc s + rk A (df u s) - rk A u = bc s
      omega
    · intro h
      have : bc s + rk A (df u s) - rk A u = bc s := h
      omega
