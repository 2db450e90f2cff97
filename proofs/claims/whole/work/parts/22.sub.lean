/-! submodular functions: what they allow -/
theorem rax_dim {n : Nat} {f : Nat → Nat} (hf : rax n f) {x y i : Nat} (hy : y < 2 ^ n) (hi : i < n) (h : sb x y) (e : f (x ||| b1 i) = f x) : f (y ||| b1 i) = f y := by
  have hx := sb_lt h hy
  have h3 := hf.2.2 y (x ||| b1 i) hy (or_lt hx (b1_lt hi))
  have h4 : f x ≤ f (y &&& (x ||| b1 i)) := hf.2.1 _ _ (sb_lt (sb_and_l _ _) hy) (sb_and h (sb_or_l _ _))
  have e1 : y ||| (x ||| b1 i) = y ||| b1 i := by
    apply Nat.eq_of_testBit_eq
    intro j
    have := h j
    simp only [Nat.testBit_or]
    cases hxj : x.testBit j
    · simp
    · rw [this hxj]; simp
  have h5 : f y ≤ f (y ||| b1 i) := hf.2.1 _ _ (or_lt hy (b1_lt hi)) (sb_or_l _ _)
  rw [e1] at h3
  omega
/-- every part has at most so many as f gives it -/
def gd (f : Nat → Nat) (s : Nat) : Prop := ∀ p, sb p s → bc p ≤ f p
theorem gd_sub {f : Nat → Nat} {s t : Nat} (h : gd f t) (g : sb s t) : gd f s := fun p hp => h p (sb_tr hp g)
theorem gd_tight {n : Nat} {f : Nat → Nat} (hf : rax n f) {s p q : Nat} (hs : s < 2 ^ n) (h : gd f s) (hp : sb p s) (hq : sb q s) (ep : f p = bc p) (eq : f q = bc q) : f (p ||| q) = bc (p ||| q) := by
  have h1 := hf.2.2 p q (sb_lt hp hs) (sb_lt hq hs)
  have h2 := h (p ||| q) (sb_or hp hq)
  have h3 := h (p &&& q) (sb_tr (sb_and_l _ _) hp)
  have h4 := bc_orand p q
  omega
theorem gd_max {n : Nat} {f : Nat → Nat} (hn : n ≤ 16) (hf : rax n f) {s e : Nat} (he : e < 2 ^ n) (hs : sb s e) (h : gd f s) (hm : ∀ i, e.testBit i = true → s.testBit i = false → ¬ gd f (s ||| b1 i)) : ∃ u, sb u e ∧ f u + bc (df e u) ≤ bc s := by
  have hs2 := sb_lt hs he
  have one : ∀ i, e.testBit i = true → s.testBit i = false → ∃ p, sb p s ∧ f p = bc p ∧ f (p ||| b1 i) = f p := by
    intro i h1 h2
    have hin : i < n := bit_lt he h1
    have h3 := hm i h1 h2
    obtain ⟨p, hp⟩ : ∃ p, ¬ (sb p (s ||| b1 i) → bc p ≤ f p) := Classical.not_forall.mp h3
    have hp1 : sb p (s ||| b1 i) := Classical.byContradiction fun q => hp (fun z => absurd z q)
    have hp2 : f p < bc p := Nat.not_le.mp fun q => hp (fun _ => q)
    by_cases c : p.testBit i = true
    · have hs3 : sb (df p (b1 i)) s := by
        intro j hj
        rw [df_bit, b1_bit] at hj
        simp at hj
        have := hp1 j hj.1
        rw [Nat.testBit_or, b1_bit] at this
        simp [hj.2] at this
        exact this
      have b := bc_sub (by omega) c
      have hpn : p < 2 ^ n := sb_lt hp1 (or_lt hs2 (b1_lt hin))
      have m := hf.2.1 _ p hpn (sb_df p (b1 i))
      have g := h _ hs3
      refine ⟨df p (b1 i), hs3, by omega, ?_⟩
      rw [df_or c]
      omega
    · exfalso
      have hs3 : sb p s := by
        intro j hj
        have := hp1 j hj
        rw [Nat.testBit_or, b1_bit] at this
        simp at this
        rcases this with q | q
        · exact q
        · subst q; exact absurd hj c
      have := h p hs3
      omega
  have all : ∃ t, sb t s ∧ f t = bc t ∧ ∀ i, (df e s).testBit i = true → f (t ||| b1 i) = f t := by
    refine bits_ind (P := fun u => sb u (df e s) → ∃ t, sb t s ∧ f t = bc t ∧ ∀ i, u.testBit i = true → f (t ||| b1 i) = f t) (df e s) (fun _ => ⟨0, sb_0 s, by rw [hf.1, bc_0], fun i h => by simp at h⟩) ?_ (sb_rf _)
    intro u i hu hui ih hsb
    obtain ⟨t, t1, t2, t3⟩ := ih (sb_tr (sb_or_l _ _) hu)
    have hi := sb_b1.mp (sb_tr (sb_or_r u (b1 i)) hu)
    rw [df_bit] at hi
    simp at hi
    obtain ⟨p, p1, p2, p3⟩ := one i hi.1 hi.2
    refine ⟨t ||| p, sb_or t1 p1, gd_tight hf hs2 h t1 p1 t2 p2, fun j hj => ?_⟩
    have htp : t ||| p < 2 ^ n := or_lt (sb_lt t1 hs2) (sb_lt p1 hs2)
    rw [Nat.testBit_or, b1_bit] at hj
    simp at hj
    rcases hj with q | q
    · have hjn : j < n := bit_lt (sb_lt (sb_df e s) he) (hu j (by rw [Nat.testBit_or, q]; rfl))
      exact rax_dim hf htp hjn (sb_or_l _ _) (t3 j q)
    · subst q
      exact rax_dim hf htp (bit_lt he hi.1) (sb_or_r _ _) p3
  obtain ⟨t, t1, t2, t3⟩ := all
  have hd : df e s < 2 ^ n := sb_lt (sb_df e s) he
  have hcl := rax_cl hf (sb_lt t1 hs2) hd t3
  refine ⟨t ||| df e s, sb_or (sb_tr t1 hs) (sb_df e s), ?_⟩
  have e1 : df e (t ||| df e s) = df s t := by
    apply Nat.eq_of_testBit_eq
    intro j
    rw [df_bit, df_bit, Nat.testBit_or, df_bit]
    have := hs j
    have := t1 j
    cases h1 : e.testBit j <;> cases h2 : s.testBit j <;> cases h3 : t.testBit j <;> simp_all
  have := bc_df t1
  rw [e1, hcl]
  omega
theorem gd_mat {n : Nat} {f : Nat → Nat} {A : Nat → Bool} (hn : n ≤ 16) (hf : rax n f) (hA : ∀ s, s < 2 ^ n → (A s = true ↔ gd f s)) : mat n A := by
  refine ⟨(hA 0 (Nat.two_pow_pos n)).mpr fun p hp => ?_, fun s t ht hs h => (hA s (sb_lt hs ht)).mpr (gd_sub ((hA t ht).mp h) hs), fun s t hs ht h1 h2 hlt => ?_⟩
  · have : p = 0 := Nat.le_zero.mp (sb_le hp)
    rw [this, bc_0]; exact Nat.zero_le _
  · apply Classical.byContradiction
    intro hno
    have h1' := (hA s hs).mp h1
    have h2' := (hA t ht).mp h2
    have he : s ||| t < 2 ^ n := or_lt hs ht
    obtain ⟨u, u1, u2⟩ := gd_max hn hf he (sb_or_l s t) h1' (fun i hi hsi hg => by
      rw [Nat.testBit_or, hsi] at hi
      simp at hi
      exact hno ⟨i, hi, hsi, (hA _ (or_lt hs (b1_lt (bit_lt ht hi)))).mpr hg⟩)
    have a1 := h2' (t &&& u) (sb_and_l t u)
    have a2 : f (t &&& u) ≤ f u := hf.2.1 _ _ (sb_lt u1 he) (sb_and_r t u)
    have a3 := bc_df (sb_and_l t u)
    have a4 : sb (df t (t &&& u)) (df (s ||| t) u) := by
      intro j hj
      rw [df_bit, Nat.testBit_and] at hj
      rw [df_bit, Nat.testBit_or]
      cases h1 : t.testBit j <;> cases h2 : u.testBit j <;> simp_all
    have := bc_mono a4
    omega
/-! sums, and dealing -/
def sm : Nat → (Nat → Nat) → Nat
  | 0, _ => 0
  | k + 1, f => sm k f + f k
theorem sm_le {k : Nat} {f g : Nat → Nat} (h : ∀ j, j < k → f j ≤ g j) : sm k f ≤ sm k g := by
  induction k with
  | zero => exact Nat.le_refl _
  | succ k ih => simp only [sm]; have := ih (fun j hj => h j (by omega)); have := h k (by omega); omega
theorem sm_eq {k : Nat} {f g : Nat → Nat} (h : ∀ j, j < k → f j = g j) : sm k f = sm k g := Nat.le_antisymm (sm_le fun j hj => Nat.le_of_eq (h j hj)) (sm_le fun j hj => Nat.le_of_eq (h j hj).symm)
theorem sm_add {k : Nat} {f g : Nat → Nat} : sm k (fun j => f j + g j) = sm k f + sm k g := by
  induction k with
  | zero => rfl
  | succ k ih => simp only [sm]; omega
theorem sm_ge {k j : Nat} {f : Nat → Nat} (hj : j < k) : f j ≤ sm k f := by
  induction k with
  | zero => omega
  | succ k ih =>
    simp only [sm]
    by_cases e : j = k
    · subst e; omega
    · have := ih (by omega); omega
theorem sm_up {k j : Nat} {f g : Nat → Nat} (hj : j < k) (h : ∀ i, i < k → i ≠ j → f i = g i) : sm k f + g j = sm k g + f j := by
  induction k with
  | zero => omega
  | succ k ih =>
    simp only [sm]
    by_cases e : j = k
    · subst e
      have := sm_eq (k := j) (f := f) (g := g) (fun i hi => h i (by omega) (by omega))
      omega
    · have h1 := ih (by omega) (fun i hi => h i (by omega))
      have h2 := h k (by omega) (fun q => e q.symm)
      omega
theorem rax_sm {n k : Nat} {g : Nat → Nat → Nat} (h : ∀ j, j < k → rax n (g j)) : rax n (fun s => sm k (fun j => g j s)) := by
  refine ⟨?_, fun s t ht hs => sm_le fun j hj => (h j hj).2.1 s t ht hs, fun x y hx hy => ?_⟩
  · have : sm k (fun j => g j 0) = sm k (fun _ => 0) := sm_eq fun j hj => (h j hj).1
    show sm k (fun j => g j 0) = 0
    rw [this]
    clear this h
    induction k with
    | zero => rfl
    | succ k ih => simp only [sm]; omega
  · show sm k _ + sm k _ ≤ sm k _ + sm k _
    rw [← sm_add, ← sm_add]
    exact sm_le fun j hj => (h j hj).2.2 x y hx hy
/-- one of the heaps may take the thing e -/
theorem deal_step {n k : Nat} {g : Nat → Nat → Nat} (hn : n ≤ 16) (hg : ∀ j, j < k → rax n (g j)) {r e : Nat} (hr : r < 2 ^ n) (he : r.testBit e = true) (h : ∀ p, sb p r → bc p ≤ sm k (fun j => g j p)) :
    ∃ j, j < k ∧ ∀ p, sb p (df r (b1 e)) → bc p + 1 + g j p ≤ sm k (fun i => g i p) + g j (p ||| b1 e) := by
  apply Classical.byContradiction
  intro hno
  have hen : e < n := bit_lt hr he
  have hd : df r (b1 e) < 2 ^ n := sb_lt (sb_df _ _) hr
  have hf := rax_sm hg
  have hgd : gd (fun s => sm k (fun j => g j s)) (df r (b1 e)) := fun p hp => h p (sb_tr hp (sb_df _ _))
  have one : ∀ j, j < k → ∃ p, sb p (df r (b1 e)) ∧ sm k (fun i => g i p) = bc p ∧ g j (p ||| b1 e) = g j p := by
    intro j hj
    have h1 : ¬ ∀ p, sb p (df r (b1 e)) → bc p + 1 + g j p ≤ sm k (fun i => g i p) + g j (p ||| b1 e) := fun q => hno ⟨j, hj, q⟩
    obtain ⟨p, hp⟩ := Classical.not_forall.mp h1
    have hp1 : sb p (df r (b1 e)) := Classical.byContradiction fun q => hp (fun z => absurd z q)
    have hp2 : sm k (fun i => g i p) + g j (p ||| b1 e) < bc p + 1 + g j p := Nat.not_le.mp fun q => hp (fun _ => q)
    have hp3 := hgd p hp1
    dsimp only at hp3
    have hp4 : g j p ≤ g j (p ||| b1 e) := (hg j hj).2.1 _ _ (or_lt (sb_lt hp1 hd) (b1_lt hen)) (sb_or_l _ _)
    exact ⟨p, hp1, by omega, by omega⟩
  have all : ∀ m, m ≤ k → ∃ t, sb t (df r (b1 e)) ∧ sm k (fun i => g i t) = bc t ∧ ∀ j, j < m → g j (t ||| b1 e) = g j t := by
    intro m
    induction m with
    | zero =>
      intro _
      exact ⟨0, sb_0 _, by have := hf.1; dsimp only at this; rw [this, bc_0], fun j hj => by omega⟩
    | succ m ih =>
      intro hm
      obtain ⟨t, t1, t2, t3⟩ := ih (by omega)
      obtain ⟨p, p1, p2, p3⟩ := one m (by omega)
      have htp : t ||| p < 2 ^ n := or_lt (sb_lt t1 hd) (sb_lt p1 hd)
      refine ⟨t ||| p, sb_or t1 p1, gd_tight hf hd hgd t1 p1 t2 p2, fun j hj => ?_⟩
      by_cases q : j = m
      · subst q
        exact rax_dim (hg j (by omega)) htp hen (sb_or_r _ _) p3
      · exact rax_dim (hg j (by omega)) htp hen (sb_or_l _ _) (t3 j (by omega))
  obtain ⟨t, t1, t2, t3⟩ := all k (Nat.le_refl _)
  have h1 := h (t ||| b1 e) (sb_or (sb_tr t1 (sb_df _ _)) (sb_b1.mpr he))
  have h2 : sm k (fun j => g j (t ||| b1 e)) = sm k (fun j => g j t) := sm_eq t3
  have h3 : t.testBit e = false := by
    cases q : t.testBit e
    · rfl
    · have := t1 e q
      rw [df_bit, b1_bit] at this
      simp at this
  have h4 := bc_add (s := t) (i := e) (by omega) h3
  omega
