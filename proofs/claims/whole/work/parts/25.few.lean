/-! how few allowed sets hold all, how many full ones share nothing -/
def cv (A : Nat → Bool) : Nat → Nat → Prop
  | 0, s => s = 0
  | k + 1, s => ∃ b, sb b s ∧ A b = true ∧ cv A k (df s b)
theorem sm_const (k a : Nat) : sm k (fun _ => a) = k * a := by
  induction k with
  | zero => simp [sm]
  | succ k ih => simp only [sm]; rw [ih, Nat.succ_mul]
theorem dl_of_cv {A : Nat → Bool} : ∀ (k s : Nat), cv A k s → dl k (fun _ => A) (fun _ => 0) s := by
  intro k
  induction k with
  | zero =>
    intro s hs
    have : s = 0 := hs
    subst this
    exact ⟨fun _ => 0, fun j hj => by omega, fun i hi => by simp at hi, fun i j j' h => by omega⟩
  | succ k ih =>
    intro s ⟨b, b1, b2, b3⟩
    obtain ⟨t, t1, t2, t3⟩ := ih _ b3
    have hnb : ∀ j i, j < k → (t j).testBit i = true → b.testBit i = false := by
      intro j i hj hi
      have := (t1 j hj).1 i hi
      rw [df_bit] at this
      simp at this
      exact this.2
    refine ⟨fun j => if j = k then b else t j, fun j hj => ?_, fun i hi => ?_, fun i a c h1 h2 h3 h4 => ?_⟩
    · dsimp only
      by_cases q : j = k
      · rw [if_pos q, Nat.zero_or]; exact ⟨b1, b2⟩
      · rw [if_neg q]
        have := t1 j (by omega)
        exact ⟨sb_tr this.1 (sb_df _ _), this.2⟩
    · cases q : b.testBit i
      · obtain ⟨j, hj, hb⟩ := t2 i (by rw [df_bit, hi, q]; rfl)
        exact ⟨j, by omega, by dsimp only; rw [if_neg (by omega)]; exact hb⟩
      · exact ⟨k, by omega, by dsimp only; rw [if_pos rfl]; exact q⟩
    · dsimp only at h3 h4
      by_cases q1 : a = k <;> by_cases q2 : c = k
      · omega
      · rw [if_pos q1] at h3; rw [if_neg q2] at h4
        rw [hnb c i (by omega) h4] at h3; cases h3
      · rw [if_neg q1] at h3; rw [if_pos q2] at h4
        rw [hnb a i (by omega) h3] at h4; cases h4
      · rw [if_neg q1] at h3; rw [if_neg q2] at h4
        exact t3 i a c (by omega) (by omega) h3 h4
theorem cv_of_dl {A : Nat → Bool} : ∀ (k s : Nat), dl k (fun _ => A) (fun _ => 0) s → cv A k s := by
  intro k
  induction k with
  | zero =>
    intro s ⟨t, t1, t2, t3⟩
    show s = 0
    apply Nat.eq_of_testBit_eq
    intro i
    cases q : s.testBit i
    · simp
    · obtain ⟨j, hj, _⟩ := t2 i q; omega
  | succ k ih =>
    intro s ⟨t, t1, t2, t3⟩
    have hk := t1 k (by omega)
    rw [Nat.zero_or] at hk
    refine ⟨t k, hk.1, hk.2, ih _ ⟨t, fun j hj => ⟨fun i hi => ?_, (t1 j (by omega)).2⟩, fun i hi => ?_, fun i a c h1 h2 => t3 i a c (by omega) (by omega)⟩⟩
    · rw [df_bit, (t1 j (by omega)).1 i hi]
      cases q : (t k).testBit i
      · rfl
      · have := t3 i j k (by omega) (by omega) hi q; omega
    · rw [df_bit] at hi
      simp at hi
      obtain ⟨j, hj, hb⟩ := t2 i hi.1
      refine ⟨j, ?_, hb⟩
      by_cases q : j = k
      · subst q; rw [hi.2] at hb; cases hb
      · omega
theorem dc_const {A : Nat → Bool} {k s : Nat} : dc k (fun _ => A) (fun _ => 0) s ↔ ∀ p, sb p s → bc p ≤ k * rk A p := by
  have e : ∀ p, sm k (fun j => rk ((fun _ => A) j) ((fun _ => 0) j ||| p) - bc ((fun _ => 0) j)) = k * rk A p := by
    intro p
    have : sm k (fun j => rk ((fun _ => A) j) ((fun _ => 0) j ||| p) - bc ((fun _ => 0) j)) = sm k (fun _ => rk A p) := sm_eq fun j _ => by simp [bc_0]
    rw [this, sm_const]
  constructor
  · intro h p hp
    have := h p hp
    rw [e] at this
    exact this
  · intro h p hp
    rw [e]
    exact h p hp
theorem hp_0 {n k : Nat} {A : Nat → Bool} (hm : mat n A) (s : Nat) : hp n k (fun _ => A) (fun _ => 0) s := fun j _ => ⟨Nat.two_pow_pos n, hm.1, by simp⟩
/-- FEWEST -/
theorem cv_iff {n : Nat} {A : Nat → Bool} (hn : n ≤ 16) (hm : mat n A) {k s : Nat} (hs : s < 2 ^ n) : cv A k s ↔ ∀ p, sb p s → bc p ≤ k * rk A p := by
  rw [← dc_const]
  constructor
  · intro h
    exact dc_of_dl (fun _ _ => hm) hs (hp_0 hm s) (dl_of_cv k s h)
  · intro h
    exact cv_of_dl k s (dl_of_dc hn (fun _ _ => hm) s _ s (Nat.le_refl _) (hp_0 hm s) hs h)
theorem ceil_le {b r k : Nat} (hr : 0 < r) : (b + r - 1) / r ≤ k ↔ b ≤ k * r := by
  rw [← Nat.lt_succ_iff, Nat.div_lt_iff_lt_mul hr, Nat.succ_mul]
  omega
/-- the part that holds a given thing may come first -/
theorem cv_low {A : Nat → Bool} : ∀ (k s i : Nat), cv A k s → s.testBit i = true → ∃ k', k = k' + 1 ∧ ∃ b, sb b s ∧ b.testBit i = true ∧ A b = true ∧ cv A k' (df s b) := by
  intro k
  induction k with
  | zero =>
    intro s i h hi
    have : s = 0 := h
    subst this
    simp at hi
  | succ k ih =>
    intro s i ⟨b, b1, b2, b3⟩ hi
    cases q : b.testBit i
    · obtain ⟨k', e, c, c1, c2, c3, c4⟩ := ih (df s b) i b3 (by rw [df_bit, hi, q]; rfl)
      refine ⟨k, rfl, c, sb_tr c1 (sb_df _ _), c2, c3, ?_⟩
      rw [e]
      refine ⟨b, fun j hj => ?_, b2, ?_⟩
      · rw [df_bit, b1 j hj]
        cases z : c.testBit j
        · rfl
        · have := c1 j z
          rw [df_bit, hj] at this
          simp at this
      · have e2 : df (df s c) b = df (df s b) c := by
          apply Nat.eq_of_testBit_eq
          intro j
          rw [df_bit, df_bit, df_bit, df_bit]
          cases s.testBit j <;> cases b.testBit j <;> cases c.testBit j <;> rfl
        rw [e2]; exact c4
    · exact ⟨k, rfl, b, b1, q, b2, b3⟩
theorem cv_more {A : Nat → Bool} (h0 : A 0 = true) : ∀ (k s : Nat), cv A k s → cv A (k + 1) s := by
  intro k s h
  exact ⟨0, sb_0 s, h0, by rw [df_0]; exact h⟩
/-- PACK -/
def pk (A : Nat → Bool) (r : Nat) : Nat → Nat → Prop
  | 0, _ => True
  | k + 1, s => ∃ b, sb b s ∧ A b = true ∧ bc b = r ∧ pk A r k (df s b)
theorem pk_nec {n : Nat} {A : Nat → Bool} (hm : mat n A) {r : Nat} : ∀ (k v : Nat), v < 2 ^ n → pk A r k v → ∀ s, s < 2 ^ n → k * (r - rk A s) ≤ bc (df v s) := by
  intro k
  induction k with
  | zero => intro v _ _ s _; simp
  | succ k ih =>
    intro v hv ⟨b, b1, b2, b3, b4⟩ s hs
    have h1 := ih (df v b) (sb_lt (sb_df v b) hv) b4 s hs
    have h2 : bc (b &&& s) ≤ rk A s := rk_ge (sb_and_r b s) (hm.2.1 _ b (sb_lt b1 hv) (sb_and_l b s) b2)
    have h3 := bc_df (sb_and_l b s)
    have h4 : bc (df b (b &&& s)) + bc (df (df v b) s) ≤ bc (df v s) := by
      rw [← bc_dis]
      · refine bc_mono (sb_or (fun i hi => ?_) (fun i hi => ?_))
        · rw [df_bit, Nat.testBit_and] at hi
          rw [df_bit]
          have := b1 i
          cases q1 : b.testBit i <;> cases q2 : s.testBit i <;> simp_all
        · rw [df_bit, df_bit] at hi
          rw [df_bit]
          cases q1 : b.testBit i <;> cases q2 : s.testBit i <;> simp_all
      · refine and0.mpr fun i hi => ?_
        rw [df_bit] at hi
        rw [df_bit, df_bit]
        cases q1 : b.testBit i <;> simp_all
    rw [Nat.succ_mul]
    omega
theorem max_ex {P : Nat → Prop} (b : Nat) (h0 : ∃ s, P s) (hb : ∀ s, P s → bc s ≤ b) : ∃ s, P s ∧ ∀ t, P t → bc t ≤ bc s := by
  apply Classical.byContradiction
  intro hno
  have : ∀ k, ∃ s, P s ∧ k ≤ bc s := by
    intro k
    induction k with
    | zero => obtain ⟨s, hs⟩ := h0; exact ⟨s, hs, Nat.zero_le _⟩
    | succ k ih =>
      obtain ⟨s, hs, hk⟩ := ih
      have : ¬ ∀ t, P t → bc t ≤ bc s := fun q => hno ⟨s, hs, q⟩
      obtain ⟨t, ht⟩ := Classical.not_forall.mp this
      have ht1 : P t := Classical.byContradiction fun q => ht (fun z => absurd z q)
      have ht2 : bc s < bc t := Nat.not_le.mp fun q => ht (fun _ => q)
      exact ⟨t, ht1, by omega⟩
  obtain ⟨s, hs, hk⟩ := this (b + 1)
  have := hb s hs
  omega
theorem pk_mono {A : Nat → Bool} {r : Nat} : ∀ (k s t : Nat), sb s t → pk A r k s → pk A r k t := by
  intro k
  induction k with
  | zero => intro s t _ _; trivial
  | succ k ih =>
    intro s t h ⟨b, b1, b2, b3, b4⟩
    exact ⟨b, sb_tr b1 h, b2, b3, ih _ _ (df_mono b h) b4⟩
theorem pk_of_parts {A : Nat → Bool} {r : Nat} : ∀ (k s : Nat) (t : Nat → Nat), (∀ j, j < k → sb (t j) s ∧ A (t j) = true ∧ bc (t j) = r) → (∀ i j j', j < k → j' < k → (t j).testBit i = true → (t j').testBit i = true → j = j') → pk A r k s := by
  intro k
  induction k with
  | zero => intro s t _ _; trivial
  | succ k ih =>
    intro s t h1 h2
    obtain ⟨a, b, c⟩ := h1 k (by omega)
    refine ⟨t k, a, b, c, ih _ t (fun j hj => ⟨fun i hi => ?_, (h1 j (by omega)).2⟩) (fun i j j' q1 q2 => h2 i j j' (by omega) (by omega))⟩
    rw [df_bit, (h1 j (by omega)).1 i hi]
    cases q : (t k).testBit i
    · rfl
    · have := h2 i j k (by omega) (by omega) hi q; omega
theorem sm_full {k r : Nat} {f : Nat → Nat} (h : ∀ j, j < k → f j ≤ r) (hs : k * r ≤ sm k f) : ∀ j, j < k → f j = r := by
  induction k with
  | zero => intro j hj; omega
  | succ k ih =>
    intro j hj
    simp only [sm] at hs
    rw [Nat.succ_mul] at hs
    have h1 : sm k f ≤ k * r := by rw [← sm_const]; exact sm_le fun i hi => h i (by omega)
    have h2 := h k (by omega)
    by_cases q : j = k
    · subst q; omega
    · exact ih (fun i hi => h i (by omega)) (by omega) j (by omega)
theorem pk_suf {n : Nat} {A : Nat → Bool} (hn : n ≤ 16) (hm : mat n A) {u r k : Nat} (hu : u < 2 ^ n) (hr : r = rk A u) (h : ∀ s, sb s u → k * (r - rk A s) ≤ bc (df u s)) : pk A r k u := by
  have hrx := rax_rk hn hm
  have hf : rax n (fun p => k * rk A p) := ⟨by show k * rk A 0 = 0; rw [hrx.1, Nat.mul_zero], fun s t ht hs => Nat.mul_le_mul_left k (hrx.2.1 s t ht hs), fun x y hx hy => by
    show k * rk A (x ||| y) + k * rk A (x &&& y) ≤ k * rk A x + k * rk A y
    rw [← Nat.mul_add, ← Nat.mul_add]
    exact Nat.mul_le_mul_left k (hrx.2.2 x y hx hy)⟩
  obtain ⟨t, ⟨t1, t2⟩, t3⟩ := max_ex (P := fun s => sb s u ∧ gd (fun p => k * rk A p) s) (bc u) ⟨0, sb_0 u, fun p hp => by rw [Nat.le_zero.mp (sb_le hp), bc_0]; exact Nat.zero_le _⟩ (fun s hs => bc_mono hs.1)
  obtain ⟨v, v1, v2⟩ := gd_max hn hf hu t1 t2 (fun i hi hti hg => by
    have := t3 (t ||| b1 i) ⟨sb_or t1 (sb_b1.mpr hi), hg⟩
    have := bc_add (s := t) (i := i) (by have := bit_lt hu hi; omega) hti
    omega)
  have h1 := h v v1
  have h2 : rk A v ≤ r := by rw [hr]; exact rk_mono hm.1 v1
  have h3 : k * r ≤ bc t := by
    have e : k * r = k * (r - rk A v) + k * rk A v := by rw [← Nat.mul_add, Nat.sub_add_cancel h2]
    have v2' : k * rk A v + bc (df u v) ≤ bc t := v2
    omega
  have ht : t < 2 ^ n := sb_lt t1 hu
  obtain ⟨p, p1, p2, p3⟩ := dl_of_dc hn (fun _ _ => hm) t (fun _ => 0) t (Nat.le_refl _) (hp_0 (k := k) hm t) ht (dc_const.mpr t2)
  have p1' : ∀ j, j < k → sb (p j) t ∧ A (p j) = true := fun j hj => by
    have := p1 j hj
    rw [Nat.zero_or] at this
    exact this
  have hc := bc_cover (k := k) (t := p) p2
  have hfull := sm_full (k := k) (r := r) (f := fun j => bc (t &&& p j)) (fun j hj => by
    have : bc (p j) ≤ r := by rw [hr]; exact rk_ge (sb_tr (p1' j hj).1 t1) (p1' j hj).2
    exact Nat.le_trans (bc_mono (sb_and_r t (p j))) this) (Nat.le_trans h3 hc)
  refine pk_of_parts k u p (fun j hj => ⟨sb_tr (p1' j hj).1 t1, (p1' j hj).2, ?_⟩) p3
  have := hfull j hj
  have e : t &&& p j = p j := by
    have := sb_iff.mp (p1' j hj).1
    rw [Nat.and_comm]; exact this
  rw [e] at this
  exact this
