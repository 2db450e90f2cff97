/-! dealing things out onto heaps -/
def dc (k : Nat) (B : Nat → Nat → Bool) (h : Nat → Nat) (r : Nat) : Prop := ∀ p, sb p r → bc p ≤ sm k (fun j => rk (B j) (h j ||| p) - bc (h j))
/-- the heaps are fine: allowed, and nothing of r is on them -/
def hp (n k : Nat) (B : Nat → Nat → Bool) (h : Nat → Nat) (r : Nat) : Prop := ∀ j, j < k → h j < 2 ^ n ∧ B j (h j) = true ∧ h j &&& r = 0
theorem and0 {s t : Nat} : s &&& t = 0 ↔ ∀ i, s.testBit i = true → t.testBit i = false := by
  constructor
  · intro h i hi
    have : (s &&& t).testBit i = false := by rw [h]; simp
    rw [Nat.testBit_and, hi] at this
    simpa using this
  · intro h
    apply Nat.eq_of_testBit_eq
    intro i
    rw [Nat.testBit_and]
    cases hs : s.testBit i
    · simp
    · rw [h i hs]; simp
theorem bc_dis {s t : Nat} (h : s &&& t = 0) : bc (s ||| t) = bc s + bc t := by
  have := bc_orand s t
  rw [h, bc_0] at this
  omega
theorem rax_heap {n : Nat} {A : Nat → Bool} (hn : n ≤ 16) (hm : mat n A) {x : Nat} (hx : x < 2 ^ n) (ha : A x = true) : rax n (fun p => rk A (x ||| p) - bc x) := by
  have e0 := (rk_iff hn hm.1 hx).mp ha
  have hge : ∀ p, bc x ≤ rk A (x ||| p) := fun p => by rw [← e0]; exact rk_mono hm.1 (sb_or_l x p)
  refine ⟨?_, fun s t ht hs => ?_, fun y z hy hz => ?_⟩
  · show rk A (x ||| 0) - bc x = 0
    rw [Nat.or_zero]; omega
  · show rk A (x ||| s) - bc x ≤ rk A (x ||| t) - bc x
    have := rk_mono (A := A) hm.1 (sb_or (sb_or_l x t) (sb_tr hs (sb_or_r x t)))
    omega
  · show (rk A (x ||| (y ||| z)) - bc x) + (rk A (x ||| (y &&& z)) - bc x) ≤ (rk A (x ||| y) - bc x) + (rk A (x ||| z) - bc x)
    have h := rk_sub hn hm (or_lt hx hy) (or_lt hx hz)
    have e1 : (x ||| y) ||| (x ||| z) = x ||| (y ||| z) := by
      apply Nat.eq_of_testBit_eq
      intro i
      simp only [Nat.testBit_or]
      cases x.testBit i <;> cases y.testBit i <;> cases z.testBit i <;> rfl
    have e2 : (x ||| y) &&& (x ||| z) = x ||| (y &&& z) := by
      apply Nat.eq_of_testBit_eq
      intro i
      simp only [Nat.testBit_or, Nat.testBit_and]
      cases x.testBit i <;> cases y.testBit i <;> cases z.testBit i <;> rfl
    rw [e1, e2] at h
    have a := hge y
    have b := hge z
    have c := hge (y ||| z)
    have d := hge (y &&& z)
    omega
theorem up_s {α : Type} (f : Nat → α) (k : Nat) (v : α) : va_up f k v k = v := if_pos rfl
theorem up_n {α : Type} (f : Nat → α) {k j : Nat} (v : α) (h : j ≠ k) : va_up f k v j = f j := if_neg h
/-- what it means that the heap j may take e -/
theorem dc_put {n k : Nat} {B : Nat → Nat → Bool} {h : Nat → Nat} {r e j : Nat} (hn : n ≤ 16) (hm : ∀ j, j < k → mat n (B j)) (hh : hp n k B h r) (hr : r < 2 ^ n) (he : r.testBit e = true) (hj : j < k) :
    (B j (h j ||| b1 e) = true ∧ dc k B (va_up h j (h j ||| b1 e)) (df r (b1 e))) ↔ ∀ p, sb p (df r (b1 e)) → bc p + 1 + (rk (B j) (h j ||| p) - bc (h j)) ≤ sm k (fun i => rk (B i) (h i ||| p) - bc (h i)) + (rk (B j) (h j ||| (p ||| b1 e)) - bc (h j)) := by
  obtain ⟨h1, h2, h3⟩ := hh j hj
  have hen := bit_lt hr he
  have hje : (h j).testBit e = false := by
    cases q : (h j).testBit e
    · rfl
    · rw [and0.mp h3 e q] at he; cases he
  have hb := bc_add (s := h j) (i := e) (by omega) hje
  have hlt := or_lt h1 (b1_lt hen)
  have e0 := (rk_iff hn (hm j hj).1 h1).mp h2
  have key : ∀ p, sb p (df r (b1 e)) → B j (h j ||| b1 e) = true →
      (bc p ≤ sm k (fun i => rk (B i) (va_up h j (h j ||| b1 e) i ||| p) - bc (va_up h j (h j ||| b1 e) i)) ↔ bc p + 1 + (rk (B j) (h j ||| p) - bc (h j)) ≤ sm k (fun i => rk (B i) (h i ||| p) - bc (h i)) + (rk (B j) (h j ||| (p ||| b1 e)) - bc (h j))) := by
    intro p hp ha
    have s1 := sm_up (k := k) (j := j) (f := fun i => rk (B i) (va_up h j (h j ||| b1 e) i ||| p) - bc (va_up h j (h j ||| b1 e) i)) (g := fun i => rk (B i) (h i ||| p) - bc (h i)) hj (fun i _ hi => by simp only [up_n h (h j ||| b1 e) hi])
    simp only [up_s] at s1
    have e1 : h j ||| b1 e ||| p = h j ||| (p ||| b1 e) := by rw [Nat.or_assoc, Nat.or_comm (b1 e) p]
    rw [e1] at s1
    have ea := (rk_iff hn (hm j hj).1 hlt).mp ha
    have mo : rk (B j) (h j ||| b1 e) ≤ rk (B j) (h j ||| (p ||| b1 e)) := rk_mono (hm j hj).1 (sb_or (sb_or_l _ _) (sb_tr (sb_or_r p (b1 e)) (sb_or_r _ _)))
    have mo2 : rk (B j) (h j) ≤ rk (B j) (h j ||| p) := rk_mono (hm j hj).1 (sb_or_l _ _)
    have ge := sm_ge (k := k) (j := j) (f := fun i => rk (B i) (h i ||| p) - bc (h i)) hj
    omega
  constructor
  · intro ⟨ha, hd⟩ p hp
    exact (key p hp ha).mp (hd p hp)
  · intro hall
    have ha : B j (h j ||| b1 e) = true := by
      have h0 := hall 0 (sb_0 _)
      have z : sm k (fun i => rk (B i) (h i ||| 0) - bc (h i)) = sm k (fun _ => 0) := sm_eq fun i hi => by
        have := (rk_iff hn (hm i hi).1 (hh i hi).1).mp (hh i hi).2.1
        rw [Nat.or_zero]; omega
      have z2 : sm k (fun _ => 0) = 0 := by
        clear z h0 hall key hj hm hh
        induction k with
        | zero => rfl
        | succ k ih => simp only [sm]; omega
      rw [z, z2, bc_0, Nat.or_zero, Nat.zero_or] at h0
      refine (rk_iff hn (hm j hj).1 hlt).mpr ?_
      have := rk_le (A := B j) (s := h j ||| b1 e) (hm j hj).1
      omega
    exact ⟨ha, fun p hp => (key p hp ha).mpr (hall p hp)⟩
theorem hp_put {n k : Nat} {B : Nat → Nat → Bool} {h : Nat → Nat} {r e j : Nat} (hh : hp n k B h r) (hr : r < 2 ^ n) (he : r.testBit e = true) (hj : j < k) (ha : B j (h j ||| b1 e) = true) : hp n k B (va_up h j (h j ||| b1 e)) (df r (b1 e)) := by
  intro i hi
  by_cases q : i = j
  · subst q
    rw [up_s]
    refine ⟨or_lt (hh i hi).1 (b1_lt (bit_lt hr he)), ha, and0.mpr fun b hb => ?_⟩
    rw [Nat.testBit_or] at hb
    rw [df_bit]
    cases q1 : (h i).testBit b
    · rw [q1] at hb
      simp at hb
      rw [hb]; simp
    · rw [and0.mp (hh i hi).2.2 b q1]; rfl
  · rw [up_n _ _ q]
    refine ⟨(hh i hi).1, (hh i hi).2.1, and0.mpr fun b hb => ?_⟩
    rw [df_bit, and0.mp (hh i hi).2.2 b hb]; rfl
theorem deal_one {n k : Nat} {B : Nat → Nat → Bool} {h : Nat → Nat} {r e : Nat} (hn : n ≤ 16) (hm : ∀ j, j < k → mat n (B j)) (hh : hp n k B h r) (hr : r < 2 ^ n) (he : r.testBit e = true) (hd : dc k B h r) :
    ∃ j, j < k ∧ B j (h j ||| b1 e) = true ∧ dc k B (va_up h j (h j ||| b1 e)) (df r (b1 e)) := by
  obtain ⟨j, hj, hs⟩ := deal_step (g := fun j p => rk (B j) (h j ||| p) - bc (h j)) hn (fun j hj => rax_heap hn (hm j hj) (hh j hj).1 (hh j hj).2.1) hr he hd
  exact ⟨j, hj, (dc_put hn hm hh hr he hj).mpr hs⟩
/-- a deal of r: each thing on just one heap -/
def dl (k : Nat) (B : Nat → Nat → Bool) (h : Nat → Nat) (r : Nat) : Prop := ∃ t : Nat → Nat, (∀ j, j < k → sb (t j) r ∧ B j (h j ||| t j) = true) ∧ (∀ i, r.testBit i = true → ∃ j, j < k ∧ (t j).testBit i = true) ∧ ∀ i j j', j < k → j' < k → (t j).testBit i = true → (t j').testBit i = true → j = j'
theorem dl_of_dc {n k : Nat} {B : Nat → Nat → Bool} (hn : n ≤ 16) (hm : ∀ j, j < k → mat n (B j)) : ∀ (m : Nat) (h : Nat → Nat) (r : Nat), r ≤ m → hp n k B h r → r < 2 ^ n → dc k B h r → dl k B h r := by
  intro m
  induction m with
  | zero =>
    intro h r hr hh _ _
    rw [Nat.le_zero.mp hr]
    exact ⟨fun _ => 0, fun j hj => ⟨sb_0 _, by rw [Nat.or_zero]; exact (hh j hj).2.1⟩, fun i hi => by simp at hi, fun i j j' _ _ hi => by simp at hi⟩
  | succ m ih =>
    intro h r hr hh hlt hd
    by_cases e0 : r = 0
    · subst e0
      exact ⟨fun _ => 0, fun j hj => ⟨sb_0 _, by rw [Nat.or_zero]; exact (hh j hj).2.1⟩, fun i hi => by simp at hi, fun i j j' _ _ hi => by simp at hi⟩
    · obtain ⟨e, he⟩ := bits_ex e0
      obtain ⟨j, hj, ha, hd2⟩ := deal_one hn hm hh hlt he hd
      have hlt2 := df_lt he
      obtain ⟨t, t1, t2, t3⟩ := ih _ _ (by omega) (hp_put hh hlt he hj ha) (sb_lt (sb_df _ _) hlt) hd2
      have hne : ∀ i, i < k → (t i).testBit e = false := by
        intro i hi
        cases q : (t i).testBit e
        · rfl
        · have := (t1 i hi).1 e q
          rw [df_bit, b1_bit] at this
          simp at this
      refine ⟨va_up t j (t j ||| b1 e), fun i hi => ?_, fun i hi => ?_, fun i a b h1 h2 h3 h4 => ?_⟩
      · by_cases q : i = j
        · subst q
          rw [up_s]
          have := (t1 i hi).2
          rw [up_s] at this
          refine ⟨sb_or (sb_tr (t1 i hi).1 (sb_df _ _)) (sb_b1.mpr he), ?_⟩
          rw [Nat.or_comm (t i) (b1 e), ← Nat.or_assoc]
          exact this
        · rw [up_n _ _ q]
          have := (t1 i hi).2
          rw [up_n _ _ q] at this
          exact ⟨sb_tr (t1 i hi).1 (sb_df _ _), this⟩
      · by_cases q : i = e
        · subst q
          exact ⟨j, hj, by rw [up_s, Nat.testBit_or, b1_bit]; simp⟩
        · obtain ⟨a, a1, a2⟩ := t2 i (by rw [df_bit, hi, b1_bit]; simp; exact fun z => q z.symm)
          refine ⟨a, a1, ?_⟩
          by_cases qa : a = j
          · subst qa; rw [up_s, Nat.testBit_or, a2]; rfl
          · rw [up_n _ _ qa]; exact a2
      · by_cases q : i = e
        · subst q
          have : ∀ x, x < k → (va_up t j (t j ||| b1 i) x).testBit i = true → x = j := by
            intro x hx hb
            by_cases z : x = j
            · exact z
            · rw [up_n _ _ z, hne x hx] at hb; cases hb
          rw [this a h1 h3, this b h2 h4]
        · have : ∀ x, (va_up t j (t j ||| b1 e) x).testBit i = true → (t x).testBit i = true := by
            intro x hb
            by_cases z : x = j
            · subst z
              rw [up_s, Nat.testBit_or, b1_bit] at hb
              simp at hb
              rcases hb with z | z
              · exact z
              · exact absurd z.symm q
            · rw [up_n _ _ z] at hb; exact hb
          exact t3 i a b h1 h2 (this a h3) (this b h4)
theorem bc_cover {k : Nat} {t : Nat → Nat} {p : Nat} (hp : ∀ i, p.testBit i = true → ∃ j, j < k ∧ (t j).testBit i = true) : bc p ≤ sm k (fun j => bc (p &&& t j)) := by
  have key : ∀ m q, sb q p → (∀ i, q.testBit i = true → ∃ j, j < m ∧ (t j).testBit i = true) → bc q ≤ sm m (fun j => bc (p &&& t j)) := by
    intro m
    induction m with
    | zero =>
      intro q _ h
      have : q = 0 := by
        apply Nat.eq_of_testBit_eq
        intro i
        cases c : q.testBit i
        · simp
        · obtain ⟨j, hj, _⟩ := h i c; omega
      rw [this, bc_0]; exact Nat.zero_le _
    | succ m ih =>
      intro q hq h
      simp only [sm]
      have h1 := ih (df q (t m)) (sb_tr (sb_df _ _) hq) (fun i hi => by
        rw [df_bit] at hi
        simp at hi
        obtain ⟨j, hj, hb⟩ := h i hi.1
        refine ⟨j, ?_, hb⟩
        by_cases e : j = m
        · subst e; rw [hb] at hi; simp at hi
        · omega)
      have h2 : bc q ≤ bc (df q (t m)) + bc (q &&& t m) := by
        have := bc_df (sb_and_l q (t m))
        have e : df q (q &&& t m) = df q (t m) := by
          apply Nat.eq_of_testBit_eq
          intro i
          rw [df_bit, df_bit, Nat.testBit_and]
          cases q.testBit i <;> cases (t m).testBit i <;> rfl
        rw [e] at this
        omega
      have h3 : bc (q &&& t m) ≤ bc (p &&& t m) := bc_mono (sb_and (sb_tr (sb_and_l _ _) hq) (sb_and_r _ _))
      omega
  exact key k p (sb_rf p) hp
theorem dc_of_dl {n k : Nat} {B : Nat → Nat → Bool} (hm : ∀ j, j < k → mat n (B j)) {h : Nat → Nat} {r : Nat} (hr : r < 2 ^ n) (hh : hp n k B h r) (hd : dl k B h r) : dc k B h r := by
  obtain ⟨t, t1, t2, -⟩ := hd
  intro p hpr
  refine Nat.le_trans (bc_cover (k := k) (t := t) (fun i hi => t2 i (hpr i hi))) (sm_le fun j hj => ?_)
  have hlt : h j ||| t j < 2 ^ n := or_lt (hh j hj).1 (sb_lt (t1 j hj).1 hr)
  have ha : B j (h j ||| (p &&& t j)) = true := (hm j hj).2.1 _ _ hlt (sb_or (sb_or_l _ _) (sb_tr (sb_and_r _ _) (sb_or_r _ _))) (t1 j hj).2
  have h1 := rk_ge (A := B j) (s := h j ||| p) (sb_or (sb_or_l _ _) (sb_tr (sb_and_l p (t j)) (sb_or_r _ _))) ha
  have h2 := bc_dis (s := h j) (t := p &&& t j) (and0.mpr fun i hi => by
    rw [Nat.testBit_and]
    cases q : p.testBit i
    · rfl
    · have := and0.mp (hh j hj).2.2 i hi
      rw [hpr i q] at this; cases this)
  omega
/-- JOINED -/
def jn (A B : Nat → Bool) (s : Nat) : Prop := ∃ p, sb p s ∧ A p = true ∧ B (df s p) = true
theorem jn_iff {n : Nat} {A B : Nat → Bool} (hn : n ≤ 16) (hA : mat n A) (hB : mat n B) {s : Nat} (hs : s < 2 ^ n) : jn A B s ↔ gd (fun p => rk A p + rk B p) s := by
  have hm : ∀ j, j < 2 → mat n ((fun j => if j = 0 then A else B) j) := by
    intro j _
    dsimp only
    by_cases q : j = 0
    · rw [if_pos q]; exact hA
    · rw [if_neg q]; exact hB
  have hh : hp n 2 (fun j => if j = 0 then A else B) (fun _ => 0) s := fun j hj => ⟨Nat.two_pow_pos n, (hm j hj).1, by simp⟩
  have e : ∀ p, sm 2 (fun j => rk ((fun j => if j = 0 then A else B) j) (0 ||| p) - bc 0) = rk A p + rk B p := by
    intro p
    simp [sm, bc_0]
  constructor
  · intro ⟨p, p1, p2, p3⟩
    have := dc_of_dl hm hs hh ⟨fun j => if j = 0 then p else df s p, fun j hj => by
      dsimp only
      by_cases q : j = 0
      · rw [if_pos q, if_pos q, Nat.zero_or]; exact ⟨p1, p2⟩
      · rw [if_neg q, if_neg q, Nat.zero_or]; exact ⟨sb_df s p, p3⟩, fun i hi => by
      cases q : p.testBit i
      · exact ⟨1, by omega, by simp [df_bit, hi, q]⟩
      · exact ⟨0, by omega, by simp [q]⟩, fun i j j' h1 h2 h3 h4 => by
      have a : ∀ x, x < 2 → ((fun j => if j = 0 then p else df s p) x).testBit i = true → (x = 0 ↔ p.testBit i = true) := by
        intro x hx hb
        dsimp only at hb
        by_cases q : x = 0
        · rw [if_pos q] at hb; exact ⟨fun _ => hb, fun _ => q⟩
        · rw [if_neg q, df_bit] at hb
          simp at hb
          exact ⟨fun z => absurd z q, fun z => by rw [hb.2] at z; cases z⟩
      have a1 := a j h1 h3
      have a2 := a j' h2 h4
      by_cases q : j = 0
      · have := a2.mpr (a1.mp q); omega
      · have : ¬ j' = 0 := fun z => q (a1.mpr (a2.mp z))
        omega⟩
    intro p hp
    have h1 := this p hp
    rw [e] at h1
    exact h1
  · intro hg
    obtain ⟨t, t1, t2, t3⟩ := dl_of_dc hn hm s (fun _ => 0) s (Nat.le_refl _) hh hs (fun p hp => by rw [e]; exact hg p hp)
    have a0 := t1 0 (by omega)
    have a1 := t1 1 (by omega)
    simp only [Nat.zero_or] at a0 a1
    refine ⟨t 0, a0.1, a0.2, hB.2.1 _ (t 1) (sb_lt a1.1 hs) (fun i hi => ?_) a1.2⟩
    rw [df_bit] at hi
    simp at hi
    obtain ⟨j, hj, hb⟩ := t2 i hi.1
    by_cases q : j = 0
    · subst q; rw [hi.2] at hb; cases hb
    · have : j = 1 := by omega
      subst this; exact hb
theorem mat_join {n : Nat} {A B C : Nat → Bool} (hn : n ≤ 16) (hA : mat n A) (hB : mat n B) (hC : ∀ s, s < 2 ^ n → (C s = true ↔ jn A B s)) : mat n C := by
  have h1 := rax_rk hn hA
  have h2 := rax_rk hn hB
  refine gd_mat (f := fun p => rk A p + rk B p) hn ⟨by show rk A 0 + rk B 0 = 0; rw [h1.1, h2.1], fun s t ht hs => Nat.add_le_add (h1.2.1 s t ht hs) (h2.2.1 s t ht hs), fun x y hx hy => ?_⟩ (fun s hs => (hC s hs).trans (jn_iff hn hA hB hs))
  have := h1.2.2 x y hx hy
  have := h2.2.2 x y hx hy
  show (rk A (x ||| y) + rk B (x ||| y)) + (rk A (x &&& y) + rk B (x &&& y)) ≤ (rk A x + rk B x) + (rk A y + rk B y)
  omega
