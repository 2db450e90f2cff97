/-! NESTED (and PARTS, EVEN): at most so many of each of some sets; PLACES -/
def un (S : Nat → Nat) (Q : Nat → Bool) : Nat → Nat
  | 0 => 0
  | k + 1 => un S Q k ||| (if Q k = true then S k else 0)
theorem un_bit (S : Nat → Nat) (Q : Nat → Bool) (k i : Nat) : (un S Q k).testBit i = true ↔ ∃ j, j < k ∧ Q j = true ∧ (S j).testBit i = true := by
  induction k with
  | zero => simp [un]
  | succ k ih =>
    simp only [un]
    rw [Nat.testBit_or]
    simp only [Bool.or_eq_true]
    rw [ih]
    constructor
    · rintro (⟨j, h1, h2, h3⟩ | h)
      · exact ⟨j, by omega, h2, h3⟩
      · by_cases q : Q k = true
        · rw [if_pos q] at h; exact ⟨k, by omega, q, h⟩
        · rw [if_neg q] at h; simp at h
    · rintro ⟨j, h1, h2, h3⟩
      by_cases q : j = k
      · subst q; right; rw [if_pos h2]; exact h3
      · left; exact ⟨j, by omega, h2, h3⟩
def lam (m : Nat) (S : Nat → Nat) : Prop := ∀ i j, i < m → j < m → S i &&& S j = 0 ∨ sb (S i) (S j) ∨ sb (S j) (S i)
theorem lam_un {m : Nat} {S : Nat → Nat} (hl : lam m S) {a b : Nat} : ∀ k, k ≤ m → ∀ Q : Nat → Bool, (∀ j, j < k → Q j = true → bc (b &&& S j) ≤ bc (a &&& S j)) → bc (b &&& un S Q k) ≤ bc (a &&& un S Q k) := by
  intro k
  induction k with
  | zero => intro _ Q _; simp [un]
  | succ k ih =>
    intro hk Q h
    by_cases hq : Q k = true
    · by_cases hA : ∃ j, j < k ∧ Q j = true ∧ sb (S k) (S j)
      · have e : un S Q (k + 1) = un S Q k := by
          simp only [un]
          rw [if_pos hq]
          apply Nat.eq_of_testBit_eq
          intro i
          rw [Nat.testBit_or]
          cases q : (S k).testBit i
          · simp
          · obtain ⟨j, h1, h2, h3⟩ := hA
            rw [(un_bit S Q k i).mpr ⟨j, h1, h2, h3 i q⟩]; rfl
        rw [e]
        exact ih (by omega) Q (fun j hj => h j (by omega))
      · have h1 := ih (by omega) (fun j => Q j && decide (S j &&& S k = 0)) (fun j hj hqj => by
          simp at hqj
          exact h j (by omega) hqj.1)
        have h2 := h k (by omega) hq
        have e : un S Q (k + 1) = S k ||| un S (fun j => Q j && decide (S j &&& S k = 0)) k := by
          simp only [un]
          rw [if_pos hq]
          apply Nat.eq_of_testBit_eq
          intro i
          rw [Nat.testBit_or, Nat.testBit_or]
          cases q : (S k).testBit i
          · simp
            cases q2 : (un S Q k).testBit i
            · cases q3 : (un S (fun j => Q j && decide (S j &&& S k = 0)) k).testBit i
              · rfl
              · obtain ⟨j, a1, a2, a3⟩ := (un_bit S _ k i).mp q3
                simp at a2
                rw [(un_bit S Q k i).mpr ⟨j, a1, a2.1, a3⟩] at q2; cases q2
            · obtain ⟨j, a1, a2, a3⟩ := (un_bit S Q k i).mp q2
              symm
              refine (un_bit S _ k i).mpr ⟨j, a1, ?_, a3⟩
              simp
              refine ⟨a2, ?_⟩
              rcases hl j k (by omega) (by omega) with z | z | z
              · exact z
              · rw [z i a3] at q; cases q
              · exact absurd ⟨j, a1, a2, z⟩ hA
          · simp
        have hd : S k &&& un S (fun j => Q j && decide (S j &&& S k = 0)) k = 0 := by
          refine and0.mpr fun i hi => ?_
          cases q3 : (un S (fun j => Q j && decide (S j &&& S k = 0)) k).testBit i
          · rfl
          · obtain ⟨j, a1, a2, a3⟩ := (un_bit S _ k i).mp q3
            simp at a2
            rw [and0.mp a2.2 i a3] at hi; cases hi
        have split : ∀ x, bc (x &&& (S k ||| un S (fun j => Q j && decide (S j &&& S k = 0)) k)) = bc (x &&& S k) + bc (x &&& un S (fun j => Q j && decide (S j &&& S k = 0)) k) := by
          intro x
          rw [Nat.and_or_distrib_left]
          refine bc_dis (and0.mpr fun i hi => ?_)
          rw [Nat.testBit_and] at hi ⊢
          simp at hi
          rw [and0.mp hd i hi.2]; simp
        rw [e, split, split]
        omega
    · have e : un S Q (k + 1) = un S Q k := by
        simp only [un]
        rw [if_neg hq, Nat.or_zero]
      rw [e]
      exact ih (by omega) Q (fun j hj => h j (by omega))
theorem mat_nest {n m : Nat} {S c : Nat → Nat} {A : Nat → Bool} (hn : n ≤ 16) (hl : lam m S) (hA : ∀ s, s < 2 ^ n → (A s = true ↔ ∀ k, k < m → bc (s &&& S k) ≤ c k)) : mat n A := by
  refine ⟨(hA 0 (Nat.two_pow_pos n)).mpr fun k _ => by rw [Nat.zero_and, bc_0]; exact Nat.zero_le _, fun s t ht hs h => (hA s (sb_lt hs ht)).mpr fun k hk => Nat.le_trans (bc_mono (sb_and (sb_tr (sb_and_l _ _) hs) (sb_and_r _ _))) ((hA t ht).mp h k hk), fun s t hs ht h1 h2 hlt => ?_⟩
  apply Classical.byContradiction
  intro hno
  have h1' := (hA s hs).mp h1
  have h2' := (hA t ht).mp h2
  have hu := lam_un hl (a := s) (b := t) m (Nat.le_refl _) (fun k => decide (bc (t &&& S k) ≤ bc (s &&& S k))) (fun j _ hq => by simpa using hq)
  have hout : sb (df t (un S (fun k => decide (bc (t &&& S k) ≤ bc (s &&& S k))) m)) (df s (un S (fun k => decide (bc (t &&& S k) ≤ bc (s &&& S k))) m)) := by
    intro i hi
    rw [df_bit] at hi ⊢
    simp at hi
    rw [hi.2]
    simp
    cases q : s.testBit i
    · exfalso
      have hin := bit_lt ht hi.1
      have hna : ¬ A (s ||| b1 i) = true := fun z => hno ⟨i, hi.1, q, z⟩
      have hna2 : ¬ ∀ k, k < m → bc ((s ||| b1 i) &&& S k) ≤ c k := fun z => hna ((hA _ (or_lt hs (b1_lt hin))).mpr z)
      obtain ⟨k, hk⟩ := Classical.not_forall.mp hna2
      have hk1 : k < m := Classical.byContradiction fun z => hk (fun w => absurd w z)
      have hk2 : c k < bc ((s ||| b1 i) &&& S k) := Nat.not_le.mp fun z => hk (fun _ => z)
      have g1 := h1' k hk1
      have g2 := h2' k hk1
      cases qk : (S k).testBit i
      · have e : (s ||| b1 i) &&& S k = s &&& S k := by
          apply Nat.eq_of_testBit_eq
          intro j
          rw [Nat.testBit_and, Nat.testBit_and, Nat.testBit_or, b1_bit]
          by_cases z : i = j
          · subst z; rw [qk]; simp
          · simp [z]
        rw [e] at hk2
        omega
      · have e : (s ||| b1 i) &&& S k = (s &&& S k) ||| b1 i := by
          apply Nat.eq_of_testBit_eq
          intro j
          rw [Nat.testBit_and, Nat.testBit_or, Nat.testBit_or, Nat.testBit_and, b1_bit]
          by_cases z : i = j
          · subst z; rw [qk]; simp
          · simp [z]
        have hb := bc_add (s := s &&& S k) (i := i) (by omega) (by rw [Nat.testBit_and, q]; rfl)
        rw [e, hb] at hk2
        have := (un_bit S (fun k => decide (bc (t &&& S k) ≤ bc (s &&& S k))) m i).mpr ⟨k, hk1, by simp; omega, qk⟩
        rw [hi.2] at this
        cases this
    · rfl
  have hb := bc_mono hout
  have sp : ∀ x v, bc (x &&& v) + bc (df x v) = bc x := by
    intro x v
    have := bc_df (sb_and_l x v)
    have e : df x (x &&& v) = df x v := by
      apply Nat.eq_of_testBit_eq
      intro j
      rw [df_bit, df_bit, Nat.testBit_and]
      cases x.testBit j <;> cases v.testBit j <;> rfl
    rw [e] at this
    omega
  have a1 := sp s (un S (fun k => decide (bc (t &&& S k) ≤ bc (s &&& S k))) m)
  have a2 := sp t (un S (fun k => decide (bc (t &&& S k) ≤ bc (s &&& S k))) m)
  omega
/-- all that the things of p reach -/
def nb (f : Nat → Nat) (p : Nat) : Nat → Nat := un f (fun i => p.testBit i)
theorem nb_rax {n m : Nat} (f : Nat → Nat) : rax n (fun p => bc (nb f p m)) := by
  have mono : ∀ s t, sb s t → sb (nb f s m) (nb f t m) := by
    intro s t h i hi
    obtain ⟨j, h1, h2, h3⟩ := (un_bit f _ m i).mp hi
    exact (un_bit f _ m i).mpr ⟨j, h1, h j h2, h3⟩
  refine ⟨?_, fun s t _ h => bc_mono (mono s t h), fun x y _ _ => ?_⟩
  · have : nb f 0 m = 0 := by
      apply Nat.eq_of_testBit_eq
      intro i
      cases q : (nb f 0 m).testBit i
      · simp
      · obtain ⟨j, h1, h2, h3⟩ := (un_bit f _ m i).mp q
        simp at h2
    show bc (nb f 0 m) = 0
    rw [this, bc_0]
  · show bc (nb f (x ||| y) m) + bc (nb f (x &&& y) m) ≤ bc (nb f x m) + bc (nb f y m)
    have hoa := bc_orand (nb f x m) (nb f y m)
    have e1 : nb f (x ||| y) m = nb f x m ||| nb f y m := by
      apply sb_as
      · intro i hi
        obtain ⟨j, h1, h2, h3⟩ := (un_bit f _ m i).mp hi
        rw [Nat.testBit_or] at h2
        simp at h2
        rcases h2 with z | z
        · exact sb_or_l _ _ i ((un_bit f _ m i).mpr ⟨j, h1, z, h3⟩)
        · exact sb_or_r _ _ i ((un_bit f _ m i).mpr ⟨j, h1, z, h3⟩)
      · exact sb_or (mono _ _ (sb_or_l _ _)) (mono _ _ (sb_or_r _ _))
    rw [e1]
    have := bc_mono (sb_and (mono _ _ (sb_and_l x y)) (mono _ _ (sb_and_r x y)))
    omega
theorem mat_places {n m : Nat} {f : Nat → Nat} {A : Nat → Bool} (hn : n ≤ 16) (hA : ∀ s, s < 2 ^ n → (A s = true ↔ ∀ p, sb p s → bc p ≤ bc (nb f p m))) : mat n A := gd_mat hn (nb_rax f) hA
