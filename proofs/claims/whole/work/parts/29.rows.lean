/-! ROWS: the law, and rows made simpler -/
def bl (n s : Nat) : List Nat := (List.range n).filter (fun i => s.testBit i)
theorem bl_mem {n s i : Nat} : i ∈ bl n s ↔ i < n ∧ s.testBit i = true := by simp [bl]
theorem bl_nodup (n s : Nat) : (bl n s).Nodup := List.nodup_range.filter _
theorem bl_len (n s : Nat) : (bl n s).length = bcn n s := by
  induction n with
  | zero => rfl
  | succ n ih =>
    unfold bl at ih ⊢
    rw [List.range_succ, List.filter_append, List.length_append, ih]
    simp only [bcn]
    by_cases h : s.testBit n = true
    · simp [h]
    · simp [h]
theorem ls_same : ∀ (L L' : List Nat), L.Nodup → L'.Nodup → (∀ j, j ∈ L ↔ j ∈ L') → ∀ f : Nat → Int, ls L f = ls L' f := by
  intro L
  induction L with
  | nil =>
    intro L' _ _ h f
    cases L' with
    | nil => rfl
    | cons a L' => exact absurd ((h a).mpr List.mem_cons_self) (by simp)
  | cons a L ih =>
    intro L' h1 h2 h f
    have ha : a ∈ L' := (h a).mp List.mem_cons_self
    rw [ls_erase ha]
    simp only [ls]
    have h1' := List.nodup_cons.mp h1
    rw [ih (L'.erase a) h1'.2 (h2.erase a) (fun j => ?_) f]
    constructor
    · intro hj
      have : j ≠ a := fun q => by subst q; exact h1'.1 hj
      exact (List.mem_erase_of_ne this).mpr ((h j).mp (List.mem_cons_of_mem _ hj))
    · intro hj
      have hne : j ≠ a := fun q => by subst q; exact h2.not_mem_erase hj
      exact (List.mem_cons.mp ((h j).mpr (List.mem_of_mem_erase hj))).resolve_left hne
section RW
variable {p : Int} {w n : Nat} {r : Nat → Nat → Int}
theorem nr_same {L L' : List Nat} (h1 : L.Nodup) (h2 : L'.Nodup) (h : ∀ j, j ∈ L ↔ j ∈ L') (hn : nr p w r L) : nr p w r L' := by
  intro x hx j hj
  exact hn x (fun c hc => by rw [ls_same L L' h1 h2 h]; exact hx c hc) j ((h j).mpr hj)
theorem nr_sub (hp : pr p) : ∀ (L L' : List Nat), L.Nodup → L'.Nodup → (∀ j, j ∈ L' → j ∈ L) → nr p w r L → nr p w r L' := by
  intro L
  induction L with
  | nil =>
    intro L' _ _ h _
    cases L' with
    | nil => intro x _ j hj; cases hj
    | cons a L' => exact absurd (h a List.mem_cons_self) (by simp)
  | cons a L ih =>
    intro L' h1 h2 h hn
    have h1' := List.nodup_cons.mp h1
    have hc := (nr_cons hp h1'.1).mp hn
    by_cases ha : a ∈ L'
    · have hsub : nr p w r (L'.erase a) := ih _ h1'.2 (h2.erase a) (fun j hj => (List.mem_cons.mp (h j (List.mem_of_mem_erase hj))).resolve_left (fun q => by subst q; exact h2.not_mem_erase hj)) hc.1
      have hna : a ∉ L'.erase a := h2.not_mem_erase
      refine nr_same (L := a :: L'.erase a) (List.nodup_cons.mpr ⟨hna, h2.erase a⟩) h2 (fun j => ?_) ((nr_cons hp hna).mpr ⟨hsub, fun hs => hc.2 ?_⟩)
      · constructor
        · intro hj
          rcases List.mem_cons.mp hj with z | z
          · subst z; exact ha
          · exact List.mem_of_mem_erase z
        · intro hj
          by_cases q : j = a
          · subst q; exact List.mem_cons_self
          · exact List.mem_cons_of_mem _ ((List.mem_erase_of_ne q).mpr hj)
      · -- a sum over fewer is a sum over more
        obtain ⟨x, hx⟩ := hs
        have hE : ∀ j, j ∈ L'.erase a → j ∈ L := fun j hj => (List.mem_cons.mp (h j (List.mem_of_mem_erase hj))).resolve_left (fun q => by subst q; exact h2.not_mem_erase hj)
        refine ⟨fun j => if j ∈ L'.erase a then x j else 0, fun c hc' => ?_⟩
        have e : ls L (fun j => (if j ∈ L'.erase a then x j else 0) * r j c) = ls (L'.erase a) (fun j => x j * r j c) := by
          have e1 : ∀ M : List Nat, ls M (fun j => (if j ∈ L'.erase a then x j else 0) * r j c) = ls (M.filter (fun j => decide (j ∈ L'.erase a))) (fun j => x j * r j c) := by
            intro M
            induction M with
            | nil => rfl
            | cons b M ihM =>
              simp only [ls]
              by_cases q : b ∈ L'.erase a
              · rw [List.filter_cons_of_pos (by simp [q])]
                simp only [ls]
                rw [ihM, if_pos q]
              · rw [List.filter_cons_of_neg (by simp [q]), ihM, if_neg q]
                simp
          rw [e1]
          refine ls_same _ _ (h1'.2.filter _) (h2.erase a) (fun j => ?_) _
          simp only [List.mem_filter, decide_eq_true_eq]
          exact ⟨fun q => q.2, fun q => ⟨hE j q, q⟩⟩
        rw [e]
        exact hx c hc'
    · exact ih _ h1'.2 h2 (fun j hj => (List.mem_cons.mp (h j hj)).resolve_left (fun q => by subst q; exact ha hj)) hc.1
theorem mat_rows {A : Nat → Bool} (hp : pr p) (hn : n ≤ 16) (hA : ∀ s, s < 2 ^ n → (A s = true ↔ nr p w r (bl n s))) : mat n A := by
  refine ⟨(hA 0 (Nat.two_pow_pos n)).mpr (fun x _ j hj => by have := (bl_mem.mp hj).2; simp at this), fun s t ht hs h => (hA s (sb_lt hs ht)).mpr (nr_sub hp _ _ (bl_nodup n t) (bl_nodup n s) (fun j hj => bl_mem.mpr ⟨(bl_mem.mp hj).1, hs j (bl_mem.mp hj).2⟩) ((hA t ht).mp h)), fun s t hs ht h1 h2 hlt => ?_⟩
  apply Classical.byContradiction
  intro hno
  have h1' := (hA s hs).mp h1
  have h2' := (hA t ht).mp h2
  refine nr_steinitz hp (I := bl n s) (J := bl n t) (bl_nodup n t) (by rw [bl_len, bl_len, bcn_n hn hs, bcn_n hn ht]; exact hlt) (fun j hj => ?_) h2'
  obtain ⟨hjn, hjt⟩ := bl_mem.mp hj
  cases q : s.testBit j
  · apply Classical.byContradiction
    intro hsp
    have hj0 : j ∉ bl n s := fun z => by have := (bl_mem.mp z).2; rw [q] at this; cases this
    refine hno ⟨j, hjt, q, (hA _ (or_lt hs (b1_lt hjn))).mpr (nr_same (L := j :: bl n s) (List.nodup_cons.mpr ⟨hj0, bl_nodup n s⟩) (bl_nodup _ _) (fun i => ?_) ((nr_cons hp hj0).mpr ⟨h1', hsp⟩))⟩
    rw [List.mem_cons, bl_mem, bl_mem, Nat.testBit_or, b1_bit]
    constructor
    · rintro (z | z)
      · subst z; exact ⟨hjn, by simp⟩
      · exact ⟨z.1, by rw [z.2]; rfl⟩
    · intro ⟨z1, z2⟩
      simp at z2
      rcases z2 with z | z
      · exact Or.inr ⟨z1, z⟩
      · exact Or.inl z.symm
  · exact spn_mem (bl_nodup n s) (bl_mem.mpr ⟨hjn, q⟩)
/-- rows made simpler, the newest first: each a multiple of its own plus a sum of the older ones, with a leading place where the newer ones have 0 -/
def ech (p : Int) (w : Nat) (r E : Nat → Nat → Int) (l : Nat → Nat) : List Nat → Prop
  | [] => True
  | i :: L => (∃ a, ¬ p ∣ a ∧ spn p w r L (fun c => E i c - a * r i c)) ∧ l i < w ∧ ¬ p ∣ E i (l i) ∧ (∀ j, j ∈ L → p ∣ E i (l j)) ∧ ech p w r E l L
theorem spn_un {L : List Nat} (hp : pr p) {a : Int} {z y : Nat → Int} (ha : ¬ p ∣ a) (h : spn p w r L (fun c => z c - a * y c)) (hz : spn p w r L z) : spn p w r L y := by
  obtain ⟨b, hb⟩ := hp.2 a ha
  have h1 := spn_lin (-b) b h hz
  refine spn_cong h1 (fun c _ => ?_)
  have h2 := dvd_l hb (y c)
  have e : -b * (z c - a * y c) + b * z c - y c = (a * b - 1) * y c := by grind
  rw [e]
  exact h2
theorem ech_zero (hp : pr p) {E : Nat → Nat → Int} {l : Nat → Nat} : ∀ (L : List Nat), L.Nodup → ech p w r E l L → ∀ z : Nat → Int, spn p w r L z → (∀ j, j ∈ L → p ∣ z (l j)) → ∀ c, c < w → p ∣ z c := by
  intro L
  induction L with
  | nil =>
    intro _ _ z ⟨x, hx⟩ _ c hc
    have := hx c hc
    simpa [ls] using this
  | cons i L ih =>
    intro hN ⟨⟨a, ha, hs⟩, hl, hE, h0, hL⟩ z ⟨x, hx⟩ hz
    have hN' := List.nodup_cons.mp hN
    obtain ⟨b, hb⟩ := hp.2 a ha
    have h1 : spn p w r L (fun c => z c - x i * b * E i c) := by
      have q1 : spn p w r L (fun c => z c - x i * r i c) := ⟨x, fun c hc => by
        have := hx c hc
        simp only [ls] at this
        have e : z c - x i * r i c - ls L (fun j => x j * r j c) = z c - (x i * r i c + ls L (fun j => x j * r j c)) := by omega
        rw [e]
        exact this⟩
      have q2 := spn_lin 1 (-(x i * b)) q1 hs
      refine spn_cong q2 (fun c _ => ?_)
      have h2 := dvd_l hb (x i * r i c)
      have e : 1 * (z c - x i * r i c) + -(x i * b) * (E i c - a * r i c) - (z c - x i * b * E i c) = (a * b - 1) * (x i * r i c) := by grind
      rw [e]
      exact h2
    have h2 := ih hN'.2 hL _ h1 (fun j hj => Int.dvd_sub (hz j (List.mem_cons_of_mem _ hj)) (dvd_r (h0 j hj) _))
    have h3 : p ∣ x i * b * E i (l i) := by
      have := Int.dvd_sub (hz i List.mem_cons_self) (h2 (l i) hl)
      have e : z (l i) - (z (l i) - x i * b * E i (l i)) = x i * b * E i (l i) := by omega
      rw [e] at this
      exact this
    have h4 : p ∣ x i * b := by
      rw [Int.mul_comm] at h3
      exact pr_mul hp h3 hE
    intro c hc
    have := Int.dvd_add (h2 c hc) (dvd_l h4 (E i c))
    have e : z c - x i * b * E i c + x i * b * E i c = z c := by omega
    rw [e] at this
    exact this
/-- one row more -/
theorem ech_next (hp : pr p) {E : Nat → Nat → Int} {l : Nat → Nat} {L : List Nat} {i : Nat} (hN : L.Nodup) (hi : i ∉ L) (he : ech p w r E l L) (hn : nr p w r L) {z : Nat → Int} {a : Int} (ha : ¬ p ∣ a) (hs : spn p w r L (fun c => z c - a * r i c)) (h0 : ∀ j, j ∈ L → p ∣ z (l j)) : nr p w r (i :: L) ↔ ¬ ∀ c, c < w → p ∣ z c := by
  rw [nr_cons hp hi]
  constructor
  · intro ⟨_, h2⟩ hz
    exact h2 (spn_un hp ha hs (spn_0 L hz))
  · intro hz
    refine ⟨hn, fun hsp => hz ?_⟩
    have h1 : spn p w r L z := by
      have q := spn_lin 1 a hs hsp
      exact spn_cong q (fun c _ => ⟨0, by grind⟩)
    exact ech_zero hp L hN he z h1 h0
end RW
theorem pr_2 : pr 2 := ⟨by decide, fun a ha => ⟨1, by omega⟩⟩
theorem pr_3 : pr 3 := ⟨by decide, fun a ha => by
  have : a % 3 = 1 ∨ a % 3 = 2 := by omega
  rcases this with h | h
  · exact ⟨1, by omega⟩
  · exact ⟨2, by omega⟩⟩
theorem pr_5 : pr 5 := ⟨by decide, fun a ha => by
  have : a % 5 = 1 ∨ a % 5 = 2 ∨ a % 5 = 3 ∨ a % 5 = 4 := by omega
  rcases this with h | h | h | h
  · exact ⟨1, by omega⟩
  · exact ⟨3, by omega⟩
  · exact ⟨2, by omega⟩
  · exact ⟨4, by omega⟩⟩
theorem pr_7 : pr 7 := ⟨by decide, fun a ha => by
  have : a % 7 = 1 ∨ a % 7 = 2 ∨ a % 7 = 3 ∨ a % 7 = 4 ∨ a % 7 = 5 ∨ a % 7 = 6 := by omega
  rcases this with h | h | h | h | h | h
  · exact ⟨1, by omega⟩
  · exact ⟨4, by omega⟩
  · exact ⟨5, by omega⟩
  · exact ⟨2, by omega⟩
  · exact ⟨3, by omega⟩
  · exact ⟨6, by omega⟩⟩
