/-! ROWS: numbers modulo a prime -/
def ls : List Nat → (Nat → Int) → Int
  | [], _ => 0
  | j :: L, f => f j + ls L f
theorem ls_add (L : List Nat) (f g : Nat → Int) : ls L (fun j => f j + g j) = ls L f + ls L g := by
  induction L with
  | nil => rfl
  | cons a L ih => simp only [ls]; omega
theorem ls_mul (L : List Nat) (a : Int) (f : Nat → Int) : ls L (fun j => a * f j) = a * ls L f := by
  induction L with
  | nil => simp [ls]
  | cons b L ih => simp only [ls]; rw [ih, Int.mul_add]
theorem ls_congr {L : List Nat} {f g : Nat → Int} (h : ∀ j, j ∈ L → f j = g j) : ls L f = ls L g := by
  induction L with
  | nil => rfl
  | cons b L ih => simp only [ls]; rw [h b List.mem_cons_self, ih (fun j hj => h j (List.mem_cons_of_mem _ hj))]
theorem ls_dvd {p : Int} {L : List Nat} {f : Nat → Int} (h : ∀ j, j ∈ L → p ∣ f j) : p ∣ ls L f := by
  induction L with
  | nil => exact Int.dvd_zero p
  | cons b L ih => simp only [ls]; exact Int.dvd_add (h b List.mem_cons_self) (ih fun j hj => h j (List.mem_cons_of_mem _ hj))
theorem ls_swap (L K : List Nat) (f : Nat → Nat → Int) : ls L (fun j => ls K (fun i => f j i)) = ls K (fun i => ls L (fun j => f j i)) := by
  induction L with
  | nil =>
    simp only [ls]
    induction K with
    | nil => rfl
    | cons k K ih => simp only [ls]; omega
  | cons a L ih => simp only [ls]; rw [ih, ls_add]
theorem ls_erase {L : List Nat} {j : Nat} (h : j ∈ L) (f : Nat → Int) : ls L f = f j + ls (L.erase j) f := by
  induction L with
  | nil => cases h
  | cons b L ih =>
    by_cases e : b = j
    · subst e; simp [ls]
    · rw [List.erase_cons_tail (by simp [e])]
      simp only [ls]
      rw [ih ((List.mem_cons.mp h).resolve_left (fun q => e q.symm))]
      omega
theorem dvd_l {p a : Int} (h : p ∣ a) (b : Int) : p ∣ a * b := by
  obtain ⟨c, hc⟩ := h
  exact ⟨c * b, by rw [hc, Int.mul_assoc]⟩
theorem dvd_r {p b : Int} (h : p ∣ b) (a : Int) : p ∣ a * b := by rw [Int.mul_comm]; exact dvd_l h a
/-- a prime, as far as it is wanted -/
def pr (p : Int) : Prop := ¬ p ∣ 1 ∧ ∀ a : Int, ¬ p ∣ a → ∃ b : Int, p ∣ a * b - 1
theorem pr_mul {p a b : Int} (hp : pr p) (h : p ∣ a * b) (ha : ¬ p ∣ a) : p ∣ b := by
  obtain ⟨c, hc⟩ := hp.2 a ha
  have h1 : p ∣ (a * c - 1) * b := dvd_l hc b
  have h2 : p ∣ (a * b) * c := dvd_l h c
  have h3 := Int.dvd_sub h2 h1
  have e : a * b * c - (a * c - 1) * b = b := by grind
  rw [e] at h3
  exact h3
theorem ker {p : Int} (hp : pr p) : ∀ (K L : List Nat), L.Nodup → K.length < L.length → ∀ A : Nat → Nat → Int, ∃ x : Nat → Int, (∃ j, j ∈ L ∧ ¬ p ∣ x j) ∧ ∀ i, i ∈ K → p ∣ ls L (fun j => x j * A j i) := by
  intro K
  induction K with
  | nil =>
    intro L _ hl A
    cases L with
    | nil => simp at hl
    | cons a L => exact ⟨fun _ => 1, ⟨a, List.mem_cons_self, hp.1⟩, fun i hi => by cases hi⟩
  | cons k K ih =>
    intro L hL hl A
    by_cases hall : ∀ j, j ∈ L → p ∣ A j k
    · obtain ⟨x, h1, h2⟩ := ih L hL (by simp at hl; omega) A
      refine ⟨x, h1, fun i hi => ?_⟩
      rcases List.mem_cons.mp hi with z | z
      · subst z
        exact ls_dvd fun j hj => dvd_r (hall j hj) (x j)
      · exact h2 i z
    · obtain ⟨j0, hj0⟩ := Classical.not_forall.mp hall
      have hjL : j0 ∈ L := Classical.byContradiction fun z => hj0 (fun w => absurd w z)
      have hjn : ¬ p ∣ A j0 k := fun z => hj0 (fun _ => z)
      obtain ⟨β, hβ⟩ := hp.2 _ hjn
      have hlen : (L.erase j0).length = L.length - 1 := List.length_erase_of_mem hjL
      obtain ⟨x, ⟨j1, a1, a2⟩, h2⟩ := ih (L.erase j0) (hL.erase j0) (by simp at hl; omega) (fun j i => A j i - A j k * β * A j0 i)
      have hne : ∀ j, j ∈ L.erase j0 → j ≠ j0 := fun j hj q => by subst q; exact hL.not_mem_erase hj
      refine ⟨va_up x j0 (-(β * ls (L.erase j0) (fun j => x j * A j k))), ⟨j1, List.mem_of_mem_erase a1, by rw [up_n _ _ (hne j1 a1)]; exact a2⟩, fun i hi => ?_⟩
      have e1 : ls (L.erase j0) (fun j => va_up x j0 (-(β * ls (L.erase j0) (fun j => x j * A j k))) j * A j i) = ls (L.erase j0) (fun j => x j * A j i) := ls_congr fun j hj => by rw [up_n _ _ (hne j hj)]
      rw [ls_erase hjL, up_s, e1]
      rcases List.mem_cons.mp hi with z | z
      · subst z
        have h3 : p ∣ (A j0 i * β - 1) * ls (L.erase j0) (fun j => x j * A j i) := dvd_l hβ _
        have e2 : -(β * ls (L.erase j0) (fun j => x j * A j i)) * A j0 i + ls (L.erase j0) (fun j => x j * A j i) = -((A j0 i * β - 1) * ls (L.erase j0) (fun j => x j * A j i)) := by grind
        rw [e2]
        exact Int.dvd_neg.mpr h3
      · have h3 := h2 i z
        have e2 : ls (L.erase j0) (fun j => x j * (A j i - A j k * β * A j0 i)) = ls (L.erase j0) (fun j => x j * A j i) + -(β * A j0 i) * ls (L.erase j0) (fun j => x j * A j k) := by
          rw [← ls_mul, ← ls_add]
          exact ls_congr fun j _ => by grind
        rw [e2] at h3
        have e3 : -(β * ls (L.erase j0) (fun j => x j * A j k)) * A j0 i + ls (L.erase j0) (fun j => x j * A j i) = ls (L.erase j0) (fun j => x j * A j i) + -(β * A j0 i) * ls (L.erase j0) (fun j => x j * A j k) := by grind
        rw [e3]
        exact h3
section LN
variable {p : Int} {w : Nat} {r : Nat → Nat → Int}
/-- z is a sum of multiples -/
def spn (p : Int) (w : Nat) (r : Nat → Nat → Int) (L : List Nat) (z : Nat → Int) : Prop := ∃ x : Nat → Int, ∀ c, c < w → p ∣ z c - ls L (fun j => x j * r j c)
/-- no row a sum of multiples of the others -/
def nr (p : Int) (w : Nat) (r : Nat → Nat → Int) (L : List Nat) : Prop := ∀ x : Nat → Int, (∀ c, c < w → p ∣ ls L (fun j => x j * r j c)) → ∀ j, j ∈ L → p ∣ x j
theorem spn_0 (L : List Nat) {z : Nat → Int} (h : ∀ c, c < w → p ∣ z c) : spn p w r L z := ⟨fun _ => 0, fun c hc => by
  have : ls L (fun j => 0 * r j c) = 0 := by rw [ls_mul]; simp
  rw [this, Int.sub_zero]
  exact h c hc⟩
theorem spn_mem {L : List Nat} (hL : L.Nodup) {j : Nat} (h : j ∈ L) : spn p w r L (r j) := ⟨va_up (fun _ => 0) j 1, fun c _ => by
  rw [ls_erase h, up_s]
  have : ls (L.erase j) (fun i => va_up (fun _ => 0) j 1 i * r i c) = ls (L.erase j) (fun _ => 0) := ls_congr fun i hi => by
    rw [up_n _ _ (fun q => by subst q; exact hL.not_mem_erase hi)]; simp
  rw [this]
  have z : ls (L.erase j) (fun _ => 0) = 0 := by
    have := ls_mul (L.erase j) 0 (fun _ => 0)
    simpa using this
  rw [z]
  simp⟩
theorem spn_lin {L : List Nat} {y z : Nat → Int} (a b : Int) (hy : spn p w r L y) (hz : spn p w r L z) : spn p w r L (fun c => a * y c + b * z c) := by
  obtain ⟨x, hx⟩ := hy
  obtain ⟨x', hx'⟩ := hz
  refine ⟨fun j => a * x j + b * x' j, fun c hc => ?_⟩
  have e : ls L (fun j => (a * x j + b * x' j) * r j c) = a * ls L (fun j => x j * r j c) + b * ls L (fun j => x' j * r j c) := by
    rw [← ls_mul, ← ls_mul, ← ls_add]
    exact ls_congr fun j _ => by grind
  rw [e]
  have h1 := Int.dvd_add (dvd_r (hx c hc) a) (dvd_r (hx' c hc) b)
  have e2 : a * y c + b * z c - (a * ls L (fun j => x j * r j c) + b * ls L (fun j => x' j * r j c)) = a * (y c - ls L (fun j => x j * r j c)) + b * (z c - ls L (fun j => x' j * r j c)) := by grind
  rw [e2]
  exact h1
theorem spn_cong {L : List Nat} {y z : Nat → Int} (hy : spn p w r L y) (h : ∀ c, c < w → p ∣ y c - z c) : spn p w r L z := by
  obtain ⟨x, hx⟩ := hy
  refine ⟨x, fun c hc => ?_⟩
  have := Int.dvd_sub (hx c hc) (h c hc)
  have e : y c - ls L (fun j => x j * r j c) - (y c - z c) = z c - ls L (fun j => x j * r j c) := by omega
  rw [e] at this
  exact this
theorem spn_cons {L : List Nat} {i : Nat} {z : Nat → Int} (h : spn p w r L z) (hi : i ∉ L) : spn p w r (i :: L) z := by
  obtain ⟨x, hx⟩ := h
  refine ⟨va_up x i 0, fun c hc => ?_⟩
  simp only [ls]
  have : ls L (fun j => va_up x i 0 j * r j c) = ls L (fun j => x j * r j c) := ls_congr fun j hj => by rw [up_n _ _ (fun q => by subst q; exact hi hj)]
  rw [this, up_s]
  simpa using hx c hc
/-- a row more: free if the others are and it is no sum of theirs -/
theorem nr_cons (hp : pr p) {L : List Nat} {i : Nat} (hi : i ∉ L) : nr p w r (i :: L) ↔ nr p w r L ∧ ¬ spn p w r L (r i) := by
  constructor
  · intro h
    refine ⟨fun x hx j hj => ?_, fun ⟨x, hx⟩ => ?_⟩
    · have := h (va_up x i 0) (fun c hc => by
        simp only [ls]
        have e : ls L (fun j => va_up x i 0 j * r j c) = ls L (fun j => x j * r j c) := ls_congr fun j hj => by rw [up_n _ _ (fun q => by subst q; exact hi hj)]
        rw [e, up_s]
        simpa using hx c hc) j (List.mem_cons_of_mem _ hj)
      rw [up_n _ _ (fun q => by subst q; exact hi hj)] at this
      exact this
    · have := h (va_up (fun j => -x j) i 1) (fun c hc => by
        simp only [ls]
        have e : ls L (fun j => va_up (fun j => -x j) i 1 j * r j c) = -1 * ls L (fun j => x j * r j c) := by
          rw [← ls_mul]
          exact ls_congr fun j hj => by rw [up_n _ _ (fun q => by subst q; exact hi hj)]; grind
        rw [e, up_s]
        have e2 : 1 * r i c + -1 * ls L (fun j => x j * r j c) = r i c - ls L (fun j => x j * r j c) := by grind
        rw [e2]
        exact hx c hc) i List.mem_cons_self
      rw [up_s] at this
      exact hp.1 this
  · intro ⟨h1, h2⟩ x hx
    have hxi : p ∣ x i := by
      apply Classical.byContradiction
      intro hne
      obtain ⟨b, hb⟩ := hp.2 _ hne
      refine h2 ⟨fun j => -(b * x j), fun c hc => ?_⟩
      have h3 := hx c hc
      simp only [ls] at h3
      have e : ls L (fun j => -(b * x j) * r j c) = -b * ls L (fun j => x j * r j c) := by
        rw [← ls_mul]
        exact ls_congr fun j _ => by grind
      rw [e]
      have h4 := Int.dvd_sub (dvd_r h3 b) (dvd_l hb (r i c))
      have e2 : b * (x i * r i c + ls L (fun j => x j * r j c)) - (x i * b - 1) * r i c = r i c - -b * ls L (fun j => x j * r j c) := by grind
      rw [e2] at h4
      exact h4
    intro j hj
    rcases List.mem_cons.mp hj with z | z
    · subst z; exact hxi
    · refine h1 x (fun c hc => ?_) j z
      have h3 := hx c hc
      simp only [ls] at h3
      have h4 := Int.dvd_sub h3 (dvd_l hxi (r i c))
      have e2 : x i * r i c + ls L (fun j => x j * r j c) - x i * r i c = ls L (fun j => x j * r j c) := by omega
      rw [e2] at h4
      exact h4
/-- more rows than others that give them all: not free -/
theorem nr_steinitz (hp : pr p) {I J : List Nat} (hJ : J.Nodup) (hl : I.length < J.length) (h : ∀ j, j ∈ J → spn p w r I (r j)) : ¬ nr p w r J := by
  intro hn
  have hB : ∃ B : Nat → Nat → Int, ∀ j, j ∈ J → ∀ c, c < w → p ∣ r j c - ls I (fun i => B j i * r i c) := by
    have h1 : ∀ j, ∃ y : Nat → Int, j ∈ J → ∀ c, c < w → p ∣ r j c - ls I (fun i => y i * r i c) := fun j => by
      by_cases q : j ∈ J
      · obtain ⟨y, hy⟩ := h j q
        exact ⟨y, fun _ => hy⟩
      · exact ⟨fun _ => 0, fun z => absurd z q⟩
    exact Classical.axiomOfChoice h1
  obtain ⟨B, hB⟩ := hB
  obtain ⟨x, ⟨j1, a1, a2⟩, h2⟩ := ker hp I J hJ hl B
  refine a2 (hn x (fun c hc => ?_) j1 a1)
  have h3 : p ∣ ls J (fun j => x j * (r j c - ls I (fun i => B j i * r i c))) := ls_dvd fun j hj => dvd_r (hB j hj c hc) (x j)
  have h4 : p ∣ ls I (fun i => ls J (fun j => x j * B j i) * r i c) := ls_dvd fun i hi => dvd_l (h2 i hi) (r i c)
  have e : ls J (fun j => x j * r j c) = ls J (fun j => x j * (r j c - ls I (fun i => B j i * r i c))) + ls I (fun i => ls J (fun j => x j * B j i) * r i c) := by
    have e1 : ls I (fun i => ls J (fun j => x j * B j i) * r i c) = ls J (fun j => x j * ls I (fun i => B j i * r i c)) := by
      have : ∀ i, ls J (fun j => x j * B j i) * r i c = ls J (fun j => x j * (B j i * r i c)) := by
        intro i
        rw [Int.mul_comm, ← ls_mul]
        exact ls_congr fun j _ => by grind
      rw [ls_congr (fun i _ => this i), ← ls_swap]
      exact ls_congr fun j _ => ls_mul I (x j) _
    rw [e1, ← ls_add]
    exact ls_congr fun j _ => by grind
  rw [e]
  exact Int.dvd_add h3 h4
end LN
