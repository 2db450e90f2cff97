/-! rows: one more row, by the class -/
def asc (s : Nat) : Nat → List Nat
  | 0 => []
  | k + 1 => if s.testBit (11 - k) = true then (11 - k) :: asc s k else asc s k
theorem asc_mem {s i : Nat} : ∀ k, k ≤ 12 → (i ∈ asc s k ↔ 12 - k ≤ i ∧ i < 12 ∧ s.testBit i = true) := by
  intro k
  induction k with
  | zero =>
    intro _
    constructor
    · intro h; cases h
    · intro h; omega
  | succ k ih =>
    intro hk
    unfold asc
    by_cases q : s.testBit (11 - k) = true
    · rw [if_pos q, List.mem_cons, ih (by omega)]
      constructor
      · rintro (z | z)
        · subst z; exact ⟨by omega, by omega, q⟩
        · exact ⟨by omega, z.2.1, z.2.2⟩
      · intro z
        by_cases y : i = 11 - k
        · exact Or.inl y
        · exact Or.inr ⟨by omega, z.2.1, z.2.2⟩
    · rw [if_neg q, ih (by omega)]
      constructor
      · intro z; exact ⟨by omega, z.2.1, z.2.2⟩
      · intro z
        refine ⟨?_, z.2.1, z.2.2⟩
        have : i ≠ 11 - k := fun y => by subst y; exact q z.2.2
        omega
theorem asc_nodup {s : Nat} : ∀ k, k ≤ 12 → (asc s k).Nodup := by
  intro k
  induction k with
  | zero => intro _; exact List.nodup_nil
  | succ k ih =>
    intro hk
    unfold asc
    by_cases q : s.testBit (11 - k) = true
    · rw [if_pos q]
      refine List.nodup_cons.mpr ⟨fun z => ?_, ih (by omega)⟩
      have := ((asc_mem k (by omega)).mp z).1
      omega
    · rw [if_neg q]; exact ih (by omega)
theorem asc_congr {s t : Nat} : ∀ k, k ≤ 12 → (∀ i, 12 - k ≤ i → s.testBit i = t.testBit i) → asc s k = asc t k := by
  intro k
  induction k with
  | zero => intro _ _; rfl
  | succ k ih =>
    intro hk h
    unfold asc
    rw [ih (by omega) (fun i hi => h i (by omega)), h (11 - k) (by omega)]
section
variable {p : Int} {w : Nat} {r : Nat → Nat → Int} {E : Nat → Nat → Int} {l : Nat → Nat}
theorem ech_spn (hw : True) : ∀ (L : List Nat), L.Nodup → ech p w r E l L → ∀ j, j ∈ L → spn p w r L (E j) := by
  intro L
  induction L with
  | nil => intro _ _ j hj; cases hj
  | cons i L ih =>
    intro hN ⟨⟨a, ha, hs⟩, hl, hE, h0, hL⟩ j hj
    have hN' := List.nodup_cons.mp hN
    by_cases e : j = i
    · subst e
      have q1 := spn_cons hs hN'.1
      have q2 := spn_mem (p := p) (w := w) (r := r) hN List.mem_cons_self
      refine spn_cong (spn_lin 1 a q1 q2) (fun c _ => ⟨0, by grind⟩)
    · have : j ∈ L := (List.mem_cons.mp hj).resolve_left e
      exact spn_cons (ih hN'.2 hL j this) hN'.1
theorem ech_lead : ∀ (L : List Nat), ech p w r E l L → ∀ j, j ∈ L → l j < w ∧ ¬ p ∣ E j (l j) := by
  intro L
  induction L with
  | nil => intro _ j hj; cases hj
  | cons i L ih =>
    intro ⟨_, hl, hE, h0, hL⟩ j hj
    by_cases e : j = i
    · subst e; exact ⟨hl, hE⟩
    · exact ih hL j ((List.mem_cons.mp hj).resolve_left e)
theorem ech_asc {s : Nat} : ∀ k, k ≤ 12 → ech p w r E l (asc s k) → ∀ i j, i ∈ asc s k → j ∈ asc s k → i < j → p ∣ E i (l j) := by
  intro k
  induction k with
  | zero => intro _ _ i j hi; cases hi
  | succ k ih =>
    intro hk h i j hi hj hij
    unfold asc at h hi hj
    by_cases q : s.testBit (11 - k) = true
    · rw [if_pos q] at h hi hj
      obtain ⟨_, hl, hE, h0, hL⟩ := h
      have hjt : j ∈ asc s k := by
        rcases List.mem_cons.mp hj with z | z
        · rcases List.mem_cons.mp hi with y | y
          · omega
          · have := ((asc_mem k (by omega)).mp y).1
            omega
        · exact z
      rcases List.mem_cons.mp hi with y | y
      · subst y; exact h0 j hjt
      · exact ih (by omega) hL i j y hjt hij
    · rw [if_neg q] at h hi hj
      exact ih (by omega) h i j hi hj hij
theorem ech_congr {E' : Nat → Nat → Int} {l' : Nat → Nat} : ∀ (L : List Nat), (∀ j, j ∈ L → (∀ c, c < w → E' j c = E j c) ∧ l' j = l j) → ech p w r E l L → ech p w r E' l' L := by
  intro L
  induction L with
  | nil => intro _ _; trivial
  | cons i L ih =>
    intro h ⟨⟨a, ha, hs⟩, hl, hE, h0, hL⟩
    obtain ⟨e1, e2⟩ := h i List.mem_cons_self
    have hL' := ih (fun j hj => h j (List.mem_cons_of_mem _ hj)) hL
    refine ⟨⟨a, ha, spn_cong hs (fun c hc => ⟨0, by rw [e1 c hc]; omega⟩)⟩, by rw [e2]; exact hl, by rw [e2, e1 _ hl]; exact hE, fun j hj => ?_, hL'⟩
    rw [(h j (List.mem_cons_of_mem _ hj)).2, e1 _ (ech_lead L hL j hj).1]
    exact h0 j hj
end
section
variable {M : pm_M} {p w : Nat}
theorem c_mod {a : Nat} (hp : 1 ≤ p ∧ p ≤ 7) (e3 : mI M 14 3 = nI p) (ha : a < 2 ^ 31) {Post : Int32 → Prop} (k : Post (nI (a % p))) : w_X8_modulo 14 (nI a) M Post := by
  unfold w_X8_modulo w_X8_modulo_17
  rw [e3]
  refine bf (nI_nle (by omega) (by omega)) ⟨nI_ne0 (by omega) (by omega), ?_⟩
  have le : a / p * p ≤ a := Nat.div_mul_le_self a p
  rw [pk_div ha (by omega) (by omega), pk_mul, nI_subN le]
  have : a - a / p * p = a % p := by
    have := Nat.div_add_mod a p
    rw [Nat.mul_comm] at this
    omega
  rw [this]
  exact k
theorem c_clear {v i ld : Nat} {z e : Nat → Nat} (hl : lay M) (hp : 1 ≤ p ∧ p ≤ 7) (hw : w ≤ 6) (e3 : mI M 14 3 = nI p) (e4 : mI M 14 4 = nI w) (hv : v < 12) (hi : i < 12) (hvi : v ≠ i) (hz : ∀ c, c < w → mI M (29 + v) c = nI (z c) ∧ z c < p) (he : ∀ c, c < w → mI M (29 + i) c = nI (e c) ∧ e c < p) (hld : ld < w) {Post : pm_M → Prop} (kk : ∀ N, kp (fun a _ => a = 29 + v) M N → (∀ c, c < w → mI N (29 + v) c = nI ((e ld * z c + (p - z ld) * e c) % p)) → Post N) : w_X8_clearLead 14 (29 + v) (29 + i) (nI ld) M Post := by
  have zz := hl.1
  have bnd2 : ∀ c, c < w → e ld * z c + (p - z ld) * e c ≤ 100 := fun c hc => by
    have a1 := (he ld hld).2
    have a2 := (hz c hc).2
    have a3 := (he c hc).2
    have b1 : e ld * z c ≤ 7 * 7 := Nat.mul_le_mul (by omega) (by omega)
    have b2 : (p - z ld) * e c ≤ 7 * 7 := Nat.mul_le_mul (by omega) (by omega)
    omega
  have sfix : ∀ N, kp (fun a _ => a = 29 + v) M N → lay N := fun N k => lay_kp hl k (fun a k z _ => scr_sr (r := 0) (ft_scr ⟨by omega, by omega⟩))
  unfold w_X8_clearLead
  rw [e4, nI_clamp (by omega), e3]
  refine bf (nI_pos (by omega)) (bt (nI_lt hld (by omega)) ⟨by rw [ln_vd hl hi]; exact vp_in_nI (by omega) (by decide), fun x4 ex4 => ⟨by rw [ln_vd hl hv]; exact vp_in_nI (by omega) (by decide), fun x7 ex7 => ?_⟩⟩)
  rw [(he ld hld).1] at ex4
  rw [(hz ld hld).1, nI_subN (by have := (hz ld hld).2; omega)] at ex7
  rw [ex4, ex7]
  refine ⟨_, lp (fun k' (N : pm_M) c => w_X8_clearLead_31 Post 14 (29 + v) (29 + i) (nI (e ld)) (nI (p - z ld)) k' (nI c) N) w (fun c N => kp (fun a _ => a = 29 + v) M N ∧ (∀ c', c' < c → mI N (29 + v) c' = nI ((e ld * z c' + (p - z ld) * e c') % p)) ∧ ∀ c', c ≤ c' → c' < w → mI N (29 + v) c' = nI (z c')) ?_ ?_ 0 M (Nat.zero_le _) ⟨kp_rf _ _, fun c' hc' => absurd hc' (Nat.not_lt_zero c'), fun c' _ hc' => (hz c' hc').1⟩⟩
  · intro k' c N hc ⟨kN, d1, d2⟩ hk'
    show w_X8_clearLead_31 Post 14 (29 + v) (29 + i) (nI (e ld)) (nI (p - z ld)) (k' + 1) (nI c) N
    have lN := sfix N kN
    have f3 : mI N 14 3 = nI p := by rw [(kN.2.2 14 3 (by omega) (by omega)).1]; exact e3
    have f4 : mI N 14 4 = nI w := by rw [(kN.2.2 14 4 (by omega) (by omega)).1]; exact e4
    have fe : mI N (29 + i) c = nI (e c) := by rw [(kN.2.2 (29 + i) c (by omega) (by omega)).1]; exact (he c hc).1
    have vv : vp_in (nI c) (mN N (29 + v)) := by rw [ln_vd lN hv]; exact vp_in_nI (by omega) (by decide)
    have bb := bnd2 c hc
    simp only [w_X8_clearLead_31, f4, forall_eq, nI_1]
    refine bf (nI_ge hc (by omega)) ⟨vv, by rw [ln_vd lN hi]; exact vp_in_nI (by omega) (by decide), ?_⟩
    rw [nI_clamp (by omega), d2 c (Nat.le_refl c) hc, fe, pk_mul, pk_mul, nI_add]
    refine c_mod hp f3 (by omega) ⟨vv, ?_⟩
    refine hk' _ ⟨kp_sI kN rfl, fun c' hc' => ?_, fun c' h1 h2 => ?_⟩
    · rw [mI_sI]
      by_cases q : c' = c
      · subst q; rw [if_pos ⟨rfl, rfl⟩]
      · rw [if_neg (by omega)]; exact d1 c' (by omega)
    · rw [mI_sI, if_neg (by omega)]; exact d2 c' (by omega) h2
  · intro k' N ⟨kN, d1, d2⟩
    show w_X8_clearLead_31 Post 14 (29 + v) (29 + i) (nI (e ld)) (nI (p - z ld)) (k' + 1) (nI w) N
    have f4 : mI N 14 4 = nI w := by rw [(kN.2.2 14 4 (by omega) (by omega)).1]; exact e4
    simp only [w_X8_clearLead_31, f4]
    exact bt (nI_le (Nat.le_refl _) (by omega)) (kk N kN d1)
theorem c_fnz {v : Nat} {z : Nat → Nat} (hl : lay M) (hw : w ≤ 6) (e4 : mI M 14 4 = nI w) (hv : v < 12) (hz : ∀ c, c < w → mI M (29 + v) c = nI (z c) ∧ z c < 8) {Post : Int32 → Prop} (k1 : (∀ c, c < w → z c = 0) → Post (-1)) (k0 : ∀ ld, ld < w → z ld ≠ 0 → Post (nI ld)) : w_X8_firstNotZero 14 (29 + v) M Post := by
  unfold w_X8_firstNotZero
  have step : ∀ c k', c < w → (z c = 0 → w_X8_firstNotZero_2 Post 14 (29 + v) M k' (nI (c + 1))) → (z c ≠ 0 → Post (nI c)) → w_X8_firstNotZero_2 Post 14 (29 + v) M (k' + 1) (nI c) := by
    intro c k' hc g1 g0
    obtain ⟨a1, a2⟩ := hz c hc
    simp only [w_X8_firstNotZero_2, e4, forall_eq, nI_1]
    refine bf (nI_ge hc (by omega)) ⟨by rw [ln_vd hl hv]; exact vp_in_nI (by omega) (by decide), ?_⟩
    rw [nI_clamp (by omega), a1, nI_z (by omega)]
    exact ⟨g1, g0⟩
  by_cases q : ∀ c, c < w → z c = 0
  · refine ⟨_, lp (fun k' (_ : Unit) c => w_X8_firstNotZero_2 Post 14 (29 + v) M k' (nI c)) w (fun _ _ => True) ?_ ?_ 0 () (Nat.zero_le _) trivial⟩
    · intro k' c _ hc _ hk'
      exact step c k' hc (fun _ => hk' () trivial) (fun y => absurd (q c hc) y)
    · intro k' _ _
      show w_X8_firstNotZero_2 Post 14 (29 + v) M (k' + 1) (nI w)
      simp only [w_X8_firstNotZero_2, e4]
      exact bt (nI_le (Nat.le_refl _) (by omega)) (k1 q)
  · have ex : ∃ c, c < w ∧ z c ≠ 0 := by
      apply Classical.byContradiction
      intro y
      exact q (fun c hc => Classical.byContradiction (fun x => y ⟨c, hc, x⟩))
    obtain ⟨c0, hc0⟩ := ex
    obtain ⟨ld, ⟨l1, l2⟩, -, l3⟩ := least_ex (T := fun c => c < w ∧ z c ≠ 0) c0 hc0
    refine ⟨_, lp (fun k' (_ : Unit) c => w_X8_firstNotZero_2 Post 14 (29 + v) M k' (nI c)) ld (fun _ _ => True) ?_ ?_ 0 () (Nat.zero_le _) trivial⟩
    · intro k' c _ hc _ hk'
      exact step c k' (by omega) (fun _ => hk' () trivial) (fun y => absurd ⟨by omega, y⟩ (l3 c hc))
    · intro k' _ _
      exact step ld k' l1 (fun y => absurd y l2) (fun _ => k0 ld l1 l2)
end
theorem dv_mod {p a : Nat} : (p : Int) ∣ ((a % p : Nat) : Int) - (a : Int) := by
  refine ⟨-((a / p : Nat) : Int), ?_⟩
  have := Nat.div_add_mod a p
  have h : (a : Int) = (p : Int) * ((a / p : Nat) : Int) + ((a % p : Nat) : Int) := by
    rw [← Int.natCast_mul, ← Int.natCast_add, this]
  rw [h, Int.mul_neg]
  omega
theorem dv_0 {p a : Nat} (ha : a < p) (h : (p : Int) ∣ (a : Int)) : a = 0 := by
  have := Int.natCast_dvd_natCast.mp h
  exact Nat.eq_zero_of_dvd_of_lt this ha
