/-! rows: the model's question -/
def flm (a q : Int32) : Int32 := if 0 ≤ (a ^^^ q) then a - a / q * q else if a - a / q * q = 0 then a - a / q * q else a - a / q * q + q
theorem w_fm {a q : Int32} {M : pm_M} (h : ¬ q = 0) {Post : Int32 → Prop} (k : Post (flm a q)) : w_J9_floorMod_7cf53 a q M Post := by
  unfold w_J9_floorMod_7cf53 w_J9_floorMod_7cf53_18
  refine ⟨h, fun x1 e1 => ?_⟩
  rw [e1]
  unfold flm at k
  by_cases c : 0 ≤ (a ^^^ q)
  · rw [if_pos c] at k; exact bt c k
  · rw [if_neg c] at k
    refine bf c ?_
    by_cases d : a - a / q * q = 0
    · rw [if_pos d] at k; exact bt d k
    · rw [if_neg d] at k; exact bf d k
theorem flm_tab : ((List.range 8).all fun p => p == 0 || (List.range 7).all fun x => (List.range 37).all fun y => flm (nI x - nI y) (nI p) == nI ((x + (50 * p - y)) % p)) = true := by decide +kernel
theorem flm_e {p x y : Nat} (hp : 1 ≤ p ∧ p ≤ 7) (hx : x < 7) (hy : y < 37) : flm (nI x - nI y) (nI p) = nI ((x + (50 * p - y)) % p) := by
  have h1 := List.all_eq_true.mp flm_tab p (List.mem_range.mpr (by omega))
  rcases (Bool.or_eq_true _ _).mp h1 with h | h
  · have : p = 0 := eq_of_beq h
    omega
  · have h2 := List.all_eq_true.mp h x (List.mem_range.mpr hx)
    have h3 := List.all_eq_true.mp h2 y (List.mem_range.mpr hy)
    exact eq_of_beq h3
theorem inv_tab : ((List.range 8).all fun p => !(p == 2 || p == 3 || p == 5 || p == 7) || (List.range p).all fun y => y == 0 || (List.range p).any fun v => !(v == 0) && (v * y % p == 1)) = true := by decide +kernel
theorem inv_ex {p y : Nat} (hp : p = 2 ∨ p = 3 ∨ p = 5 ∨ p = 7) (hy : y < p) (y0 : y ≠ 0) : ∃ v, 1 ≤ v ∧ v < p ∧ v * y % p = 1 := by
  have h1 := List.all_eq_true.mp inv_tab p (List.mem_range.mpr (by omega))
  rcases (Bool.or_eq_true _ _).mp h1 with h | h
  · rcases hp with e | e | e | e <;> subst e <;> cases h
  · have h2 := List.all_eq_true.mp h y (List.mem_range.mpr hy)
    rcases (Bool.or_eq_true _ _).mp h2 with h3 | h3
    · exact absurd (eq_of_beq h3) y0
    · obtain ⟨v, v1, v2⟩ := List.any_eq_true.mp h3
      have v3 := (Bool.and_eq_true _ _).mp v2
      refine ⟨v, ?_, List.mem_range.mp v1, eq_of_beq v3.2⟩
      have : ¬ v = 0 := fun e => by subst e; cases v3.1
      omega
def des (s : Nat) : Nat → List Nat
  | 0 => []
  | i + 1 => if s.testBit i = true then i :: des s i else des s i
theorem des_mem {s x : Nat} : ∀ i, (x ∈ des s i ↔ x < i ∧ s.testBit x = true) := by
  intro i
  induction i with
  | zero =>
    constructor
    · intro h; cases h
    · intro h; omega
  | succ i ih =>
    unfold des
    by_cases q : s.testBit i = true
    · rw [if_pos q, List.mem_cons, ih]
      constructor
      · rintro (z | z)
        · subst z; exact ⟨by omega, q⟩
        · exact ⟨by omega, z.2⟩
      · intro z
        by_cases y : x = i
        · exact Or.inl y
        · exact Or.inr ⟨by omega, z.2⟩
    · rw [if_neg q, ih]
      constructor
      · intro z; exact ⟨by omega, z.2⟩
      · intro z
        refine ⟨?_, z.2⟩
        have : x ≠ i := fun y => by subst y; exact q z.2
        omega
theorem des_nodup {s : Nat} : ∀ i, (des s i).Nodup := by
  intro i
  induction i with
  | zero => exact List.nodup_nil
  | succ i ih =>
    unfold des
    by_cases q : s.testBit i = true
    · rw [if_pos q]
      refine List.nodup_cons.mpr ⟨fun z => ?_, ih⟩
      have := ((des_mem i).mp z).1
      omega
    · rw [if_neg q]; exact ih
theorem ech_des {p : Int} {w : Nat} {r E : Nat → Nat → Int} {l : Nat → Nat} {s : Nat} : ∀ i, ech p w r E l (des s i) → ∀ x y, x ∈ des s i → y ∈ des s i → y < x → p ∣ E x (l y) := by
  intro i
  induction i with
  | zero => intro _ x y hx; cases hx
  | succ i ih =>
    intro h x y hx hy hlt
    unfold des at h hx hy
    by_cases q : s.testBit i = true
    · rw [if_pos q] at h hx hy
      obtain ⟨_, hl, hE, h0, hL⟩ := h
      have hyt : y ∈ des s i := by
        rcases List.mem_cons.mp hy with z | z
        · rcases List.mem_cons.mp hx with u | u
          · omega
          · have := ((des_mem i).mp u).1
            omega
        · exact z
      rcases List.mem_cons.mp hx with u | u
      · subst u; exact h0 y hyt
      · exact ih hL x y u hyt hlt
    · rw [if_neg q] at h hx hy
      exact ih h x y hx hy hlt
theorem bcn_mono' {s a b : Nat} (h : a ≤ b) : bcn a s ≤ bcn b s := by
  induction b with
  | zero => rw [show a = 0 by omega]; exact Nat.le_refl _
  | succ b ih =>
    by_cases e : a = b + 1
    · rw [e]; exact Nat.le_refl _
    · have := ih (by omega)
      rw [bcn_s]
      omega
theorem bcn_lt' {s a b : Nat} (h : a < b) (g : s.testBit a = true) : bcn a s < bcn b s := by
  have h1 : bcn (a + 1) s = bcn a s + 1 := by rw [bcn_s, if_pos g]
  have h2 := bcn_mono' (s := s) (show a + 1 ≤ b from h)
  omega
theorem bcn_ex {s m : Nat} : ∀ i, m < bcn i s → ∃ x, x < i ∧ s.testBit x = true ∧ bcn x s = m := by
  intro i
  induction i with
  | zero => intro h; exact absurd h (Nat.not_lt_zero m)
  | succ i ih =>
    intro h
    by_cases q : m < bcn i s
    · obtain ⟨x, x1, x2, x3⟩ := ih q
      exact ⟨x, by omega, x2, x3⟩
    · rw [bcn_s] at h
      by_cases g : s.testBit i = true
      · rw [if_pos g] at h
        exact ⟨i, by omega, g, by omega⟩
      · rw [if_neg g] at h; exact absurd h q
theorem bcn_i (s : Nat) : ∀ i, bcn i s ≤ i := by
  intro i
  induction i with
  | zero => exact Nat.le_refl _
  | succ i ih =>
    rw [bcn_s]
    by_cases g : s.testBit i = true
    · rw [if_pos g]; omega
    · rw [if_neg g]; omega
theorem ix_6 {k c : Nat} : (6 : Int32) * nI k + nI c = nI (6 * k + c) := by
  rw [show (6 : Int32) = nI 6 from rfl, pk_mul, nI_add]
section
variable {M : pm_M} {p w : Nat}
theorem m_lead {k : Nat} {z : Nat → Nat} (hl : lay M) (hw : w ≤ 6) (hk : k < 12) (hz : ∀ c, c < w → mI M 79 (6 * k + c) = nI (z c) ∧ z c < 8) {Post : Int32 → Prop} (k1 : (∀ c, c < w → z c = 0) → Post (nI w)) (k0 : ∀ ld, ld < w → z ld ≠ 0 → (∀ c, c < ld → z c = 0) → Post (nI ld)) : w_X10_lead 62 (nI k) (nI w) M Post := by
  unfold w_X10_lead
  have step : ∀ c k', c < w → (z c = 0 → w_X10_lead_2 Post 62 (nI k) (nI w) M k' (nI (c + 1))) → (z c ≠ 0 → Post (nI c)) → w_X10_lead_2 Post 62 (nI k) (nI w) M (k' + 1) (nI c) := by
    intro c k' hc g1 g0
    obtain ⟨a1, a2⟩ := hz c hc
    simp only [w_X10_lead_2, w_X10_lead_27, ix_6, forall_eq, nI_1]
    refine bf (nI_ge hc (by omega)) ⟨79, lr_62_22 hl, by rw [ln_79 hl]; exact vp_in_nI (by omega) (by decide), ?_⟩
    rw [nI_clamp (by omega), a1, nI_z (by omega)]
    exact ⟨g0, g1⟩
  by_cases q : ∀ c, c < w → z c = 0
  · refine ⟨_, lp (fun k' (_ : Unit) c => w_X10_lead_2 Post 62 (nI k) (nI w) M k' (nI c)) w (fun _ _ => True) ?_ ?_ 0 () (Nat.zero_le _) trivial⟩
    · intro k' c _ hc _ hk'
      exact step c k' hc (fun _ => hk' () trivial) (fun y => absurd (q c hc) y)
    · intro k' _ _
      show w_X10_lead_2 Post 62 (nI k) (nI w) M (k' + 1) (nI w)
      simp only [w_X10_lead_2, w_X10_lead_27]
      exact bt (nI_le (Nat.le_refl _) (by omega)) (k1 q)
  · have ex : ∃ c, c < w ∧ z c ≠ 0 := by
      apply Classical.byContradiction
      intro y
      exact q (fun c hc => Classical.byContradiction (fun x => y ⟨c, hc, x⟩))
    obtain ⟨c0, hc0⟩ := ex
    obtain ⟨ld, ⟨l1, l2⟩, -, l3⟩ := least_ex (T := fun c => c < w ∧ z c ≠ 0) c0 hc0
    refine ⟨_, lp (fun k' (_ : Unit) c => w_X10_lead_2 Post 62 (nI k) (nI w) M k' (nI c)) ld (fun _ _ => True) ?_ ?_ 0 () (Nat.zero_le _) trivial⟩
    · intro k' c _ hc _ hk'
      exact step c k' (by omega) (fun _ => hk' () trivial) (fun y => absurd ⟨by omega, y⟩ (l3 c hc))
    · intro k' _ _
      exact step ld k' l1 (fun y => absurd y l2) (fun _ => k0 ld l1 l2 (fun c hc => Classical.byContradiction (fun y => l3 c hc ⟨by omega, y⟩)))
end
def p79 (a _k : Nat) : Prop := a = 79
theorem lay79 {M N : pm_M} (hl : lay M) (k : kp p79 M N) : lay N := lay_kp hl k (fun a j z _ => by
  have e : a = 79 := z
  rw [e]; rfl)
def ew (N : pm_M) (s x c : Nat) : Nat := (mI N 79 (6 * bcn x s + c)).toNatClampNeg
def Ew (N : pm_M) (s x c : Nat) : Int := (ew N s x c : Int)
def dw (N : pm_M) (s p w : Nat) (l : Nat → Nat) (x : Nat) : Prop := (∀ c, c < w → mI N 79 (6 * bcn x s + c) = nI (ew N s x c) ∧ ew N s x c < p) ∧ l x < w ∧ ew N s x (l x) = 1 ∧ ∀ c, c < l x → ew N s x c = 0
section
variable {M : pm_M} {p w n s : Nat} {R : Nat → Nat → Int}
/-- how it stands before the row i -/
def fr (M N : pm_M) (n s p w : Nat) (R : Nat → Nat → Int) (i : Nat) : Prop := kp p79 M N ∧ nr (p : Int) w R (des s i) ∧ ∃ l : Nat → Nat, ech (p : Int) w R (Ew N s) l (des s i) ∧ ∀ x, x ∈ des s i → dw N s p w l x
theorem m_free {ρ : Nat → Nat → Nat} (hn : n ≤ 12) (hl : lay M) (h0 : mI M 62 0 = nI n) (hp : p = 2 ∨ p = 3 ∨ p = 5 ∨ p = 7) (hpr : pr (p : Int)) (hw : w ≤ 6) (hR : ∀ i, i < n → ∀ c, c < w → mI M 78 (6 * i + c) = nI (ρ i c) ∧ ρ i c < p) (hRR : ∀ i c, R i c = (ρ i c : Int)) (hs : s < 2 ^ n) {Post : Int32 → pm_M → Prop} (k1 : nr (p : Int) w R (bl n s) → ∀ M', kp p79 M M' → Post 1 M') (k0 : ¬ nr (p : Int) w R (bl n s) → ∀ M', kp p79 M M' → Post 0 M') : w_X10_isFree 62 (nI s) (nI p) (nI w) M Post := by
  have hp2 := p2_le hn
  have zz := hl.1
  have pne : ¬ nI p = 0 := nI_ne0 (by omega) (by omega)
  have md : ∀ a : Nat, a < 2 ^ 31 → nI a - nI a / nI p * nI p = nI (a % p) := fun a ha => by
    have le : a / p * p ≤ a := Nat.div_mul_le_self a p
    rw [pk_div ha (by omega) (by omega), pk_mul, nI_subN le]
    congr 1
    have := Nat.div_add_mod a p
    rw [Nat.mul_comm] at this
    omega
  unfold w_X10_isFree
  refine ⟨_, lp (fun k' (N : pm_M) i => w_X10_isFree_6 Post 62 (nI s) (nI p) (nI w) k' (nI (bcn i s)) (nI i) N) n (fun i N => fr M N n s p w R i) ?_ ?_ 0 M (Nat.zero_le _) ⟨kp_rf _ _, fun x _ j hj => (by cases hj), fun _ => 0, trivial, fun x hx => by cases hx⟩⟩
  · intro k' i N hi ⟨kN, hnr, l, hech, hdw⟩ hk'
    show w_X10_isFree_6 Post 62 (nI s) (nI p) (nI w) (k' + 1) (nI (bcn i s)) (nI i) N
    have lN := lay79 hl kN
    have f0 : mI N 62 0 = nI n := by rw [(kN.2.2 62 0 (by omega) (by unfold p79; omega)).1]; exact h0
    have ki := bcn_i s i
    simp only [w_X10_isFree_6, f0, nI_bit (show s < 2 ^ 31 by omega) (show i < 31 by omega)]
    refine bf (nI_ge hi (by omega)) (b0' (fun e => ?_) (fun e => ?_))
    · -- one row more
      have iL : i ∉ des s i := fun z => by have := ((des_mem i).mp z).1; omega
      have nd := des_nodup (s := s) i
      have lmem : ∀ x, x ∈ des s i ↔ x < i ∧ s.testBit x = true := fun x => des_mem i
      have eds : des s (i + 1) = i :: des s i := by
        show (if s.testBit i = true then i :: des s i else des s i) = _
        rw [if_pos e]
      have ebc : bcn (i + 1) s = bcn i s + 1 := by rw [bcn_s, if_pos e]
      have spE := ech_spn trivial _ nd hech
      have leE := ech_lead _ hech
      have zeE := ech_des i hech
      generalize ek : bcn i s = k at *
      have old : ∀ x, x ∈ des s i → bcn x s < k := fun x hx => by
        have := (lmem x).mp hx
        rw [← ek]; exact bcn_lt' this.1 this.2
      -- rows of the others stay
      have kpz : ∀ N', kp (fun a j => a = 79 ∧ 6 * k ≤ j) N N' → kp p79 M N' := fun N' k5 => kp_tr kN (kp_mono k5 (fun a j z => z.1))
      have stay : ∀ N', kp (fun a j => a = 79 ∧ 6 * k ≤ j) N N' → ∀ x, x ∈ des s i → ∀ c, c < 6 → mI N' 79 (6 * bcn x s + c) = mI N 79 (6 * bcn x s + c) := fun N' k5 x hx c hc => by
        have := old x hx
        exact (k5.2.2 79 _ (by have := kN.1; omega) (by omega)).1
      have st78 : ∀ N', kp (fun a j => a = 79 ∧ 6 * k ≤ j) N N' → ∀ j, mI N' 78 j = mI M 78 j := fun N' k5 j => by
        rw [(k5.2.2 78 j (by have := kN.1; omega) (by omega)).1, (kN.2.2 78 j (by omega) (by unfold p79; omega)).1]
      refine ⟨_, lp (fun k2 (N5 : pm_M) c => w_X10_isFree_30 Post (w_X10_isFree_6 Post 62 (nI s) (nI p) (nI w) k') 62 (nI s) (nI p) (nI w) (nI k) (nI i) k2 (nI c) N5) w (fun c N5 => kp (fun a j => a = 79 ∧ 6 * k ≤ j) N N5 ∧ ∀ c', c' < c → mI N5 79 (6 * k + c') = nI (ρ i c')) ?_ ?_ 0 N (Nat.zero_le _) ⟨kp_rf _ _, fun c' hc' => absurd hc' (Nat.not_lt_zero c')⟩⟩
      · intro k2 c N5 hc ⟨k5, d5⟩ hk2
        show w_X10_isFree_30 Post (w_X10_isFree_6 Post 62 (nI s) (nI p) (nI w) k') 62 (nI s) (nI p) (nI w) (nI k) (nI i) (k2 + 1) (nI c) N5
        have l5 := lay79 hl (kpz N5 k5)
        simp only [w_X10_isFree_30, ix_6, forall_eq, nI_1]
        refine bf (nI_ge hc (by omega)) ⟨79, lr_62_22 l5, 78, lr_62_21 l5, by rw [ln_78 l5]; exact vp_in_nI (by omega) (by decide), by rw [ln_79 l5]; exact vp_in_nI (by omega) (by decide), ?_⟩
        rw [nI_clamp (by omega), nI_clamp (by omega), st78 N5 k5, (hR i hi c hc).1]
        refine hk2 _ ⟨kp_sI k5 ⟨rfl, by omega⟩, fun c' hc' => ?_⟩
        rw [mI_sI]
        by_cases q : c' = c
        · subst q; rw [if_pos ⟨rfl, rfl⟩]
        · rw [if_neg (by omega)]; exact d5 c' (by omega)
      · intro k2 N5 ⟨k5, d5⟩
        show w_X10_isFree_30 Post (w_X10_isFree_6 Post 62 (nI s) (nI p) (nI w) k') 62 (nI s) (nI p) (nI w) (nI k) (nI i) (k2 + 1) (nI w) N5
        simp only [w_X10_isFree_30]
        refine bt (nI_le (Nat.le_refl _) (by omega)) ⟨_, lp (fun k3 (N6 : pm_M) m => w_X10_isFree_71 Post (w_X10_isFree_6 Post 62 (nI s) (nI p) (nI w) k') 62 (nI s) (nI p) (nI w) (nI k) (nI i) k3 (nI m) N6) k (fun m N6 => kp (fun a j => a = 79 ∧ 6 * k ≤ j) N N6 ∧ ∃ z : Nat → Nat, (∀ c, c < w → mI N6 79 (6 * k + c) = nI (z c) ∧ z c < p) ∧ spn (p : Int) w R (des s i) (fun c => (z c : Int) - 1 * R i c) ∧ ∀ x, x ∈ des s i → bcn x s < m → (p : Int) ∣ (z (l x) : Int)) ?_ ?_ 0 N5 (Nat.zero_le _) ⟨k5, ρ i, fun c hc => ⟨d5 c hc, (hR i hi c hc).2⟩, spn_0 _ (fun c _ => ⟨0, by rw [hRR]; omega⟩), fun x _ hx => absurd hx (Nat.not_lt_zero _)⟩⟩
        · intro k3 m N6 hm ⟨k6, z, hz, hsp, h0z⟩ hk3
          show w_X10_isFree_71 Post (w_X10_isFree_6 Post 62 (nI s) (nI p) (nI w) k') 62 (nI s) (nI p) (nI w) (nI k) (nI i) (k3 + 1) (nI m) N6
          have l6 := lay79 hl (kpz N6 k6)
          obtain ⟨x, x1, x2, x3⟩ := bcn_ex i (show m < bcn i s by rw [ek]; exact hm)
          have xL : x ∈ des s i := (lmem x).mpr ⟨x1, x2⟩
          obtain ⟨g1, g2, g3, g4⟩ := hdw x xL
          have row : ∀ c, c < w → mI N6 79 (6 * m + c) = nI (ew N s x c) ∧ ew N s x c < p := fun c hc => by
            have := stay N6 k6 x xL c (by omega)
            rw [x3] at this
            rw [this]
            have := g1 c hc
            rw [x3] at this
            exact this
          simp only [w_X10_isFree_71, ix_6, forall_eq]
          refine bf (nI_ge hm (by omega)) (m_lead (z := ew N s x) l6 hw (by omega) (fun c hc => ⟨(row c hc).1, by have := (row c hc).2; omega⟩) (fun all0 => absurd (all0 _ g2) (by rw [g3]; decide)) (fun ld l1 l2 l3 => ?_))
          have ldx : ld = l x := by
            by_cases q : ld < l x
            · exact absurd (g4 ld q) l2
            · by_cases q' : l x < ld
              · have := l3 _ q'
                rw [g3] at this; cases this
              · omega
          rw [ldx, ix_6]
          refine ⟨79, lr_62_22 l6, by rw [ln_79 l6]; exact vp_in_nI (by omega) (by decide), ?_⟩
          rw [nI_clamp (by omega), (hz _ g2).1]
          have zl := (hz _ g2).2
          refine ⟨_, lp (fun k4 (N7 : pm_M) c => w_X10_isFree_105 Post (w_X10_isFree_6 Post 62 (nI s) (nI p) (nI w) k') (w_X10_isFree_71 Post (w_X10_isFree_6 Post 62 (nI s) (nI p) (nI w) k') 62 (nI s) (nI p) (nI w) (nI k) (nI i) k3) 62 (nI s) (nI p) (nI w) (nI k) (nI i) (nI m) (nI (z (l x))) k4 (nI c) N7) w (fun c N7 => kp (fun a j => a = 79 ∧ 6 * k ≤ j) N N7 ∧ (∀ c', c' < c → mI N7 79 (6 * k + c') = nI ((z c' + (50 * p - z (l x) * ew N s x c')) % p)) ∧ ∀ c', c ≤ c' → c' < w → mI N7 79 (6 * k + c') = nI (z c')) ?_ ?_ 0 N6 (Nat.zero_le _) ⟨k6, fun c' hc' => absurd hc' (Nat.not_lt_zero c'), fun c' _ hc' => (hz c' hc').1⟩⟩
          · intro k4 c N7 hc ⟨k7, d1, d2⟩ hk4
            show w_X10_isFree_105 Post (w_X10_isFree_6 Post 62 (nI s) (nI p) (nI w) k') (w_X10_isFree_71 Post (w_X10_isFree_6 Post 62 (nI s) (nI p) (nI w) k') 62 (nI s) (nI p) (nI w) (nI k) (nI i) k3) 62 (nI s) (nI p) (nI w) (nI k) (nI i) (nI m) (nI (z (l x))) (k4 + 1) (nI c) N7
            have l7 := lay79 hl (kpz N7 k7)
            have rowx : mI N7 79 (6 * m + c) = nI (ew N s x c) := by
              have := stay N7 k7 x xL c (by omega)
              rw [x3] at this
              rw [this]
              have := (g1 c hc).1
              rw [x3] at this
              exact this
            have zc := (hz c hc).2
            have ec := (row c hc).2
            have pe : z (l x) * ew N s x c ≤ 6 * 6 := Nat.mul_le_mul (by omega) (by omega)
            have vk : vp_in (nI (6 * k + c)) (mN N7 79) := by rw [ln_79 l7]; exact vp_in_nI (by omega) (by decide)
            simp only [w_X10_isFree_105, ix_6, forall_eq, nI_1]
            refine bf (nI_ge hc (by omega)) ⟨79, lr_62_22 l7, vk, by rw [ln_79 l7]; exact vp_in_nI (by omega) (by decide), ?_⟩
            rw [nI_clamp (by omega), nI_clamp (by omega), d2 c (Nat.le_refl c) hc, rowx, pk_mul]
            refine w_fm pne ⟨vk, ?_⟩
            rw [flm_e (by omega) (by omega) (by omega)]
            refine hk4 _ ⟨kp_sI k7 ⟨rfl, by omega⟩, fun c' hc' => ?_, fun c' h1 h2 => ?_⟩
            · rw [mI_sI]
              by_cases q : c' = c
              · subst q; rw [if_pos ⟨rfl, rfl⟩]
              · rw [if_neg (by omega)]; exact d1 c' (by omega)
            · rw [mI_sI, if_neg (by omega)]; exact d2 c' (by omega) h2
          · intro k4 N7 ⟨k7, d1, d2⟩
            show w_X10_isFree_105 Post (w_X10_isFree_6 Post 62 (nI s) (nI p) (nI w) k') (w_X10_isFree_71 Post (w_X10_isFree_6 Post 62 (nI s) (nI p) (nI w) k') 62 (nI s) (nI p) (nI w) (nI k) (nI i) k3) 62 (nI s) (nI p) (nI w) (nI k) (nI i) (nI m) (nI (z (l x))) (k4 + 1) (nI w) N7
            simp only [w_X10_isFree_105, forall_eq, nI_1]
            have cg : ∀ c, c < w → (p : Int) ∣ (((z c + (50 * p - z (l x) * ew N s x c)) % p : Nat) : Int) - (1 * (z c : Int) + (-(z (l x) : Int)) * (ew N s x c : Int)) := fun c hc => by
              have ec := (row c hc).2
              have pe : z (l x) * ew N s x c ≤ 6 * 6 := Nat.mul_le_mul (by omega) (by omega)
              have q1 := dv_mod (p := p) (a := z c + (50 * p - z (l x) * ew N s x c))
              have q2 : ((z c + (50 * p - z (l x) * ew N s x c) : Nat) : Int) - (1 * (z c : Int) + (-(z (l x) : Int)) * (ew N s x c : Int)) = (p : Int) * 50 := by
                rw [Int.natCast_add, Int.natCast_sub (by omega), Int.natCast_mul, Int.natCast_mul]
                grind
              have := Int.dvd_add q1 ⟨50, q2⟩
              have e : ∀ a b u : Int, a - b + (b - u) = a - u := fun a b u => by omega
              rw [e] at this
              exact this
            refine bt (nI_le (Nat.le_refl _) (by omega)) (hk3 N7 ⟨k7, fun c => (z c + (50 * p - z (l x) * ew N s x c)) % p, fun c hc => ⟨d1 c hc, Nat.mod_lt _ (by omega)⟩, ?_, fun y hy hlt => ?_⟩)
            · have s3 := spn_lin 1 (-(z (l x) : Int)) hsp (spE x xL)
              refine spn_cong s3 (fun c hc => ?_)
              have := Int.dvd_neg.mpr (cg c hc)
              have e : 1 * ((z c : Int) - 1 * R i c) + -(z (l x) : Int) * Ew N s x c - ((((z c + (50 * p - z (l x) * ew N s x c)) % p : Nat) : Int) - 1 * R i c) = -((((z c + (50 * p - z (l x) * ew N s x c)) % p : Nat) : Int) - (1 * (z c : Int) + (-(z (l x) : Int)) * (ew N s x c : Int))) := by
                unfold Ew
                grind
              rw [e]
              exact this
            · have yl := (leE y hy).1
              have c1 := cg (l y) yl
              have c2 : (p : Int) ∣ 1 * (z (l y) : Int) + (-(z (l x) : Int)) * (ew N s x (l y) : Int) := by
                by_cases q : y = x
                · subst q
                  rw [g3]
                  exact ⟨0, by grind⟩
                · have ylt : bcn y s < m := by
                    by_cases u : bcn y s < m
                    · exact u
                    · exfalso
                      have yx : y < x ∨ x < y := by omega
                      have ybit := ((lmem y).mp hy).2
                      rcases yx with u' | u'
                      · have := bcn_lt' u' ybit
                        omega
                      · have := bcn_lt' u' x2
                        omega
                  have yx : y < x := by
                    by_cases u : y < x
                    · exact u
                    · have := bcn_mono' (s := s) (show x ≤ y by omega)
                      omega
                  refine Int.dvd_add (dvd_r (h0z y hy ylt) _) (dvd_r (zeE x y xL hy yx) _)
              have := Int.dvd_add c1 c2
              rw [Int.sub_add_cancel] at this
              exact this
        · intro k3 N6 ⟨k6, z, hz, hsp, h0z⟩
          show w_X10_isFree_71 Post (w_X10_isFree_6 Post 62 (nI s) (nI p) (nI w) k') 62 (nI s) (nI p) (nI w) (nI k) (nI i) (k3 + 1) (nI k) N6
          have l6 := lay79 hl (kpz N6 k6)
          have h0' : ∀ x, x ∈ des s i → (p : Int) ∣ (z (l x) : Int) := fun x hx => h0z x hx (old x hx)
          have one : ¬ (p : Int) ∣ 1 := hpr.1
          have nx := ech_next hpr nd iL hech hnr one hsp h0'
          simp only [w_X10_isFree_71]
          refine bt (nI_le (Nat.le_refl _) (by omega)) (m_lead (z := z) l6 hw (by omega) (fun c hc => ⟨(hz c hc).1, by have := (hz c hc).2; omega⟩) (fun all0 => bt' rfl ?_) (fun ld l1 l2 l3 => bf' (by rw [nI_eq (by omega) (by omega)]; omega) ?_))
          · refine k0 (fun q => ?_) N6 (kpz N6 k6)
            have q2 : nr (p : Int) w R (i :: des s i) := nr_sub hpr _ _ (bl_nodup n s) (List.nodup_cons.mpr ⟨iL, nd⟩) (fun x hx => bl_mem.mpr (by
              rcases List.mem_cons.mp hx with y | y
              · subst y; exact ⟨hi, e⟩
              · have := (lmem x).mp y
                exact ⟨by omega, this.2⟩)) q
            exact nx.mp q2 (fun c hc => by rw [all0 c hc]; exact ⟨0, by simp⟩)
          · have zl := (hz ld l1).2
            have nd' : ¬ (p : Int) ∣ (z ld : Int) := fun y => l2 (dv_0 zl y)
            have hnr2 : nr (p : Int) w R (i :: des s i) := nx.mpr (fun y => nd' (y ld l1))
            obtain ⟨v0, v1, v2, v3⟩ := inv_ex hp zl l2
            obtain ⟨v, ⟨va, vb⟩, vle, vmin⟩ := least_ex (T := fun v => 1 ≤ v ∧ v * z ld % p = 1) v0 ⟨v1, v3⟩
            have pe : ∀ u c, u ≤ v → c < w → u * z c ≤ 6 * 6 := fun u c hu hc => Nat.mul_le_mul (by omega) (by have := (hz c hc).2; omega)
            have stepv : ∀ u k5, u ≤ v → 1 ≤ u → (u * z ld % p = 1 → ∃ n_5 : Nat, w_X10_isFree_221 Post (w_X10_isFree_6 Post 62 (nI s) (nI p) (nI w) k') 62 (nI s) (nI p) (nI w) (nI k) (nI i) (nI u) n_5 (0 : Int32) N6) → (¬ u * z ld % p = 1 → w_X10_isFree_190 Post (w_X10_isFree_6 Post 62 (nI s) (nI p) (nI w) k') 62 (nI s) (nI p) (nI w) (nI k) (nI i) (nI ld) N6 k5 (nI (u + 1))) → w_X10_isFree_190 Post (w_X10_isFree_6 Post 62 (nI s) (nI p) (nI w) k') 62 (nI s) (nI p) (nI w) (nI k) (nI i) (nI ld) N6 (k5 + 1) (nI u) := by
              intro u k5 hu hu1 g1 g0
              have b := pe u ld hu l1
              have mlt := Nat.mod_lt (u * z ld) (show 0 < p by omega)
              simp only [w_X10_isFree_190, ix_6, forall_eq, nI_1]
              refine ⟨79, lr_62_22 l6, by rw [ln_79 l6]; exact vp_in_nI (by omega) (by decide), pne, ?_⟩
              rw [nI_clamp (by omega), (hz ld l1).1, pk_mul, md _ (by omega)]
              have e1 : nI (u * z ld % p) = 1 ↔ u * z ld % p = 1 := nI_eq (b := 1) (by omega) (by decide)
              rw [e1]
              exact ⟨g1, g0⟩
            refine ⟨_, lp (fun k5 (_ : Unit) u => w_X10_isFree_190 Post (w_X10_isFree_6 Post 62 (nI s) (nI p) (nI w) k') 62 (nI s) (nI p) (nI w) (nI k) (nI i) (nI ld) N6 k5 (nI u)) v (fun u _ => 1 ≤ u) ?_ ?_ 1 () va (Nat.le_refl 1)⟩
            · intro k5 u _ hu hu1 hk5
              exact stepv u k5 (by omega) hu1 (fun q => absurd ⟨hu1, q⟩ (vmin u hu)) (fun _ => hk5 () (by omega))
            · intro k5 _ _
              refine stepv v k5 (Nat.le_refl v) va (fun _ => ?_) (fun q => absurd vb q)
              refine ⟨_, lp (fun k6 (N7 : pm_M) c => w_X10_isFree_221 Post (w_X10_isFree_6 Post 62 (nI s) (nI p) (nI w) k') 62 (nI s) (nI p) (nI w) (nI k) (nI i) (nI v) k6 (nI c) N7) w (fun c N7 => kp (fun a j => a = 79 ∧ 6 * k ≤ j) N N7 ∧ (∀ c', c' < c → mI N7 79 (6 * k + c') = nI (v * z c' % p)) ∧ ∀ c', c ≤ c' → c' < w → mI N7 79 (6 * k + c') = nI (z c')) ?_ ?_ 0 N6 (Nat.zero_le _) ⟨k6, fun c' hc' => absurd hc' (Nat.not_lt_zero c'), fun c' _ hc' => (hz c' hc').1⟩⟩
              · intro k6' c N7 hc ⟨k7, d1, d2⟩ hk6
                show w_X10_isFree_221 Post (w_X10_isFree_6 Post 62 (nI s) (nI p) (nI w) k') 62 (nI s) (nI p) (nI w) (nI k) (nI i) (nI v) (k6' + 1) (nI c) N7
                have l7 := lay79 hl (kpz N7 k7)
                have vk : vp_in (nI (6 * k + c)) (mN N7 79) := by rw [ln_79 l7]; exact vp_in_nI (by omega) (by decide)
                have b := pe v c (Nat.le_refl v) hc
                simp only [w_X10_isFree_221, ix_6, forall_eq, nI_1]
                refine bf (nI_ge hc (by omega)) ⟨79, lr_62_22 l7, vk, pne, vk, ?_⟩
                rw [nI_clamp (by omega), d2 c (Nat.le_refl c) hc, pk_mul, md _ (by omega)]
                refine hk6 _ ⟨kp_sI k7 ⟨rfl, by omega⟩, fun c' hc' => ?_, fun c' h1 h2 => ?_⟩
                · rw [mI_sI]
                  by_cases q : c' = c
                  · subst q; rw [if_pos ⟨rfl, rfl⟩]
                  · rw [if_neg (by omega)]; exact d1 c' (by omega)
                · rw [mI_sI, if_neg (by omega)]; exact d2 c' (by omega) h2
              · intro k6' N7 ⟨k7, d1, d2⟩
                show w_X10_isFree_221 Post (w_X10_isFree_6 Post 62 (nI s) (nI p) (nI w) k') 62 (nI s) (nI p) (nI w) (nI k) (nI i) (nI v) (k6' + 1) (nI w) N7
                simp only [w_X10_isFree_221, w_X10_isFree_267, forall_eq, nI_1]
                refine bt (nI_le (Nat.le_refl _) (by omega)) ?_
                have ewi : ∀ c, c < w → ew N7 s i c = v * z c % p := fun c hc => by
                  unfold ew
                  rw [ek, d1 c hc, nI_clamp (by have := Nat.mod_lt (v * z c) (show 0 < p by omega); omega)]
                have ewx : ∀ x, x ∈ des s i → ∀ c, c < w → ew N7 s x c = ew N s x c := fun x hx c hc => by
                  unfold ew
                  rw [stay N7 k7 x hx c (by omega)]
                have nv : ¬ (p : Int) ∣ (v : Int) := fun y => by
                  have := Int.natCast_dvd_natCast.mp y
                  obtain ⟨t, ht⟩ := this
                  rw [ht, Nat.mul_assoc, Nat.mul_mod_right] at vb
                  cases vb
                have cg : ∀ c, c < w → (p : Int) ∣ ((v * z c % p : Nat) : Int) - (v : Int) * (z c : Int) := fun c hc => by
                  have := dv_mod (p := p) (a := v * z c)
                  rw [Int.natCast_mul] at this
                  exact this
                have res : fr M N7 n s p w R (i + 1) := by
                  unfold fr
                  rw [eds]
                  refine ⟨kpz N7 k7, hnr2, fun x => if x = i then ld else l x, ⟨⟨(v : Int), nv, ?_⟩, ?_, ?_, fun x hx => ?_, ?_⟩, fun x hx => ?_⟩
                  · have s4 := spn_lin (v : Int) 0 hsp hsp
                    refine spn_cong s4 (fun c hc => ?_)
                    have := Int.dvd_neg.mpr (cg c hc)
                    have e2 : (v : Int) * ((z c : Int) - 1 * R i c) + 0 * ((z c : Int) - 1 * R i c) - (Ew N7 s i c - (v : Int) * R i c) = -(((v * z c % p : Nat) : Int) - (v : Int) * (z c : Int)) := by
                      unfold Ew
                      rw [ewi c hc]
                      grind
                    rw [e2]
                    exact this
                  · show (if i = i then ld else l i) < w
                    rw [if_pos rfl]; exact l1
                  · show ¬ (p : Int) ∣ Ew N7 s i (if i = i then ld else l i)
                    rw [if_pos rfl]
                    unfold Ew
                    rw [ewi ld l1, vb]
                    exact hpr.1
                  · show (p : Int) ∣ Ew N7 s i (if x = i then ld else l x)
                    have xi : x ≠ i := fun y => by subst y; exact iL hx
                    have xl := (leE x hx).1
                    rw [if_neg xi]
                    unfold Ew
                    rw [ewi _ xl]
                    have := Int.dvd_add (cg _ xl) (dvd_r (h0' x hx) (v : Int))
                    rw [Int.sub_add_cancel] at this
                    exact this
                  · refine ech_congr _ (fun x hx => ⟨fun c hc => ?_, ?_⟩) hech
                    · unfold Ew
                      rw [ewx x hx c hc]
                    · show (if x = i then ld else l x) = l x
                      exact if_neg (fun y => by subst y; exact iL hx)
                  · rcases List.mem_cons.mp hx with y | y
                    · subst y
                      refine ⟨fun c hc => ?_, ?_, ?_, fun c hc => ?_⟩
                      · rw [ewi c hc, ek]
                        exact ⟨d1 c hc, Nat.mod_lt _ (by omega)⟩
                      · show (if x = x then ld else l x) < w
                        rw [if_pos rfl]; exact l1
                      · show ew N7 s x (if x = x then ld else l x) = 1
                        rw [if_pos rfl, ewi ld l1]; exact vb
                      · have hc' : c < ld := by
                          have : c < (if x = x then ld else l x) := hc
                          rw [if_pos rfl] at this; exact this
                        rw [ewi c (by omega), l3 c hc', Nat.mul_zero, Nat.zero_mod]
                    · have xi : x ≠ i := fun u => by subst u; exact iL y
                      obtain ⟨g1, g2, g3, g4⟩ := hdw x y
                      refine ⟨fun c hc => ?_, ?_, ?_, fun c hc => ?_⟩
                      · rw [ewx x y c hc, stay N7 k7 x y c (by omega)]; exact g1 c hc
                      · show (if x = i then ld else l x) < w
                        rw [if_neg xi]; exact g2
                      · show ew N7 s x (if x = i then ld else l x) = 1
                        rw [if_neg xi, ewx x y _ g2]; exact g3
                      · have hc' : c < l x := by
                          have : c < (if x = i then ld else l x) := hc
                          rw [if_neg xi] at this; exact this
                        rw [ewx x y c (by omega)]; exact g4 c hc'
                have := hk' N7 res
                rw [ebc] at this
                exact this
    · simp only [w_X10_isFree_267, forall_eq, nI_1]
      have eds : des s (i + 1) = des s i := by
        show (if s.testBit i = true then i :: des s i else des s i) = _
        rw [if_neg (by rw [e]; decide)]
      have ebc : bcn (i + 1) s = bcn i s := by rw [bcn_s, if_neg (by rw [e]; decide)]; rfl
      have := hk' N (by unfold fr; rw [eds]; exact ⟨kN, hnr, l, hech, hdw⟩)
      rw [ebc] at this
      exact this
  · intro k' N ⟨kN, hnr, l, hech, hdw⟩
    show w_X10_isFree_6 Post 62 (nI s) (nI p) (nI w) (k' + 1) (nI (bcn n s)) (nI n) N
    have f0 : mI N 62 0 = nI n := by rw [(kN.2.2 62 0 (by omega) (by unfold p79; omega)).1]; exact h0
    simp only [w_X10_isFree_6, f0]
    refine bt (nI_le (Nat.le_refl _) (by omega)) (k1 (nr_same (des_nodup n) (bl_nodup n s) (fun x => ?_) hnr) N kN)
    rw [des_mem, bl_mem]
end
