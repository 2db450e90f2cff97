/-! rows: the class's question -/
def em (M : pm_M) (i c : Nat) : Nat := (mI M (29 + i) c).toNatClampNeg
def Em (M : pm_M) (i c : Nat) : Int := (em M i c : Int)
def lm (M : pm_M) (i : Nat) : Nat := (mI M 41 i).toNatClampNeg
def dvl (M : pm_M) (p w i : Nat) : Prop := (∀ c, c < w → mI M (29 + i) c = nI (em M i c) ∧ em M i c < p) ∧ mI M 41 i = nI (lm M i) ∧ lm M i < w
def Jv (p w n : Nat) (B : Nat → Bool) (R : Nat → Nat → Int) (s : Nat) (M : pm_M) : Prop := s ≤ 2 ^ n → ∀ j, (s - 1).testBit j = true → B (df (s - 1) (2 ^ j - 1)) = true → ech (p : Int) w R (Em M) (lm M) (asc (s - 1) (12 - j)) ∧ ∀ i, i ∈ asc (s - 1) (12 - j) → dvl M p w i
theorem em_e {M M' : pm_M} {i c : Nat} (h : mI M' (29 + i) c = mI M (29 + i) c) : em M' i c = em M i c := by unfold em; rw [h]
theorem lm_e {M M' : pm_M} {i : Nat} (h : mI M' 41 i = mI M 41 i) : lm M' i = lm M i := by unfold lm; rw [h]
theorem dvl_e {M M' : pm_M} {p w i : Nat} (h1 : ∀ c, mI M' (29 + i) c = mI M (29 + i) c) (h2 : mI M' 41 i = mI M 41 i) (h : dvl M p w i) : dvl M' p w i := by
  obtain ⟨a1, a2, a3⟩ := h
  refine ⟨fun c hc => ?_, ?_, ?_⟩
  · rw [h1, em_e (h1 c)]; exact a1 c hc
  · rw [h2, lm_e h2]; exact a2
  · rw [lm_e h2]; exact a3
theorem pred_bit {s v : Nat} (hb : s.testBit v = true) (hlo : ∀ j, j < v → s.testBit j = false) : ∀ j, v < j → (s - 1).testBit j = s.testBit j := by
  have e : s % 2 ^ (v + 1) = 2 ^ v := by
    apply Nat.eq_of_testBit_eq
    intro i
    rw [Nat.testBit_mod_two_pow, Nat.testBit_two_pow]
    by_cases q : i < v
    · rw [hlo i q, decide_eq_false (show ¬ v = i by omega), Bool.and_false]
    · by_cases z : i = v
      · subst z; rw [hb]; simp
      · rw [decide_eq_false (show ¬ i < v + 1 by omega), decide_eq_false (show ¬ v = i by omega), Bool.false_and]
  intro j hj
  have d1 : (s - 1) / 2 ^ (v + 1) = s / 2 ^ (v + 1) := by
    have h1 := Nat.div_add_mod s (2 ^ (v + 1))
    have h2 := Nat.two_pow_pos v
    have h3 : 2 ^ v < 2 ^ (v + 1) := Nat.pow_lt_pow_right (by decide) (by omega)
    rw [e] at h1
    have : s - 1 = 2 ^ (v + 1) * (s / 2 ^ (v + 1)) + (2 ^ v - 1) := by omega
    have d0 : (2 ^ v - 1) / 2 ^ (v + 1) = 0 := Nat.div_eq_of_lt (by omega)
    rw [this, Nat.mul_add_div (Nat.two_pow_pos _), d0, Nat.add_zero]
  have sh : ∀ x : Nat, x.testBit j = (x / 2 ^ (v + 1)).testBit (j - (v + 1)) := fun x => by
    rw [← Nat.shiftRight_eq_div_pow, Nat.testBit_shiftRight, show v + 1 + (j - (v + 1)) = j by omega]
  rw [sh, sh s, d1]
theorem asc_skip {s : Nat} : ∀ k' k, k ≤ k' → k' ≤ 12 → (∀ i, 12 - k' ≤ i → i < 12 - k → s.testBit i = false) → asc s k' = asc s k := by
  intro k'
  induction k' with
  | zero => intro k hk _ _; rw [show k = 0 by omega]
  | succ k' ih =>
    intro k hk h12 h
    by_cases e : k = k' + 1
    · rw [e]
    · rw [← ih k (by omega) (by omega) (fun i h1 h2 => h i (by omega) h2)]
      show (if s.testBit (11 - k') = true then (11 - k') :: asc s k' else asc s k') = asc s k'
      rw [if_neg (by rw [h (11 - k') (by omega) (by omega)]; decide)]
section
variable {M : pm_M} {p w n s v : Nat} {B : Nat → Bool} {R : Nat → Nat → Int}
theorem Jv_hi (hJ : Jv p w n B R s M) (hs : s < 2 ^ n) (hb : s.testBit v = true) (hlo : ∀ j, j < v → s.testBit j = false) {j : Nat} (hj : v < j) (hj12 : j < 12) (hbj : s.testBit j = true) (hB : B (df s (2 ^ j - 1)) = true) : ech (p : Int) w R (Em M) (lm M) (asc s (12 - j)) ∧ ∀ i, i ∈ asc s (12 - j) → dvl M p w i := by
  have pb := pred_bit hb hlo
  have e1 : df (s - 1) (2 ^ j - 1) = df s (2 ^ j - 1) := by
    apply Nat.eq_of_testBit_eq
    intro i
    rw [df_bit, df_bit, Nat.testBit_two_pow_sub_one]
    by_cases q : i < j
    · rw [decide_eq_true q]; simp
    · rw [pb i (by omega)]
  have e2 : asc (s - 1) (12 - j) = asc s (12 - j) := asc_congr _ (by omega) (fun i hi => pb i (by omega))
  have := hJ (by omega) j (by rw [pb j hj]; exact hbj) (by rw [e1]; exact hB)
  rw [e2] at this
  exact this
theorem Jv_next (hJ : Jv p w n B R s M) (hm : mat n B) (hn : n ≤ 12) (np : ¬ prt B s) : Jv p w n B R (s + 1) M := by
  intro hs1 j hbj hBj
  rw [Nat.add_sub_cancel] at hbj hBj ⊢
  have hs : s < 2 ^ n := by omega
  have hp := p2_le hn
  by_cases s0 : s = 0
  · subst s0; rw [Nat.zero_testBit] at hbj; cases hbj
  obtain ⟨v, hv, hb, -, hlo⟩ := low_ex s0 (by omega)
  have j12 := bit_lt hs hbj
  by_cases q : v < j
  · exact Jv_hi hJ hs hb hlo q (by omega) hbj hBj
  · have : j = v := by
      by_cases z : j < v
      · rw [hlo j z] at hbj; cases hbj
      · omega
    subst this
    exfalso
    have e : df s (2 ^ j - 1) = s := by
      apply Nat.eq_of_testBit_eq
      intro i
      rw [df_bit, Nat.testBit_two_pow_sub_one]
      by_cases z : i < j
      · rw [hlo i z]; rfl
      · rw [decide_eq_false z]; simp
    rw [e] at hBj
    exact np (fun i hi => hm.2.1 _ _ hs (sb_df _ _) hBj)
theorem c_x8 {ρ : Nat → Nat → Nat} (hn : n ≤ 12) (hl : lay M) (hp : 1 ≤ p ∧ p ≤ 7) (hpr : pr (p : Int)) (hw : w ≤ 6) (e3 : mI M 14 3 = nI p) (e4 : mI M 14 4 = nI w) (hR : ∀ i, i < n → ∀ c, c < w → mI M (16 + i) c = nI (ρ i c) ∧ ρ i c < p) (hRR : ∀ i c, R i c = (ρ i c : Int)) (hB : ∀ u, u < 2 ^ n → (B u = true ↔ nr (p : Int) w R (bl n u))) (hs : s < 2 ^ n) (s1 : 1 ≤ s) (pt : prt B s) (hJ : Jv p w n B R s M) {K9 : Int32 → pm_M → Prop} (kk : ∀ M'', kp ft M M'' → Jv p w n B R (s + 1) M'' → K9 (bI (B s)) M'') : w_X8_fits 14 (nI s) M K9 := by
  have hp2 := p2_le hn
  have zz := hl.1
  obtain ⟨v, hv, hb, hlow, hlo⟩ := low_ex (show s ≠ 0 by omega) (show s < 4096 by omega)
  have vn := bit_lt hs hb
  have dfb : ∀ i, (df s (b1 v)).testBit i = true ↔ v < i ∧ s.testBit i = true := fun i => by
    rw [df_bit, b1_bit, Bool.and_eq_true, Bool.not_eq_true', decide_eq_false_iff_not]
    constructor
    · rintro ⟨z1, z2⟩
      refine ⟨?_, z1⟩
      by_cases q : i < v
      · rw [hlo i q] at z1; cases z1
      · omega
    · rintro ⟨z1, z2⟩; exact ⟨z2, by omega⟩
  have lmem : ∀ i, i ∈ asc s (11 - v) ↔ v < i ∧ i < 12 ∧ s.testBit i = true := fun i => by
    rw [asc_mem (11 - v) (by omega)]
    constructor
    · intro z; exact ⟨by omega, z.2⟩
    · intro z; exact ⟨by omega, z.2⟩
  have hL : ech (p : Int) w R (Em M) (lm M) (asc s (11 - v)) ∧ ∀ i, i ∈ asc s (11 - v) → dvl M p w i := by
    by_cases d0 : df s (b1 v) = 0
    · have e : asc s (11 - v) = [] := by
        rw [asc_skip (11 - v) 0 (by omega) (by omega) (fun i h1 h2 => ?_)]
        · rfl
        · cases z : s.testBit i
          · rfl
          · have := (dfb i).mpr ⟨by omega, z⟩
            rw [d0, Nat.zero_testBit] at this; cases this
      rw [e]
      exact ⟨trivial, fun i hi => by cases hi⟩
    · obtain ⟨j, hj, hjb, -, hjlo⟩ := low_ex d0 (by have := sb_le (sb_df s (b1 v)); omega)
      have hj' := (dfb j).mp hjb
      have e : asc s (11 - v) = asc s (12 - j) := asc_skip (11 - v) (12 - j) (by omega) (by omega) (fun i h1 h2 => by
        cases z : s.testBit i
        · rfl
        · have := (dfb i).mpr ⟨by omega, z⟩
          rw [hjlo i (by omega)] at this; cases this)
      rw [e]
      refine Jv_hi hJ hs hb hlo hj'.1 hj hj'.2 ?_
      have e2 : df s (2 ^ j - 1) = df s (b1 v) := by
        apply Nat.eq_of_testBit_eq
        intro i
        apply beq_of
        rw [dfb, df_bit, Nat.testBit_two_pow_sub_one, Bool.and_eq_true, Bool.not_eq_true', decide_eq_false_iff_not]
        constructor
        · rintro ⟨z1, z2⟩; exact ⟨by omega, z1⟩
        · rintro ⟨z1, z2⟩
          refine ⟨z2, fun z => ?_⟩
          have := (dfb i).mpr ⟨z1, z2⟩
          rw [hjlo i z] at this; cases this
      rw [e2]
      exact pt v hb
  obtain ⟨hech, hdv⟩ := hL
  have nd : (asc s (11 - v)).Nodup := asc_nodup _ (by omega)
  have vL : v ∉ asc s (11 - v) := fun z => by have := ((lmem v).mp z).1; omega
  have nrL : nr (p : Int) w R (asc s (11 - v)) := by
    have := (hB _ (Nat.lt_trans (df_lt hb) hs)).mp (pt v hb)
    refine nr_same (bl_nodup _ _) nd (fun i => ?_) this
    rw [bl_mem, lmem, dfb]
    constructor
    · rintro ⟨z1, z2, z3⟩; exact ⟨z2, by omega, z3⟩
    · rintro ⟨z1, z2, z3⟩; exact ⟨bit_lt hs z3, z1, z3⟩
  have Bnr : B s = true ↔ nr (p : Int) w R (v :: asc s (11 - v)) := by
    have nd2 : (v :: asc s (11 - v)).Nodup := List.nodup_cons.mpr ⟨vL, nd⟩
    have mm : ∀ i, i ∈ bl n s ↔ i ∈ v :: asc s (11 - v) := fun i => by
      rw [bl_mem, List.mem_cons, lmem]
      constructor
      · rintro ⟨z1, z2⟩
        by_cases q : i = v
        · exact Or.inl q
        · refine Or.inr ⟨?_, by omega, z2⟩
          by_cases y : i < v
          · rw [hlo i y] at z2; cases z2
          · omega
      · rintro (z | ⟨z1, z2, z3⟩)
        · subst z; exact ⟨vn, hb⟩
        · exact ⟨bit_lt hs z3, z3⟩
    rw [hB s hs]
    exact ⟨fun q => nr_same (bl_nodup _ _) nd2 mm q, fun q => nr_same nd2 (bl_nodup _ _) (fun i => (mm i).symm) q⟩
  have spE := ech_spn trivial _ nd hech
  have leE := ech_lead _ hech
  have zeE := ech_asc (11 - v) (by omega) hech
  -- the fixed cells on the way
  have lay' : ∀ N, kp (fun a _ => a = 29 + v) M N → lay N := fun N k => lay_kp hl k (fun a k z _ => scr_sr (r := 0) (ft_scr ⟨by omega, by omega⟩))
  have fx : ∀ N, kp (fun a _ => a = 29 + v) M N → ∀ a k, a < 83 → a ≠ 29 + v → mI N a k = mI M a k := fun N kN a k ha hne => (kN.2.2 a k (by omega) hne).1
  unfold w_X8_fits
  refine bf (nI_nle (by omega) (by omega)) ?_
  have e12 : nI s >>> ((12 : Int32) &&& 31) = 0 := by
    have := nI_shr (k := s) (e := 12) (by omega) (by decide)
    rw [show s / 2 ^ 12 = 0 by omega] at this
    exact this
  refine bt e12 ?_
  rw [hlow, nI_sub1 (by rw [b1_e]; exact Nat.two_pow_pos v), b1_e]
  have vp : 2 ^ v ≤ 2 ^ 11 := Nat.pow_le_pow_right (by decide) (by omega)
  have vp0 := Nat.two_pow_pos v
  refine w_bc (by omega) ?_
  rw [bc_all v (by omega)]
  refine ⟨_, lp (fun k' (N : pm_M) c => w_X8_fits_33 K9 14 (nI s) (nI v) k' (nI c) N) w (fun c N => kp (fun a _ => a = 29 + v) M N ∧ ∀ c', c' < c → mI N (29 + v) c' = nI (ρ v c')) ?_ ?_ 0 M (Nat.zero_le _) ⟨kp_rf _ _, fun c' hc' => absurd hc' (Nat.not_lt_zero c')⟩⟩
  · intro k' c N hc ⟨kN, d1⟩ hk'
    show w_X8_fits_33 K9 14 (nI s) (nI v) (k' + 1) (nI c) N
    have lN := lay' N kN
    have f4 : mI N 14 4 = nI w := by rw [fx N kN 14 4 (by decide) (by omega)]; exact e4
    have vc : vp_in (nI c) 6 := vp_in_nI (by omega) (by decide)
    simp only [w_X8_fits_33, f4, forall_eq, nI_1]
    refine bf (nI_ge hc (by omega)) ⟨28, lr_14_1 lN, by rw [ln_28 lN]; exact vp_in_nI hv (by decide), 15, lr_14_0 lN, by rw [ln_15 lN]; exact vp_in_nI hv (by decide), ?_⟩
    rw [nI_clamp (show v < 2 ^ 31 by omega)]
    refine ⟨16 + v, lr_vr lN hv, by rw [ln_vr lN hv]; exact vc, 29 + v, lr_vd lN hv, by rw [ln_vd lN hv]; exact vc, ?_⟩
    rw [nI_clamp (by omega), fx N kN (16 + v) c (by omega) (by omega), (hR v vn c hc).1]
    refine hk' _ ⟨kp_sI kN rfl, fun c' hc' => ?_⟩
    rw [mI_sI]
    by_cases q : c' = c
    · subst q; rw [if_pos ⟨rfl, rfl⟩]
    · rw [if_neg (by omega)]; exact d1 c' (by omega)
  · intro k' N0 ⟨kN0, d0⟩
    show w_X8_fits_33 K9 14 (nI s) (nI v) (k' + 1) (nI w) N0
    have f4 : mI N0 14 4 = nI w := by rw [fx N0 kN0 14 4 (by decide) (by omega)]; exact e4
    simp only [w_X8_fits_33, f4]
    refine bt (nI_le (Nat.le_refl _) (by omega)) ?_
    have key := lpd (fun k' (N : pm_M) d => w_X8_fits_66 K9 14 (nI s) (nI v) k' (nI (v + d)) N) (fun d N => kp (fun a _ => a = 29 + v) M N ∧ v + d < 12 ∧ ∃ (z : Nat → Nat) (a : Int), (∀ c, c < w → mI N (29 + v) c = nI (z c) ∧ z c < p) ∧ ¬ (p : Int) ∣ a ∧ spn (p : Int) w R (asc s (11 - v)) (fun c => (z c : Int) - a * R v c) ∧ ∀ j, j ∈ asc s (11 - v) → v + d < j → (p : Int) ∣ (z (lm M j) : Int)) ?_ ?_ (11 - v) N0 ⟨kN0, by omega, ρ v, 1, fun c hc => ⟨d0 c hc, (hR v vn c hc).2⟩, hpr.1, spn_0 _ (fun c _ => ⟨0, by rw [hRR]; omega⟩), fun j hj hlt => ?_⟩
    · rw [show v + (11 - v) = 11 by omega] at key
      exact ⟨_, key⟩
    · intro k2 d N ⟨kN, hd, z, a, hz, ha, hsp, h0⟩ hk2
      show w_X8_fits_66 K9 14 (nI s) (nI v) (k2 + 1) (nI (v + (d + 1))) N
      have lN := lay' N kN
      have f3 : mI N 14 3 = nI p := by rw [fx N kN 14 3 (by decide) (by omega)]; exact e3
      have f4 : mI N 14 4 = nI w := by rw [fx N kN 14 4 (by decide) (by omega)]; exact e4
      have dec : nI (v + (d + 1)) + (-1) = nI (v + d) := by
        rw [nI_dec, nI_sub1 (by omega)]; congr 1
      simp only [w_X8_fits_66, w_X8_fits_101, forall_eq, dec, nI_bit (show s < 2 ^ 31 by omega) (show v + (d + 1) < 31 by omega)]
      refine bf (nI_ge (by omega) (by omega)) (b0 (fun e => ?_) (fun e => hk2 N ⟨kN, by omega, z, a, hz, ha, hsp, fun j hj hlt => h0 j hj ?_⟩))
      · have iL : v + (d + 1) ∈ asc s (11 - v) := (lmem _).mpr ⟨by omega, hd, e⟩
        obtain ⟨g1, g2, g3⟩ := hdv _ iL
        have ge : ∀ c, c < w → mI N (29 + (v + (d + 1))) c = nI (em M (v + (d + 1)) c) ∧ em M (v + (d + 1)) c < p := fun c hc => by
          rw [fx N kN (29 + (v + (d + 1))) c (by omega) (by omega)]; exact g1 c hc
        refine ⟨28, lr_14_1 lN, by rw [ln_28 lN]; exact vp_in_nI hv (by decide), by rw [ln_28 lN]; exact vp_in_nI hd (by decide), 41, lr_14_2 lN, by rw [ln_41 lN]; exact vp_in_nI hd (by decide), ?_⟩
        rw [nI_clamp (show v < 2 ^ 31 by omega), nI_clamp (show v + (d + 1) < 2 ^ 31 by omega)]
        refine ⟨29 + v, lr_vd lN hv, 29 + (v + (d + 1)), lr_vd lN hd, ?_⟩
        rw [fx N kN 41 (v + (d + 1)) (by decide) (by omega), g2]
        refine c_clear (z := z) (e := em M (v + (d + 1))) lN hp hw f3 f4 hv hd (by omega) hz ge g3 (fun N' kN' hN' => ?_)
        have ld := g3
        have nf : ¬ (p : Int) ∣ (em M (v + (d + 1)) (lm M (v + (d + 1))) : Int) := (leE _ iL).2
        have zl := (hz _ ld).2
        -- what the new row is
        have cg : ∀ c, c < w → (p : Int) ∣ (((em M (v + (d + 1)) (lm M (v + (d + 1))) * z c + (p - z (lm M (v + (d + 1)))) * em M (v + (d + 1)) c) % p : Nat) : Int) - ((em M (v + (d + 1)) (lm M (v + (d + 1))) : Int) * (z c : Int) + (-(z (lm M (v + (d + 1))) : Int)) * (em M (v + (d + 1)) c : Int)) := fun c hc => by
          have m := dv_mod (p := p) (a := em M (v + (d + 1)) (lm M (v + (d + 1))) * z c + (p - z (lm M (v + (d + 1)))) * em M (v + (d + 1)) c)
          have q : ((em M (v + (d + 1)) (lm M (v + (d + 1))) * z c + (p - z (lm M (v + (d + 1)))) * em M (v + (d + 1)) c : Nat) : Int) - ((em M (v + (d + 1)) (lm M (v + (d + 1))) : Int) * (z c : Int) + (-(z (lm M (v + (d + 1))) : Int)) * (em M (v + (d + 1)) c : Int)) = (p : Int) * (em M (v + (d + 1)) c : Int) := by
            rw [Int.natCast_add, Int.natCast_mul, Int.natCast_mul, Int.natCast_sub (by omega)]
            grind
          have := Int.dvd_add m ⟨(em M (v + (d + 1)) c : Int), q⟩
          have e : ∀ x y u : Int, x - y + (y - u) = x - u := fun x y u => by omega
          rw [e] at this
          exact this
        refine hk2 N' ⟨kp_tr kN kN', by omega, fun c => (em M (v + (d + 1)) (lm M (v + (d + 1))) * z c + (p - z (lm M (v + (d + 1)))) * em M (v + (d + 1)) c) % p, (em M (v + (d + 1)) (lm M (v + (d + 1))) : Int) * a, fun c hc => ⟨hN' c hc, Nat.mod_lt _ (by omega)⟩, fun q => ha (pr_mul hpr q nf), ?_, fun j hj hlt => ?_⟩
        · have s3 := spn_lin (em M (v + (d + 1)) (lm M (v + (d + 1))) : Int) (-(z (lm M (v + (d + 1))) : Int)) hsp (spE _ iL)
          refine spn_cong s3 (fun c hc => ?_)
          have := Int.dvd_neg.mpr (cg c hc)
          have e : (em M (v + (d + 1)) (lm M (v + (d + 1))) : Int) * ((z c : Int) - a * R v c) + -(z (lm M (v + (d + 1))) : Int) * Em M (v + (d + 1)) c - ((((em M (v + (d + 1)) (lm M (v + (d + 1))) * z c + (p - z (lm M (v + (d + 1)))) * em M (v + (d + 1)) c) % p : Nat) : Int) - (em M (v + (d + 1)) (lm M (v + (d + 1))) : Int) * a * R v c) = -((((em M (v + (d + 1)) (lm M (v + (d + 1))) * z c + (p - z (lm M (v + (d + 1)))) * em M (v + (d + 1)) c) % p : Nat) : Int) - ((em M (v + (d + 1)) (lm M (v + (d + 1))) : Int) * (z c : Int) + (-(z (lm M (v + (d + 1))) : Int)) * (em M (v + (d + 1)) c : Int))) := by
            unfold Em
            grind
          rw [e]
          exact this
        · have jl := (leE j hj).1
          have c1 := cg (lm M j) jl
          have c2 : (p : Int) ∣ (em M (v + (d + 1)) (lm M (v + (d + 1))) : Int) * (z (lm M j) : Int) + (-(z (lm M (v + (d + 1))) : Int)) * (em M (v + (d + 1)) (lm M j) : Int) := by
            by_cases q : j = v + (d + 1)
            · rw [q]
              exact ⟨0, by grind⟩
            · exact Int.dvd_add (dvd_r (h0 j hj (by omega)) _) (dvd_r (zeE _ j iL hj (by omega)) _)
          have := Int.dvd_add c1 c2
          rw [Int.sub_add_cancel] at this
          exact this
      · have := ((lmem j).mp hj).2.2
        by_cases q : j = v + (d + 1)
        · rw [q, e] at this; cases this
        · omega
    · intro k2 N ⟨kN, hd, z, a, hz, ha, hsp, h0⟩
      show w_X8_fits_66 K9 14 (nI s) (nI v) (k2 + 1) (nI (v + 0)) N
      have lN := lay' N kN
      have f4 : mI N 14 4 = nI w := by rw [fx N kN 14 4 (by decide) (by omega)]; exact e4
      have vv : vp_in (nI v) 12 := vp_in_nI hv (by decide)
      have h0' : ∀ j, j ∈ asc s (11 - v) → (p : Int) ∣ (z (lm M j) : Int) := fun j hj => h0 j hj (by have := ((lmem j).mp hj).1; omega)
      have nx := ech_next hpr nd vL hech nrL ha hsp h0'
      simp only [w_X8_fits_66, w_X8_fits_138, Nat.add_zero]
      refine bt (nI_le (Nat.le_refl _) (by omega)) ⟨41, lr_14_2 lN, 28, lr_14_1 lN, by rw [ln_28 lN]; exact vv, fun o ho => ⟨29 + v, by rw [ho, nI_clamp (by omega)]; exact lr_vd lN hv, ?_⟩⟩
      -- what stands at the end, whatever the lead
      have fin : ∀ x : Int32, kp ft M (sI N 41 v x) := fun x => kp_sI (kp_mono kN (fun a k q => by unfold ft; omega)) (by unfold ft; omega)
      have kft : ∀ x : Int32, ∀ a k, a < 83 → a ≠ 29 + v → a ≠ 41 → mI (sI N 41 v x) a k = mI M a k := fun x a k ha h1 h2 => by rw [mI_sI, if_neg (by omega)]; exact fx N kN a k ha h1
      have up : ∀ x : Int32, ∀ j, v < j → mI (sI N 41 v x) 41 j = mI M 41 j := fun x j hj => by rw [mI_sI, if_neg (by omega)]; exact fx N kN 41 j (by decide) (by omega)
      have upE : ∀ x : Int32, ∀ i, v < i → i < 12 → (∀ c, mI (sI N 41 v x) (29 + i) c = mI M (29 + i) c) := fun x i h1 h2 c => kft x (29 + i) c (by omega) (by omega) (by omega)
      have oldJ : ∀ x : Int32, ∀ j, v < j → s.testBit j = true → B (df s (2 ^ j - 1)) = true → ech (p : Int) w R (Em (sI N 41 v x)) (lm (sI N 41 v x)) (asc s (12 - j)) ∧ ∀ i, i ∈ asc s (12 - j) → dvl (sI N 41 v x) p w i := fun x j hj hbj hBj => by
        have j12 := bit_lt hs hbj
        obtain ⟨y1, y2⟩ := Jv_hi hJ hs hb hlo hj (by omega) hbj hBj
        have mem : ∀ i, i ∈ asc s (12 - j) → v < i ∧ i < 12 := fun i hi => by
          have := (asc_mem (12 - j) (by omega)).mp hi
          omega
        refine ⟨ech_congr _ (fun i hi => ⟨fun c _ => ?_, lm_e (up x i (mem i hi).1)⟩) y1, fun i hi => dvl_e (upE x i (mem i hi).1 (mem i hi).2) (up x i (mem i hi).1) (y2 i hi)⟩
        unfold Em
        rw [em_e (upE x i (mem i hi).1 (mem i hi).2 c)]
      have Lup : ∀ x : Int32, ech (p : Int) w R (Em (sI N 41 v x)) (lm (sI N 41 v x)) (asc s (11 - v)) := fun x => ech_congr _ (fun i hi => ⟨fun c _ => by unfold Em; rw [em_e (upE x i ((lmem i).mp hi).1 ((lmem i).mp hi).2.1 c)], lm_e (up x i ((lmem i).mp hi).1)⟩) hech
      have ends : ∀ x : Int32, (B s = true → ech (p : Int) w R (Em (sI N 41 v x)) (lm (sI N 41 v x)) (v :: asc s (11 - v)) ∧ dvl (sI N 41 v x) p w v) → Jv p w n B R (s + 1) (sI N 41 v x) := by
        intro x hx _ j hbj hBj
        rw [Nat.add_sub_cancel] at hbj hBj ⊢
        by_cases q : v < j
        · exact oldJ x j q hbj hBj
        · have jv : j = v := by
            by_cases y : j < v
            · rw [hlo j y] at hbj; cases hbj
            · omega
          subst jv
          have e : df s (2 ^ j - 1) = s := by
            apply Nat.eq_of_testBit_eq
            intro i
            rw [df_bit, Nat.testBit_two_pow_sub_one]
            by_cases y : i < j
            · rw [hlo i y]; rfl
            · rw [decide_eq_false y]; simp
          rw [e] at hBj
          obtain ⟨y1, y2⟩ := hx hBj
          have el : asc s (12 - j) = j :: asc s (11 - j) := by
            rw [show 12 - j = (11 - j) + 1 by omega]
            show (if s.testBit (11 - (11 - j)) = true then (11 - (11 - j)) :: asc s (11 - j) else asc s (11 - j)) = _
            rw [show 11 - (11 - j) = j by omega, if_pos hb]
          rw [el]
          refine ⟨y1, fun i hi => ?_⟩
          rcases List.mem_cons.mp hi with y | y
          · subst y; exact y2
          · have := (lmem i).mp y
            exact dvl_e (upE x i this.1 this.2.1) (up x i this.1) (hdv i y)
      refine c_fnz lN hw f4 hv (fun c hc => ⟨(hz c hc).1, by have := (hz c hc).2; omega⟩) (fun all0 => ⟨by rw [ln_41 lN]; exact vv, fun M9 e9 => ?_⟩) (fun ld l1 l2 => ⟨by rw [ln_41 lN]; exact vv, fun M9 e9 => ?_⟩)
      · rw [nI_clamp (by omega)] at e9
        have Bf : B s = false := by
          cases y : B s
          · rfl
          · exact absurd (fun c hc => by rw [all0 c hc]; exact ⟨0, by simp⟩) (nx.mp (Bnr.mp y))
        have l9 : lay M9 := by rw [e9]; exact lay_kp hl (fin _) (fun a k z _ => scr_sr (r := 0) (ft_scr z))
        refine ⟨41, lr_14_2 l9, by rw [ln_41 l9]; exact vv, ?_⟩
        have ex : mI M9 41 v = -1 := by rw [e9, mI_sI, if_pos ⟨rfl, rfl⟩]
        rw [nI_clamp (by omega), ex]
        refine bt rfl ⟨Or.inl trivial, ?_⟩
        have := kk M9 (by rw [e9]; exact fin _) (by rw [e9]; exact ends _ (fun y => by rw [Bf] at y; cases y))
        rw [Bf] at this
        exact this
      · rw [nI_clamp (by omega)] at e9
        have zl := (hz ld l1).2
        have nd' : ¬ (p : Int) ∣ (z ld : Int) := fun y => l2 (dv_0 zl y)
        have Bt : B s = true := Bnr.mpr (nx.mpr (fun y => nd' (y ld l1)))
        have l9 : lay M9 := by rw [e9]; exact lay_kp hl (fin _) (fun a k z _ => scr_sr (r := 0) (ft_scr z))
        refine ⟨41, lr_14_2 l9, by rw [ln_41 l9]; exact vv, ?_⟩
        have ex : mI M9 41 v = nI ld := by rw [e9, mI_sI, if_pos ⟨rfl, rfl⟩]
        rw [nI_clamp (by omega), ex]
        refine bf (m1 (by omega)) ⟨Or.inr trivial, ?_⟩
        have ez : ∀ c, c < w → em (sI N 41 v (nI ld)) v c = z c := fun c hc => by
          unfold em
          rw [mI_sI, if_neg (by omega), (hz c hc).1, nI_clamp (by have := (hz c hc).2; omega)]
        have el : lm (sI N 41 v (nI ld)) v = ld := by
          unfold lm
          rw [mI_sI, if_pos ⟨rfl, rfl⟩, nI_clamp (by omega)]
        have := kk M9 (by rw [e9]; exact fin _) (by
          rw [e9]
          refine ends _ (fun _ => ⟨⟨⟨a, ha, spn_cong hsp (fun c hc => ⟨0, by unfold Em; rw [ez c hc]; omega⟩)⟩, by rw [el]; exact l1, ?_, fun j hj => ?_, Lup _⟩, fun c hc => ?_, ?_, ?_⟩)
          · rw [el]; unfold Em; rw [ez ld l1]; exact nd'
          · rw [lm_e (up (nI ld) j ((lmem j).mp hj).1)]
            unfold Em
            rw [ez _ (leE j hj).1]; exact h0' j hj
          · rw [ez c hc, mI_sI, if_neg (by omega)]; exact hz c hc
          · rw [el, mI_sI, if_pos ⟨rfl, rfl⟩]
          · rw [el]; exact l1)
        rw [Bt] at this
        exact this
    · have := ((lmem j).mp hj).2.1
      omega
end
