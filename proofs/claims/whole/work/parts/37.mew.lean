/-! fewest, crowd -/
def alone (n : Nat) (A : Nat → Bool) : Prop := ∀ i, i < n → A (b1 i) = true
/-- how many heaps a set needs -/
def hnd (A : Nat → Bool) (s : Nat) : Nat := (bc s + rk A s - 1) / rk A s
theorem rk_pos {n : Nat} {A : Nat → Bool} (hn : n ≤ 16) (ha : alone n A) {s : Nat} (hs : s < 2 ^ n) (h0 : s ≠ 0) : 0 < rk A s := by
  obtain ⟨i, hi⟩ := bits_ex h0
  have hin := bit_lt hs hi
  have := rk_ge (sb_b1.mpr hi) (ha i hin)
  rw [bc_one (by omega)] at this
  omega
theorem hnd_le {n : Nat} {A : Nat → Bool} (hn : n ≤ 16) (ha : alone n A) {s k : Nat} (hs : s < 2 ^ n) (h0 : s ≠ 0) : hnd A s ≤ k ↔ bc s ≤ k * rk A s := ceil_le (rk_pos hn ha hs h0)
def fwi (A : Nat → Bool) (s k : Nat) : Prop := cv A k s ∧ ∀ k', k' < k → ¬ cv A k' s
theorem cv_le {A : Nat → Bool} (h0 : A 0 = true) {s k k' : Nat} (h : k ≤ k') (g : cv A k s) : cv A k' s := by
  induction k' with
  | zero => have : k = 0 := by omega
            subst this; exact g
  | succ k' ih =>
    by_cases e : k = k' + 1
    · subst e; exact g
    · exact cv_more h0 _ _ (ih (by omega))
theorem fwi_u {A : Nat → Bool} {s k k' : Nat} (h : fwi A s k) (g : fwi A s k') : k = k' := by
  by_cases q : k < k'
  · exact absurd h.1 (g.2 k q)
  · by_cases q' : k' < k
    · exact absurd g.1 (h.2 k' q')
    · omega
def crw (n : Nat) (A : Nat → Bool) (cr : Nat) : Prop := 1 ≤ cr ∧ cr < 2 ^ n ∧ (∀ s, 1 ≤ s → s < 2 ^ n → hnd A s ≤ hnd A cr) ∧ ∀ s, 1 ≤ s → s < cr → hnd A s < hnd A cr
theorem crw_fwi {n : Nat} {A : Nat → Bool} (hn : n ≤ 12) (hm : mat n A) (ha : alone n A) {cr : Nat} (h : crw n A cr) : fwi A (2 ^ n - 1) (hnd A cr) := by
  have h0 := Nat.two_pow_pos n
  have key : ∀ k, cv A k (2 ^ n - 1) ↔ hnd A cr ≤ k := by
    intro k
    rw [cv_iff (by omega) hm (by omega)]
    constructor
    · intro g
      rw [hnd_le (by omega) ha h.2.1 (by have := h.1; omega)]
      refine g cr (fun i hi => ?_)
      rw [Nat.testBit_two_pow_sub_one]
      simpa using bit_lt h.2.1 hi
    · intro g p hp
      have hpn : p < 2 ^ n := sb_lt hp (by omega)
      by_cases e : p = 0
      · subst e; rw [bc_0]; exact Nat.zero_le _
      · rw [← hnd_le (by omega) ha hpn e]
        exact Nat.le_trans (h.2.2.1 p (by omega) hpn) g
  exact ⟨(key _).mpr (Nat.le_refl _), fun k' hk' q => absurd ((key _).mp q) (by omega)⟩
theorem hnd_sm {n : Nat} {A : Nat → Bool} (hn : n ≤ 12) (ha : alone n A) {s : Nat} (hs : s < 2 ^ n) (h0 : s ≠ 0) : hnd A s ≤ 12 := by
  rw [hnd_le (by omega) ha hs h0]
  have h1 := rk_pos (by omega) ha hs h0
  have h2 := bc_le_n hs
  have : 12 * 1 ≤ 12 * rk A s := Nat.mul_le_mul_left 12 h1
  omega
section
variable {M : pm_M} {n r : Nat} {w : Nat → Nat} {A : Nat → Nat → Bool} {c : Nat} {Q P : Nat → Nat}
theorem al_dec (h : iv M n r w A c Q P) (i : Nat) : alone n (A i) ∨ ∃ j, j < n ∧ A i (b1 j) = false ∧ ∀ l, l < j → A i (b1 l) = true := by
  by_cases q : ∃ j, j < n ∧ A i (b1 j) = false
  · obtain ⟨j, hj⟩ := q
    obtain ⟨p, h1, h2, h3⟩ := least_ex (T := fun j => j < n ∧ A i (b1 j) = false) j hj
    refine Or.inr ⟨p, h1.1, h1.2, fun l hl => ?_⟩
    cases e : A i (b1 l) with
    | true => rfl
    | false => exact absurd ⟨by omega, e⟩ (h3 l hl)
  · refine Or.inl (fun l hl => ?_)
    cases e : A i (b1 l) with
    | true => rfl
    | false => exact absurd ⟨l, hl, e⟩ q
theorem c_alone (h : iv M n r w A c Q P) {i : Nat} (hi : i < r) (ha : alone n (A i)) {Post : Int32 → Prop} (k : Post 1) : w_X5_permitsEachAlone (Q i) (nI n) M Post := by
  have hn := iv_n h
  unfold w_X5_permitsEachAlone
  refine ⟨_, lp (fun k (_ : Unit) j => w_X5_permitsEachAlone_2 Post (Q i) (nI n) M k (nI j)) n (fun _ _ => True) ?_ ?_ 0 () (by omega) trivial⟩
  · intro k j _ hj _ hk
    show w_X5_permitsEachAlone_2 Post (Q i) (nI n) M (k + 1) (nI j)
    simp only [w_X5_permitsEachAlone_2, nI_1, forall_eq, nI_b1 j (by omega)]
    exact bf (nI_ge hj (by omega)) (c_permits h hi (b1_lt hj) (b0' (fun _ => hk () trivial) (fun e => by rw [ha j hj] at e; cases e)))
  · intro k' _ _
    show w_X5_permitsEachAlone_2 Post (Q i) (nI n) M (k' + 1) (nI n)
    simp only [w_X5_permitsEachAlone_2]
    exact bt (nI_le (by omega) (by omega)) k
theorem c_alone0 (h : iv M n r w A c Q P) {i j : Nat} (hi : i < r) (hj : j < n) (ha : A i (b1 j) = false) (hb : ∀ l, l < j → A i (b1 l) = true) {Post : Int32 → Prop} (k : Post 0) : w_X5_permitsEachAlone (Q i) (nI n) M Post := by
  have hn := iv_n h
  unfold w_X5_permitsEachAlone
  refine ⟨_, lp (fun k (_ : Unit) j => w_X5_permitsEachAlone_2 Post (Q i) (nI n) M k (nI j)) j (fun _ _ => True) ?_ ?_ 0 () (by omega) trivial⟩
  · intro k l _ hl _ hk
    show w_X5_permitsEachAlone_2 Post (Q i) (nI n) M (k + 1) (nI l)
    simp only [w_X5_permitsEachAlone_2, nI_1, forall_eq, nI_b1 l (by omega)]
    exact bf (nI_ge (by omega) (by omega)) (c_permits h hi (b1_lt (by omega)) (b0' (fun _ => hk () trivial) (fun e => by rw [hb l hl] at e; cases e)))
  · intro k' _ _
    show w_X5_permitsEachAlone_2 Post (Q i) (nI n) M (k' + 1) (nI j)
    simp only [w_X5_permitsEachAlone_2, nI_b1 j (by omega)]
    exact bf (nI_ge hj (by omega)) (c_permits h hi (b1_lt hj) (b0' (fun e => by rw [ha] at e; cases e) (fun _ => k)))
theorem m_undealt (h : iv M n r w A c Q P) {i : Nat} (hi : i < r) (ha : alone n (A i)) {Post : Int32 → Prop} (k : Post 0) : w_X10_undealt 62 (nI i) M Post := by
  have hn := iv_n h
  unfold w_X10_undealt
  refine m_isRule h hi (bf' one0 ⟨_, lp (fun k (_ : Unit) j => w_X10_undealt_12 Post 62 (nI i) M k (nI j)) n (fun _ _ => True) ?_ ?_ 0 () (by omega) trivial⟩)
  · intro k j _ hj _ hk
    show w_X10_undealt_12 Post 62 (nI i) M (k + 1) (nI j)
    simp only [w_X10_undealt_12, nI_1, forall_eq, nI_b1 j (by omega), h.2.1.2.2.2.2.1]
    exact bf (nI_ge hj (by omega)) (m_all h hi (b1_lt hj) (b0' (fun _ => hk () trivial) (fun e => by rw [ha j hj] at e; cases e)))
  · intro k' _ _
    show w_X10_undealt_12 Post 62 (nI i) M (k' + 1) (nI n)
    simp only [w_X10_undealt_12, h.2.1.2.2.2.2.1]
    exact bt (nI_le (by omega) (by omega)) k
theorem m_undealt0 (h : iv M n r w A c Q P) {i j : Nat} (hi : i < r) (hj : j < n) (ha : A i (b1 j) = false) (hb : ∀ l, l < j → A i (b1 l) = true) {Post : Int32 → Prop} (k : Post (-2)) : w_X10_undealt 62 (nI i) M Post := by
  have hn := iv_n h
  unfold w_X10_undealt
  refine m_isRule h hi (bf' one0 ⟨_, lp (fun k (_ : Unit) j => w_X10_undealt_12 Post 62 (nI i) M k (nI j)) j (fun _ _ => True) ?_ ?_ 0 () (by omega) trivial⟩)
  · intro k l _ hl _ hk
    show w_X10_undealt_12 Post 62 (nI i) M (k + 1) (nI l)
    simp only [w_X10_undealt_12, nI_1, forall_eq, nI_b1 l (by omega), h.2.1.2.2.2.2.1]
    exact bf (nI_ge (by omega) (by omega)) (m_all h hi (b1_lt (by omega)) (b0' (fun _ => hk () trivial) (fun e => by rw [hb l hl] at e; cases e)))
  · intro k' _ _
    show w_X10_undealt_12 Post 62 (nI i) M (k' + 1) (nI j)
    simp only [w_X10_undealt_12, nI_b1 j (by omega), h.2.1.2.2.2.2.1]
    exact bf (nI_ge hj (by omega)) (m_all h hi (b1_lt hj) (b0' (fun e => by rw [ha] at e; cases e) (fun _ => k)))
theorem hnd_nI (h : iv M n r w A c Q P) {i s : Nat} (hi : i < r) (hr : 0 < rk (A i) s) : (nI (bc s) + nI (rk (A i) s) - 1) / nI (rk (A i) s) = nI (hnd (A i) s) := by
  have k1 := rk_sm h (s := s) hi
  have k2 := bc_16 s
  rw [nI_add, nI_sub1 (by omega), pk_div (by omega) hr (by omega)]
  rfl
theorem c_heaps (h : iv M n r w A c Q P) {i s : Nat} (hi : i < r) (ha : alone n (A i)) (hs : s < 2 ^ n) (h0 : s ≠ 0) {Post : Int32 → Prop} (k : Post (nI (hnd (A i) s))) : w_X9_heapsNeeded 0 (Q i) (nI s) M Post := by
  have hn := iv_n h
  have hp := iv_p h
  have k1 := rk_sm h (s := s) hi
  have hr := rk_pos (by omega) ha hs h0
  simp only [w_X9_heapsNeeded, w_X9_heapsNeeded_24]
  refine c_rank h hi hs (bf (nI_nle hr (by omega)) (w_bc (by omega) ⟨nI_ne0 hr (by omega), ?_⟩))
  rw [hnd_nI h hi hr]
  exact k
theorem c_crowded (h : iv M n r w A c Q P) {i : Nat} (hi : i < r) (ha : alone n (A i)) {Post : Int32 → Prop} (k : ∀ cr, crw n (A i) cr → Post (nI cr)) : w_X9_mostCrowded 0 (Q i) M Post := by
  have hn := iv_n h
  have hp := iv_p h
  have h2 : 2 ^ 1 ≤ 2 ^ n := Nat.pow_le_pow_right (by decide) hn.1
  unfold w_X9_mostCrowded
  refine c_heaps (s := 1) h hi ha (by omega) (by decide) ⟨_, lp (fun k (s : Nat × Nat) t => w_X9_mostCrowded_12 Post 0 (Q i) M k (nI s.1) (nI s.2) (nI t)) (2 ^ n) (fun t s => 1 ≤ s.1 ∧ s.1 < t ∧ s.2 = hnd (A i) s.1 ∧ (∀ u, 1 ≤ u → u < t → hnd (A i) u ≤ hnd (A i) s.1) ∧ ∀ u, 1 ≤ u → u < s.1 → hnd (A i) u < hnd (A i) s.1) ?_ ?_ 2 (1, hnd (A i) 1) (by omega) ⟨Nat.le_refl 1, Nat.lt_succ_self 1, rfl, fun u h1 h2 => ?_, fun u h1 h2 => ?_⟩⟩
  · intro k t s ht ⟨s1, s2, s3, s4, s5⟩ hk
    show w_X9_mostCrowded_12 Post 0 (Q i) M (k + 1) (nI s.1) (nI s.2) (nI t)
    simp only [w_X9_mostCrowded_12, w_X9_mostCrowded_42, nI_1, forall_eq, h.2.1.2.2.1]
    refine bf (nI_nlt (by omega) (by omega)) (c_heaps h hi ha ht (by omega) ?_)
    have b1 := hnd_sm (by omega) ha ht (by omega)
    have b2 := hnd_sm (s := s.1) (by omega) ha (by omega) (by omega)
    rw [nI_leI (by omega) (by omega)]
    refine ⟨fun e => hk s ⟨s1, by omega, s3, fun u u1 u2 => ?_, s5⟩, fun e => hk (t, hnd (A i) t) ⟨by omega, Nat.lt_succ_self t, rfl, fun u u1 u2 => ?_, fun u u1 u2 => ?_⟩⟩
    · by_cases q : u = t
      · subst q; omega
      · exact s4 u u1 (by omega)
    · show hnd (A i) u ≤ hnd (A i) t
      by_cases q : u = t
      · subst q; exact Nat.le_refl _
      · have := s4 u u1 (by omega)
        omega
    · show hnd (A i) u < hnd (A i) t
      have := s4 u u1 u2
      omega
  · intro k' s ⟨s1, s2, s3, s4, s5⟩
    show w_X9_mostCrowded_12 Post 0 (Q i) M (k' + 1) (nI s.1) (nI s.2) (nI (2 ^ n))
    simp only [w_X9_mostCrowded_12, h.2.1.2.2.1]
    exact bt (nI_lt (by omega) (by omega)) (k _ ⟨s1, s2, s4, s5⟩)
  · have : u = 1 := by omega
    subst this; exact Nat.le_refl _
  · omega
/-- the least number of heaps, part by part -/
theorem m_fewestOf (h : iv M n r w A c Q P) {i : Nat} (hi : i < r) (ha : alone n (A i)) {Post : Int32 → pm_M → Prop} (k : ∀ m M', fwi (A i) (2 ^ n - 1) m → m ≤ 12 → kp (scr r) M M' → Post (nI m) M') : w_X10_fewestOf 62 (nI i) M Post := by
  have hn := iv_n h
  have hp := iv_p h
  have h0 := Nat.two_pow_pos n
  have A0 := (iv_mat h hi).1
  have sc80 : ∀ t, scr r 80 t := fun t => by unfold scr; omega
  unfold w_X10_fewestOf
  refine ⟨80, lr_62_23 h.1, by rw [ln_80 h.1]; exact vp_in_nI (n := 0) (by decide) (by decide), ?_⟩
  intro M3 e3
  have k3 : kp (scr r) M M3 := by rw [e3]; exact kp_sI (kp_rf _ _) (sc80 _)
  refine ⟨_, lp (fun k (N : pm_M) s => w_X10_fewestOf_9 Post 62 (nI i) k (nI s) N) (2 ^ n) (fun s N => 1 ≤ s ∧ kp (scr r) M N ∧ ∀ t, t < s → ∃ m, mI N 80 t = nI m ∧ fwi (A i) t m ∧ m ≤ bc t) ?_ ?_ 1 M3 (by omega) ⟨Nat.le_refl 1, k3, fun t ht => ⟨0, ?_, ⟨?_, fun k' hk' => absurd hk' (by omega)⟩, Nat.zero_le _⟩⟩⟩
  · intro k s N hs ⟨s1, kN, hd⟩ hk
    show w_X10_fewestOf_9 Post 62 (nI i) (k + 1) (nI s) N
    have s0 : s ≠ 0 := by omega
    have hN := iv_kp h kN
    obtain ⟨l, hl, hb, hlow, -⟩ := low_ex s0 (by omega)
    simp only [w_X10_fewestOf_9, forall_eq, hN.2.1.2.2.2.2.2.1, hlow, nI_inv]
    have ln : l < n := bit_lt hs hb
    have rs : df s (b1 l) < s := df_lt hb
    have hps : ∀ p, sb p (df s (b1 l)) → p ||| b1 l < 2 ^ n := fun p hp => sb_add (by have := sb_le hp; omega) ln
    have dfe : ∀ p, sb p (df s (b1 l)) → df s (p ||| b1 l) = df (df s (b1 l)) p := fun p hp => by
      apply Nat.eq_of_testBit_eq
      intro j
      rw [df_bit, df_bit, df_bit, Nat.testBit_or]
      cases s.testBit j <;> cases p.testBit j <;> cases (b1 l).testBit j <;> rfl
    have sbe : ∀ p, sb p (df s (b1 l)) → sb (p ||| b1 l) s := fun p hp => sb_or (sb_tr hp (sb_df _ _)) (sb_b1.mpr hb)
    have bcs : bc (df s (b1 l)) + 1 = bc s := bc_sub (by omega) hb
    refine bf (nI_nlt (by omega) (by omega)) ?_
    have step : ∀ (K : Int32 → Prop) (p v : Nat), sb p (df s (b1 l)) → v ≤ 100 → (v < 100 → cv (A i) v s) → (∀ q, sb q (df s (b1 l)) → p < q → A i (q ||| b1 l) = true → ∀ m, cv (A i) m (df (df s (b1 l)) q) → v ≤ m + 1) → (∀ v', v' ≤ 100 → (v' < 100 → cv (A i) v' s) → (∀ q, sb q (df s (b1 l)) → p ≤ q → A i (q ||| b1 l) = true → ∀ m, cv (A i) m (df (df s (b1 l)) q) → v' ≤ m + 1) → K (nI v')) → w_X10_isAllowed 62 (nI i) (nI p ||| nI (b1 l)) N (fun r_7 => (r_7 = 0 → K (nI v)) ∧ (¬ r_7 = 0 → ∃ q_9 : Nat, mR N 62 23 = some q_9 ∧ (vp_in (nI (df s (b1 l)) &&& (nI p ^^^ (-1 : Int32))) (mN N q_9) ∧ w_J9_min_7cf53 (nI v) ((1 : Int32) + (mI N q_9 (nI (df s (b1 l)) &&& (nI p ^^^ (-1 : Int32))).toNatClampNeg)) N (fun r_11 => K r_11)))) := by
      intro K p v hsp hv1 hv2 hv3 hK
      rw [nI_or]
      refine m_all hN hi (hps p hsp) (b0 (fun eA => ?_) (fun eA => ?_))
      · have hlt : df (df s (b1 l)) p < s := by have := sb_le (sb_df (df s (b1 l)) p); omega
        rw [nI_inv]
        refine ⟨80, lr_62_23 hN.1, by rw [ln_80 hN.1]; exact vp_in_nI (by omega) (by decide), ?_⟩
        obtain ⟨m, e, hf, hm⟩ := hd _ hlt
        have hb2 := bc_16 (df (df s (b1 l)) p)
        rw [nI_clamp (by omega), e, show (1 : Int32) = nI 1 from rfl, nI_add]
        refine w_min (by omega) (by omega) (hK _ (by omega) (fun q => ?_) (fun q hq hpq hA m' hm' => ?_))
        · have c1 : cv (A i) (1 + m) s := by
            rw [Nat.add_comm]
            refine ⟨p ||| b1 l, sbe p hsp, eA, ?_⟩
            rw [dfe p hsp]; exact hf.1
          by_cases z : v ≤ 1 + m
          · rw [Nat.min_eq_left z] at q ⊢
            exact hv2 q
          · rw [Nat.min_eq_right (by omega)]
            exact c1
        · by_cases z : p = q
          · subst z
            have : m ≤ m' := by
              by_cases y : m' < m
              · exact absurd hm' (hf.2 m' y)
              · omega
            omega
          · have := hv3 q hq (by omega) hA m' hm'
            omega
      · refine hK v hv1 hv2 (fun q hq hpq hA m' hm' => ?_)
        by_cases z : p = q
        · subst z; rw [eA] at hA; cases hA
        · exact hv3 q hq (by omega) hA m' hm'
    obtain ⟨kf, hkf⟩ := lps (fun k' (v : Nat) p => w_X10_fewestOf_37 Post (w_X10_fewestOf_9 Post 62 (nI i) k) 62 (nI i) (nI s) (nI (b1 l)) (nI (df s (b1 l))) N k' (nI v) (nI p)) (df s (b1 l)) (fun p v => v ≤ 100 ∧ (v < 100 → cv (A i) v s) ∧ (∀ q, sb q (df s (b1 l)) → p < q → A i (q ||| b1 l) = true → ∀ m, cv (A i) m (df (df s (b1 l)) q) → v ≤ m + 1)) (by
        intro k' p v hsp p0 ⟨v1, v2, v3⟩ hk'
        show w_X10_fewestOf_37 Post (w_X10_fewestOf_9 Post 62 (nI i) k) 62 (nI i) (nI s) (nI (b1 l)) (nI (df s (b1 l))) N (k' + 1) (nI v) (nI p)
        have hpl := sb_le hsp
        simp only [w_X10_fewestOf_37, w_X10_fewestOf_75, w_X10_fewestOf_91]
        refine bf (nI_pos (by omega)) (step (fun x => (¬ nI p = 0 → w_X10_fewestOf_37 Post (w_X10_fewestOf_9 Post 62 (nI i) k) 62 (nI i) (nI s) (nI (b1 l)) (nI (df s (b1 l))) N k' x ((nI p - 1) &&& nI (df s (b1 l)))) ∧ (nI p = 0 → w_X10_fewestOf_37 Post (w_X10_fewestOf_9 Post 62 (nI i) k) 62 (nI i) (nI s) (nI (b1 l)) (nI (df s (b1 l))) N k' x (-1))) p v hsp v1 v2 v3 ?_)
        intro v' w1 w2 w3
        refine bf' (by rw [nI_z (by omega)]; exact p0) ?_
        rw [nI_prev p0]
        refine hk' v' ⟨w1, w2, fun q hq hlt => w3 q hq ?_⟩
        by_cases z : q < p
        · have := part_prev _ p q hsp hq z
          omega
        · omega) (by
        intro k' v ⟨v1, v2, v3⟩
        show w_X10_fewestOf_37 Post (w_X10_fewestOf_9 Post 62 (nI i) k) 62 (nI i) (nI s) (nI (b1 l)) (nI (df s (b1 l))) N (k' + 1 + 1) (nI v) (nI 0)
        have s00 : sb 0 (df s (b1 l)) := fun j hj => by rw [Nat.zero_testBit] at hj; cases hj
        obtain ⟨k1, e1⟩ : ∃ k1, k1 = k' + 1 := ⟨_, rfl⟩
        rw [← e1]
        simp only [w_X10_fewestOf_37, w_X10_fewestOf_75, w_X10_fewestOf_91]
        refine bf (nI_pos (n := 0) (by omega)) (step (fun x => (¬ nI 0 = 0 → w_X10_fewestOf_37 Post (w_X10_fewestOf_9 Post 62 (nI i) k) 62 (nI i) (nI s) (nI (b1 l)) (nI (df s (b1 l))) N k1 x ((nI 0 - 1) &&& nI (df s (b1 l)))) ∧ (nI 0 = 0 → w_X10_fewestOf_37 Post (w_X10_fewestOf_9 Post 62 (nI i) k) 62 (nI i) (nI s) (nI (b1 l)) (nI (df s (b1 l))) N k1 x (-1))) 0 v s00 v1 v2 v3 ?_)
        intro v' w1 w2 w3
        refine bt' rfl ?_
        rw [e1]
        simp only [w_X10_fewestOf_37, forall_eq]
        refine bt (by decide) ⟨80, lr_62_23 hN.1, by rw [ln_80 hN.1]; exact vp_in_nI (by omega) (by decide), ?_⟩
        have A1 : A i (0 ||| b1 l) = true := by rw [Nat.zero_or]; exact ha l ln
        obtain ⟨m, -, hf, hm⟩ := hd _ rs
        have df0 : df (df s (b1 l)) 0 = df s (b1 l) := by
          apply Nat.eq_of_testBit_eq
          intro j
          rw [df_bit, Nat.zero_testBit]; simp
        have vm := w3 0 s00 (by omega) A1 m (by rw [df0]; exact hf.1)
        have hb2 := bc_16 s
        rw [nar_b _ (by omega), nI_clamp (by omega), nI_1]
        refine hk _ ⟨by omega, kp_sI kN (sc80 _), fun t ht => ?_⟩
        rw [mI_sI]
        by_cases z : t = s
        · subst z
          rw [if_pos ⟨rfl, rfl⟩]
          refine ⟨v', rfl, ⟨w2 (by omega), fun k2 hk2 hcv => ?_⟩, by omega⟩
          obtain ⟨k3, e3, b, b1', b2', b3', b4'⟩ := cv_low _ _ l hcv hb
          have sbq : sb (df b (b1 l)) (df t (b1 l)) := fun j hj => by
            rw [df_bit] at hj ⊢
            have := b1' j
            revert hj this
            cases b.testBit j <;> cases (b1 l).testBit j <;> simp
          have bq : df b (b1 l) ||| b1 l = b := by
            apply Nat.eq_of_testBit_eq
            intro j
            rw [Nat.testBit_or, df_bit]
            have := (sb_b1 (i := l) (s := b)).mpr b2' j
            revert this
            cases b.testBit j <;> cases (b1 l).testBit j <;> simp
          have := w3 _ sbq (by omega) (by rw [bq]; exact b3') k3 (by rw [← dfe _ sbq, bq]; exact b4')
          omega
        · rw [if_neg (by omega)]
          exact hd t (by omega)) _ (sb_rf _)
    exact ⟨kf, hkf 100 ⟨Nat.le_refl _, fun q => absurd q (by omega), fun q hq hlt => absurd (sb_le hq) (by omega)⟩⟩
  · intro k' N ⟨_, kN, hd⟩
    show w_X10_fewestOf_9 Post 62 (nI i) (k' + 1) (nI (2 ^ n)) N
    have hN := iv_kp h kN
    simp only [w_X10_fewestOf_9, hN.2.1.2.2.2.2.2.1]
    obtain ⟨m, e, hf, hm⟩ := hd (2 ^ n - 1) (by omega)
    refine bt (nI_lt (by omega) (by omega)) ⟨80, lr_62_23 hN.1, by rw [ln_80 hN.1]; exact vp_in_nI (by omega) (by decide), ?_⟩
    rw [nI_clamp (by omega), e]
    have : bc (2 ^ n - 1) ≤ n := bc_le_n (by omega)
    exact k m N hf (by omega) kN
  · have : t = 0 := by omega
    subst this
    rw [e3, mI_sI, if_pos ⟨rfl, rfl⟩, nar_0]
  · have : t = 0 := by omega
    subst this
    rfl
end
