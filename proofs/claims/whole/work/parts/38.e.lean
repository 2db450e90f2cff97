/-! a rule's table: the class -/
theorem rk_yes {A : Nat → Bool} (h0 : A 0 = true) {s : Nat} (h : A s = true) : rk A s = bc s := Nat.le_antisymm (rk_le h0) (rk_ge (sb_rf s) h)
theorem rk_not {A : Nat → Bool} (h0 : A 0 = true) {s : Nat} (h : A s = false) : ∃ i, s.testBit i = true ∧ rk A s = rk A (df s (b1 i)) := by
  obtain ⟨p, p1, p2, p3⟩ := rk_ex s h0
  have ne : ¬ sb s p := fun q => by
    have := sb_as p1 q
    rw [this, h] at p2; cases p2
  have : ∃ i, s.testBit i = true ∧ p.testBit i = false := by
    apply Classical.byContradiction
    intro q
    refine ne (fun i hi => ?_)
    cases z : p.testBit i
    · exact absurd ⟨i, hi, z⟩ q
    · rfl
  obtain ⟨i, i1, i2⟩ := this
  refine ⟨i, i1, Nat.le_antisymm ?_ (rk_mono h0 (sb_df _ _))⟩
  rw [← p3]
  refine rk_ge (fun j hj => ?_) p2
  rw [df_bit, p1 j hj, b1_bit]
  have : i ≠ j := fun z => by subst z; rw [i2] at hj; cases hj
  simp [this]
def prt (B : Nat → Bool) (s : Nat) : Prop := ∀ i, s.testBit i = true → B (df s (b1 i)) = true
/-- places that a question to a check may write at -/
def ft (a _k : Nat) : Prop := 29 ≤ a ∧ a < 42
def fit (v : Nat) (s : Int32) (M : pm_M) (K9 : Int32 → pm_M → Prop) : Prop := (mT M v = 0 → w_X0_fits v s M (fun r8 => K9 r8 M)) ∧ (mT M v = 1 → w_X2_fits v s M (fun r8 => K9 r8 M)) ∧ (mT M v = 2 → w_X3_fits v s M (fun r8 => K9 r8 M)) ∧ (mT M v = 6 → w_X7_fits v s M (fun r8 => K9 r8 M)) ∧ (mT M v = 7 → w_X8_fits v s M K9)
def fok (n : Nat) (B : Nat → Bool) (v : Nat) (W : Nat → Nat → Prop) (J : Nat → pm_M → Prop) (M0 : pm_M) : Prop :=
  J 1 M0 ∧ (∀ s M' M'', J s M' → (∀ a k, a < 83 → mI M'' a k = mI M' a k) → J s M'') ∧ (∀ s M', J s M' → ¬ prt B s → J (s + 1) M') ∧
  ∀ s M', kp W M0 M' → J s M' → 1 ≤ s → s < 2 ^ n → prt B s → ∀ K9 : Int32 → pm_M → Prop, (∀ M'', kp ft M' M'' → J (s + 1) M'' → K9 (bI (B s)) M'') → fit v (nI s) M' K9
theorem c_rank0 {M : pm_M} {q p s : Nat} (hq : mR M q 4 = some p) (hs : s < mN M p) (hN : mN M p ≤ 4096) {Post : Int32 → Prop} (k : Post (mI M p s)) : w_X5_rankOf q (nI s) M Post := by
  unfold w_X5_rankOf w_X5_rankOf_22 w_X5_rankOf_23
  refine bf (nI_pos (by omega)) ⟨p, hq, bf (nI_ge hs (by omega)) ⟨vp_in_nI hs (by omega), ?_⟩⟩
  rw [nI_clamp (by omega)]
  exact k
theorem nI_dbl {k : Nat} (h : k < 2 ^ 30) : nI k <<< ((1 : Int32) &&& 31) = nI (k * 2) := pk_shlN _ 1 (by decide) (by omega)
theorem b1_s (j : Nat) : b1 (j + 1) = b1 j * 2 := by
  unfold b1
  rw [Nat.shiftLeft_eq, Nat.shiftLeft_eq, Nat.pow_succ]
  omega
theorem b1_e (j : Nat) : b1 j = 2 ^ j := by unfold b1; rw [Nat.shiftLeft_eq, Nat.one_mul]
theorem c_rbp {M : pm_M} {q p v n s : Nat} {B : Nat → Bool} {W : Nat → Nat → Prop} {J : Nat → pm_M → Prop} {M0 : pm_M} (hn : n ≤ 12) (hm : mat n B) (hf : fok n B v W J M0) (hk : kp W M0 M) (hJ : J s M) (hq : mR M q 4 = some p) (hN : mN M p ≤ 4096) (hs : s < 2 ^ n) (s1 : 1 ≤ s) (sN : s < mN M p) (hr : ∀ t, t < s → mI M p t = nI (rk B t)) {Post : Int32 → pm_M → Prop} (kk : ∀ M'', kp ft M M'' → J (s + 1) M'' → Post (nI (rk B s)) M'') : w_X5_rankByParts q (nI s) v M Post := by
  have hp := p2_le hn
  have h0 := hm.1
  have b16 := bc_16 s
  have sub : ∀ i, s.testBit i = true → bc (df s (b1 i)) + 1 = bc s := fun i hi => bc_sub (by have := bit_lt hs hi; omega) hi
  have rks : ∀ i, s.testBit i = true → rk B (df s (b1 i)) + 1 ≤ bc s := fun i hi => by
    have := rk_le (s := df s (b1 i)) h0
    have := sub i hi
    omega
  have rkm : ∀ i, rk B (df s (b1 i)) ≤ rk B s := fun i => rk_mono h0 (sb_df _ _)
  have rkb := rk_le (s := s) h0
  have iff1 : ∀ i, s.testBit i = true → (B (df s (b1 i)) = true ↔ rk B (df s (b1 i)) + 1 = bc s) := fun i hi => by
    have e := sub i hi
    rw [rk_iff (by omega) h0 (Nat.lt_trans (df_lt hi) hs)]
    omega
  unfold w_X5_rankByParts
  refine w_bc (by omega) ⟨_, lp (fun k' (t : Nat × Nat) j => w_X5_rankByParts_14 Post q (nI s) v (nI (bc s)) M k' (nI t.1) (nI t.2) (nI j)) 12 (fun j t => (t.1 ≤ rk B s ∧ ∀ i, i < j → s.testBit i = true → rk B (df s (b1 i)) ≤ t.1) ∧ t.2 ≤ bc s ∧ (∀ i, i < j → s.testBit i = true → t.2 ≤ rk B (df s (b1 i))) ∧ (t.2 = bc s ∨ ∃ i, i < j ∧ s.testBit i = true ∧ t.2 = rk B (df s (b1 i)))) ?_ ?_ 0 (0, bc s) (Nat.zero_le _) ⟨⟨Nat.zero_le _, fun i hi => absurd hi (Nat.not_lt_zero i)⟩, Nat.le_refl _, fun i hi => absurd hi (Nat.not_lt_zero i), Or.inl rfl⟩⟩
  · rintro k' j ⟨x, y⟩ hj ⟨⟨a1, a2⟩, a3, a4, a5⟩ hk'
    have a1' : x ≤ rk B s := a1
    have a2' : ∀ i, i < j → s.testBit i = true → rk B (df s (b1 i)) ≤ x := a2
    have a3' : y ≤ bc s := a3
    have a4' : ∀ i, i < j → s.testBit i = true → y ≤ rk B (df s (b1 i)) := a4
    have a5' : y = bc s ∨ ∃ i, i < j ∧ s.testBit i = true ∧ y = rk B (df s (b1 i)) := a5
    show w_X5_rankByParts_14 Post q (nI s) v (nI (bc s)) M (k' + 1) (nI x) (nI y) (nI j)
    simp only [w_X5_rankByParts_14, w_X5_rankByParts_62, forall_eq, nI_1, nI_b1 j (show j < 31 by omega), nI_inv]
    refine bf (nI_ge (b := 12) (by omega) (by decide)) ?_
    rw [nI_bit (by omega) (by omega)]
    cases e : s.testBit j with
    | false =>
      refine bt (by decide) (hk' (x, y) ⟨⟨a1', fun i hi hb => ?_⟩, a3', fun i hi hb => ?_, ?_⟩)
      · by_cases z : i = j
        · subst z; rw [e] at hb; cases hb
        · exact a2' i (by omega) hb
      · by_cases z : i = j
        · subst z; rw [e] at hb; cases hb
        · exact a4' i (by omega) hb
      · rcases a5' with z | ⟨i, i1, i2, i3⟩
        · exact Or.inl z
        · exact Or.inr ⟨i, by omega, i2, i3⟩
    | true =>
      have lt := df_lt e
      refine bf (by decide) (c_rank0 hq (by omega) hN ?_)
      rw [hr _ lt]
      have k1 := rks j e
      refine w_max (by omega) (by omega) (w_min (by omega) (by omega) ?_)
      refine hk' (max x (rk B (df s (b1 j))), min y (rk B (df s (b1 j)))) ⟨⟨?_, fun i hi hb => ?_⟩, ?_, fun i hi hb => ?_, ?_⟩
      · show max x (rk B (df s (b1 j))) ≤ rk B s
        have := rkm j
        omega
      · show rk B (df s (b1 i)) ≤ max x (rk B (df s (b1 j)))
        by_cases z : i = j
        · subst z; exact Nat.le_max_right _ _
        · exact Nat.le_trans (a2' i (by omega) hb) (Nat.le_max_left _ _)
      · show min y (rk B (df s (b1 j))) ≤ bc s
        omega
      · show min y (rk B (df s (b1 j))) ≤ rk B (df s (b1 i))
        by_cases z : i = j
        · subst z; exact Nat.min_le_right _ _
        · exact Nat.le_trans (Nat.min_le_left _ _) (a4' i (by omega) hb)
      · show min y (rk B (df s (b1 j))) = bc s ∨ ∃ i, i < j + 1 ∧ s.testBit i = true ∧ min y (rk B (df s (b1 j))) = rk B (df s (b1 i))
        by_cases z : y ≤ rk B (df s (b1 j))
        · rw [Nat.min_eq_left z]
          rcases a5' with z | ⟨i, i1, i2, i3⟩
          · exact Or.inl z
          · exact Or.inr ⟨i, by omega, i2, i3⟩
        · exact Or.inr ⟨j, by omega, e, Nat.min_eq_right (by omega)⟩
  · rintro k' ⟨x, y⟩ ⟨⟨a1, a2⟩, a3, a4, a5⟩
    have a1' : x ≤ rk B s := a1
    have a2' : ∀ i, i < 12 → s.testBit i = true → rk B (df s (b1 i)) ≤ x := a2
    have a4' : ∀ i, i < 12 → s.testBit i = true → y ≤ rk B (df s (b1 i)) := a4
    have a5' : y = bc s ∨ ∃ i, i < 12 ∧ s.testBit i = true ∧ y = rk B (df s (b1 i)) := a5
    show w_X5_rankByParts_14 Post q (nI s) v (nI (bc s)) M (k' + 1) (nI x) (nI y) (nI 12)
    have bN : ∀ i, s.testBit i = true → i < 12 := fun i hi => by have := bit_lt hs hi; omega
    obtain ⟨i0, hi0⟩ := bits_ex (show s ≠ 0 by omega)
    have r0 := rks i0 hi0
    have y0 := a4' i0 (bN i0 hi0) hi0
    have xe : B s = false → x = rk B s := fun e => by
      obtain ⟨i, i1, i2⟩ := rk_not h0 e
      have := a2' i (bN i i1) i1
      omega
    simp only [w_X5_rankByParts_14, w_X5_rankByParts_90, w_X5_rankByParts_92]
    refine bt (nI_le (b := 12) (Nat.le_refl _) (by decide)) ?_
    rw [nI_sub1 (by omega), nI_eq (by omega) (by omega)]
    by_cases ye : y = bc s - 1
    · refine bt' ye ?_
      have pt : prt B s := fun i hi => by
        rw [iff1 i hi]
        have := a4' i (bN i hi) hi
        have := rks i hi
        omega
      refine hf.2.2.2 s M hk hJ s1 hs pt (fun r_4 M_3 => (r_4 = 0 → Post (nI x) M_3) ∧ (¬ r_4 = 0 → Post (nI (bc s)) M_3)) (fun M'' k'' j'' => ?_)
      refine b0 (fun e => ?_) (fun e => ?_)
      · have := kk M'' k'' j''
        rw [rk_yes h0 e] at this
        exact this
      · rw [xe e]; exact kk M'' k'' j''
    · refine bf' ye ?_
      rcases a5' with z | ⟨i, i1, i2, i3⟩
      · omega
      · have np : ¬ prt B s := fun q => by
          have := (iff1 i i2).mp (q i i2)
          omega
        have e : B s = false := by
          cases z : B s with
          | false => rfl
          | true => exact absurd (fun i hi => hm.2.1 _ _ hs (sb_df _ _) z) np
        rw [xe e]
        exact kk M (kp_rf _ _) (hf.2.2.1 s M hJ np)
theorem kp_new {W : Nat → Nat → Prop} {M M' : pm_M} (h : kp (fun a k => W a k ∨ mZ M ≤ a) M M') : kp W M M' := ⟨h.1, h.2.1, fun a k ha hn => h.2.2 a k ha (fun q => q.elim hn (fun z => by omega))⟩
theorem c_fill18 {M : pm_M} {q p v n : Nat} {B : Nat → Bool} {W : Nat → Nat → Prop} {J : Nat → pm_M → Prop} {M0 : pm_M} (hn : n ≤ 12) (hm : mat n B) (hf : fok n B v W J M0) (hk : kp W M0 M) (hJ : J 1 M) (hft : ∀ a k, ft a k → W a k) (hWp : ∀ k, W p k) (q83 : 83 ≤ q) (p83 : 83 ≤ p) (qp : q ≠ p) (qz : q < mZ M) (pz : p < mZ M) (hq : mR M q 4 = some p) (hN : mN M p ≤ 4096) (hN2 : 2 ^ n ≤ mN M p) {Post : pm_M → Prop} (kk : ∀ M', kp W M0 M' → mZ M ≤ mZ M' → mT M' p = mT M p → mT M' q = mT M q → mN M' p = mN M p → mR M' q 4 = some p → (∀ s, s < 2 ^ n → mI M' p s = nI (rk B s)) → (∀ j, mI M' q j = mI M q j) → Post M') : w_X5_fill_18 Post q (nI (2 ^ n - 1)) v M := by
  have hp := p2_le hn
  have h0 := Nat.two_pow_pos n
  unfold w_X5_fill_18
  refine ⟨p, hq, vp_in_nI (n := 0) (by omega) (by omega), ?_⟩
  rw [nar_0]
  intro M3 e3
  have k3 : kp (fun a _ => a = p ∨ ft a 0) M M3 := by rw [e3]; exact kp_sI (kp_rf _ _) (Or.inl rfl)
  have J3 : J 1 M3 := hf.2.1 1 M M3 hJ (fun a k ha => by rw [e3, mI_sI, if_neg (by omega)])
  refine ⟨_, lp (fun k' (N : pm_M) s => w_X5_fill_27 Post q (nI (2 ^ n - 1)) v k' (nI s) N) (2 ^ n) (fun s N => 1 ≤ s ∧ kp (fun a _ => a = p ∨ ft a 0) M N ∧ J s N ∧ ∀ t, t < s → mI N p t = nI (rk B t)) ?_ ?_ 1 M3 (by omega) ⟨Nat.le_refl 1, k3, J3, fun t ht => ?_⟩⟩
  · intro k' s N hs ⟨s1, kN, hJN, hr⟩ hk'
    show w_X5_fill_27 Post q (nI (2 ^ n - 1)) v (k' + 1) (nI s) N
    have qr : mR N q 4 = some p := by rw [(kN.2.2 q 4 qz (by unfold ft; omega)).2.2]; exact hq
    have nN : mN N p = mN M p := (kN.2.1 p pz).2
    have kW : kp W M0 N := kp_tr hk (kp_mono kN (fun a k z => z.elim (fun z => z ▸ hWp k) (fun z => hft a k z)))
    simp only [w_X5_fill_27, forall_eq, nI_1]
    refine bf (nI_nlt (by omega) (by omega)) ⟨p, qr, ?_⟩
    rw [nN]
    refine bf (nI_ge (by omega) (by omega)) (c_rbp hn hm hf kW hJN qr (by omega) hs s1 (by omega) hr (fun M'' k'' j'' => ?_))
    have z1 := kN.1
    have e2 : mN M'' p = mN M p := ((k''.2.1 p (by omega)).2).trans nN
    have rs := rk_le (s := s) hm.1
    have b16 := bc_16 s
    refine ⟨by rw [e2]; exact vp_in_nI (by omega) (by omega), ?_⟩
    rw [nI_clamp (by omega), nar_b _ (by omega)]
    refine hk' _ ⟨by omega, kp_sI (kp_tr kN (kp_mono k'' (fun a k z => Or.inr z))) (Or.inl rfl), hf.2.1 _ _ _ j'' (fun a k ha => by rw [mI_sI, if_neg (by omega)]), fun t ht => ?_⟩
    rw [mI_sI]
    by_cases z : t = s
    · subst z; rw [if_pos ⟨rfl, rfl⟩]
    · rw [if_neg (by omega), (k''.2.2 p t (by omega) (by unfold ft; omega)).1]
      exact hr t (by omega)
  · intro k' N ⟨_, kN, hJN, hr⟩
    show w_X5_fill_27 Post q (nI (2 ^ n - 1)) v (k' + 1) (nI (2 ^ n)) N
    simp only [w_X5_fill_27, w_X5_fill_60]
    refine bt (nI_lt (by omega) (by omega)) (kk N (kp_tr hk (kp_mono kN (fun a k z => z.elim (fun z => z ▸ hWp k) (fun z => hft a k z)))) kN.1 (kN.2.1 p pz).1 (kN.2.1 q qz).1 (kN.2.1 p pz).2 ?_ hr (fun j => (kN.2.2 q j qz (by unfold ft; omega)).1))
    rw [(kN.2.2 q 4 qz (by unfold ft; omega)).2.2]; exact hq
  · have : t = 0 := by omega
    subst this
    rw [e3, mI_sI, if_pos ⟨rfl, rfl⟩, rk_0 hm.1]
theorem c_fill {M : pm_M} {q p v n : Nat} {B : Nat → Bool} {W : Nat → Nat → Prop} {J : Nat → pm_M → Prop} (hn : n ≤ 12) (hm : mat n B) (hf : fok n B v W J M) (hft : ∀ a k, ft a k → W a k) (hWq : W q 4) (hWp : ∀ k, W p k) (q83 : 83 ≤ q) (p83 : 83 ≤ p) (qp : q ≠ p) (qz : q < mZ M) (pz : p < mZ M) (hq : mR M q 4 = some p) (hN : mN M p ≤ 4096) (hT : mT M p = 10) {Post : pm_M → Prop} (kk : ∀ M' p', (p' = p ∨ p' = mZ M) → kp W M M' → p' < mZ M' → mT M' p' = 10 → mT M' q = mT M q → 2 ^ n ≤ mN M' p' → mN M' p' ≤ 4096 → mR M' q 4 = some p' → (∀ s, s < 2 ^ n → mI M' p' s = nI (rk B s)) → (∀ j, mI M' q j = mI M q j) → Post M') : w_X5_fill q (nI (2 ^ n - 1)) v M Post := by
  have hp := p2_le hn
  have h0 := Nat.two_pow_pos n
  unfold w_X5_fill
  refine ⟨p, hq, ?_⟩
  by_cases c : 2 ^ n - 1 < mN M p
  · refine bt (nI_lt c (by omega)) (c_fill18 hn hm hf (kp_rf _ _) hf.1 hft hWp q83 p83 qp qz pz hq hN (by omega) (fun M' k1 k2 k3 k4 k5 k6 k7 k8 => ?_))
    exact kk M' p (Or.inl rfl) k1 (by omega) (by rw [k3]; exact hT) k4 (by omega) (by omega) k6 k7 k8
  · rw [nI_ltI (by omega) (by omega)]
    refine bf c ?_
    rw [nI_1, show 2 ^ n - 1 + 1 = 2 ^ n by omega, nI_clamp (by omega)]
    refine ⟨⟨nI_pos (by omega), by omega⟩, fun M3 e3 M6 e6 => ?_⟩
    have zM : mZ M6 = mZ M + 1 := by rw [e6, mZ_sR, e3, mZ_sN]
    have f2 : fok n B v (fun a k => W a k ∨ mZ M ≤ a) J M := ⟨hf.1, hf.2.1, hf.2.2.1, fun s M' hk => hf.2.2.2 s M' (kp_new hk)⟩
    have k6 : kp (fun a k => W a k ∨ mZ M ≤ a) M M6 := by rw [e6, e3]; exact kp_sR (kp_sN (kp_rf _ _)) (Or.inl hWq)
    have J6 : J 1 M6 := hf.2.1 1 M M6 hf.1 (fun a k ha => by rw [e6, mI_sR, e3, mI_sN, if_neg (by omega)])
    refine c_fill18 (p := mZ M) hn hm f2 k6 J6 (fun a k z => Or.inl (hft a k z)) (fun k => Or.inr (Nat.le_refl _)) q83 (by omega) (by omega) (by omega) (by omega) ?_ ?_ ?_ (fun M' k1 k2 k3 k4 k5 k6 k7 k8 => ?_)
    · rw [e6, mR_sR, if_pos ⟨rfl, rfl⟩]
    · rw [e6, mN_sR, e3, mN_sN, if_pos rfl]; omega
    · rw [e6, mN_sR, e3, mN_sN, if_pos rfl]; exact Nat.le_refl _
    · have e4 : mN M6 (mZ M) = 2 ^ n := by rw [e6, mN_sR, e3, mN_sN, if_pos rfl]
      refine kk M' (mZ M) (Or.inr rfl) (kp_new k1) (by omega) ?_ ?_ (by omega) (by omega) k6 k7 (fun j => ?_)
      · rw [k3, e6, mT_sR, e3, mT_sN, if_pos rfl]
      · rw [k4, e6, mT_sR, e3, mT_sN, if_neg (by omega)]
      · rw [k8 j, e6, mI_sR, e3, mI_sN, if_neg (by omega)]
