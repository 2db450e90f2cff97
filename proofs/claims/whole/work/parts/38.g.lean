/-! the model's own state; a rule's table: the model -/
def im (M : pm_M) (n r : Nat) (A : Nat → Nat → Bool) : Prop := lay M ∧ (1 ≤ n ∧ n ≤ 12 ∧ r ≤ 24) ∧ mI M 62 0 = nI n ∧ mI M 62 1 = nI (2 ^ n - 1) ∧ mI M 62 3 = nI r ∧ ∀ i, i < r → mat n (A i) ∧ ∀ s, s < 2 ^ n → mI M 64 (4096 * i + s) = bI (A i s) ∧ mI M 65 (4096 * i + s) = nI (rk (A i) s)
theorem im_iv {M : pm_M} {n r : Nat} {w : Nat → Nat} {A : Nat → Nat → Bool} {c : Nat} {Q P : Nat → Nat} (h : iv M n r w A c Q P) : im M n r A := ⟨h.1, h.2.1.1, h.2.1.2.2.2.2.1, h.2.1.2.2.2.2.2.1, h.2.1.2.2.2.2.2.2, fun i hi => ⟨(h.2.2.2.2.2.2.2 i hi).1, fun s hs => ((h.2.2.2.2.2.2.2 i hi).2.2.1 s hs).2⟩⟩
theorem im_kp {T : Nat → Nat → Prop} {M M' : pm_M} {n r : Nat} {A : Nat → Nat → Bool} (h : im M n r A) (hk : kp T M M') (h0 : ∀ a k, T a k → a < 83 → sr a k = none) (h1 : ∀ k, k < 4 → ¬ T 62 k) (h2 : ∀ a k, (a = 64 ∨ a = 65) → k < 4096 * r → ¬ T a k) : im M' n r A := by
  obtain ⟨a1, a2, a3, a4, a5, a6⟩ := h
  have z := a1.1
  have hp := p2_le a2.2.1
  have eI : ∀ a k, a < mZ M → ¬ T a k → mI M' a k = mI M a k := fun a k ha hn => (hk.2.2 a k ha hn).1
  refine ⟨lay_kp a1 hk h0, a2, ?_, ?_, ?_, fun i hi => ⟨(a6 i hi).1, fun s hs => ⟨?_, ?_⟩⟩⟩
  · rw [eI 62 0 (by omega) (h1 _ (by decide))]; exact a3
  · rw [eI 62 1 (by omega) (h1 _ (by decide))]; exact a4
  · rw [eI 62 3 (by omega) (h1 _ (by decide))]; exact a5
  · rw [eI 64 _ (by omega) (h2 _ _ (Or.inl rfl) (by omega))]; exact ((a6 i hi).2 s hs).1
  · rw [eI 65 _ (by omega) (h2 _ _ (Or.inr rfl) (by omega))]; exact ((a6 i hi).2 s hs).2
theorem im_cad {M M1 : pm_M} {n r : Nat} {w : Nat → Nat} {A : Nat → Nat → Bool} {c : Nat} {Q P : Nat → Nat} {B : Nat → Bool} {kd f s d : Int32} (h : iv M n r w A c Q P) (hc : cad M M1 n r c Q P B kd f s d) : im M1 n r A := by
  obtain ⟨q, p0, p, kC, hne, hp0, c2, c4, hq, hr⟩ := hc
  have nc : ∀ a k, 62 ≤ a → a < 83 → ¬ cap r q p0 a k := fun a k h1 h2 => by unfold cap ft; omega
  refine im_kp (im_iv h) kC (fun a k z ha => ?_) (fun k _ => nc 62 k (by decide) (by decide)) (fun a k ha _ => nc a k (by omega) (by omega))
  rcases z with z | z | z | z | z
  · omega
  · omega
  · rw [z.1]; rfl
  · rw [z.1, z.2]; rfl
  · exact scr_sr (r := r) (ft_scr z)
def tb (r a k : Nat) : Prop := a = 64 ∧ 4096 * r ≤ k
theorem tb_mad {r a k : Nat} (h : tb r a k) : mad r a k := Or.inr (Or.inr (Or.inl ⟨Or.inl h.1, h.2⟩))
theorem im_tb {M M' : pm_M} {n r : Nat} {A : Nat → Nat → Bool} (h : im M n r A) (hk : kp (tb r) M M') : im M' n r A :=
  im_kp h hk (fun _ _ z _ => mad_sr (tb_mad z)) (fun k _ => by unfold tb; omega) (fun a k ha hk' => by unfold tb; omega)
section
variable {M : pm_M} {n r : Nat} {A : Nat → Nat → Bool}
theorem mm_all (h : im M n r A) {i s : Nat} (hi : i < r) (hs : s < 2 ^ n) {Post : Int32 → Prop} (k : Post (bI (A i s))) : w_X10_isAllowed 62 (nI i) (nI s) M Post := by
  have hp := p2_le h.2.1.2.1
  have := h.2.1.2.2
  exact m_all0 h.1 (by omega) (by omega) ((h.2.2.2.2.2 i hi).2 s hs).1 k
theorem mm_rnk (h : im M n r A) {i s : Nat} (hi : i < r) (hs : s < 2 ^ n) {Post : Int32 → Prop} (k : Post (nI (rk (A i) s))) : w_X10_rankOf 62 (nI i) (nI s) M Post := by
  have hp := p2_le h.2.1.2.1
  have := h.2.1.2.2
  refine m_rnk0 h.1 (by omega) (by omega) ?_
  rw [((h.2.2.2.2.2 i hi).2 s hs).2]
  exact k
theorem mm_sm (h : im M n r A) {i s : Nat} (hi : i < r) : rk (A i) s ≤ 16 := Nat.le_trans (rk_le (h.2.2.2.2.2 i hi).1.1) (bc_16 s)
theorem mm_isRule (h : im M n r A) {i : Nat} (hi : i < r) {Post : Int32 → Prop} (k : Post 1) : w_X10_isRule 62 (nI i) M Post := by
  have := h.2.1.2.2
  unfold w_X10_isRule w_X10_isRule_16 w_X10_isRule_17
  rw [h.2.2.2.2.1]
  exact bf (nI_pos (by omega)) (bf (nI_ge hi (by omega)) ⟨Or.inr rfl, k⟩)
theorem mm_isSet (h : im M n r A) {s : Nat} (hs : s < 2 ^ n) {Post : Int32 → Prop} (k : Post 1) : w_X10_isSet 62 (nI s) M Post := by
  have hp := p2_le h.2.1.2.1
  unfold w_X10_isSet w_X10_isSet_16 w_X10_isSet_17
  rw [h.2.2.2.1]
  exact bf (nI_pos (by omega)) (bf (nI_nlt (by omega) (by omega)) ⟨Or.inr rfl, k⟩)
theorem m_tab (h : im M n r A) (hr : r < 24) {s : Nat} (hs : s < 2 ^ n) {b : Bool} {Post : pm_M → Prop} (k : Post (sI M 64 (4096 * r + s) (bI b))) : w_X10_table 62 (nI s) (bI b) M Post := by
  have hp := p2_le h.2.1.2.1
  unfold w_X10_table
  rw [h.2.2.2.2.1, ix_4096, nI_clamp (by omega), nar_bI]
  refine ⟨64, lr_62_4 h.1, by rw [ln_64 h.1]; exact vp_in_nI (by omega) (by decide), fun M3 e3 => by rw [e3]; exact k⟩
theorem m_allow (h : im M n r A) (hr : r < 24) {s : Nat} (hs : s < 2 ^ n) {Post : pm_M → Prop} (k : Post (sI M 64 (4096 * r + s) (bI true))) : w_X10_allow 62 (nI s) M Post := by
  have hp := p2_le h.2.1.2.1
  unfold w_X10_allow
  rw [h.2.2.2.2.1, ix_4096, nI_clamp (by omega), nar_t]
  refine ⟨64, lr_62_4 h.1, by rw [ln_64 h.1]; exact vp_in_nI (by omega) (by decide), fun M3 e3 => by rw [e3]; exact k⟩
def mdd (r a k : Nat) : Prop := (a = 65 ∧ 4096 * r ≤ k)
theorem mdd_mad {r a k : Nat} (h : mdd r a k) : mad r a k := Or.inr (Or.inr (Or.inl ⟨Or.inr h.1, h.2⟩))
theorem m_made {B : Nat → Bool} (h : im M n r A) (hr : r < 24) (h0 : B 0 = true) (hA : ∀ s, s < 2 ^ n → mI M 64 (4096 * r + s) = bI (B s)) {kd f s0 d : Int32} {Post : Int32 → pm_M → Prop} (kk : ∀ M', kp (mad r) M M' → (∀ s, s < 2 ^ n → mI M' 64 (4096 * r + s) = bI (B s) ∧ mI M' 65 (4096 * r + s) = nI (rk B s)) → mI M' 66 r = kd → mI M' 67 r = f → mI M' 68 r = s0 → mI M' 69 r = d → mI M' 62 3 = nI (r + 1) → Post (nI r) M') : w_X10_made 62 kd f s0 d M Post := by
  have hp := p2_le h.2.1.2.1
  have hn := h.2.1
  have hz := h.1.1
  have h2 := Nat.two_pow_pos n
  unfold w_X10_made
  rw [h.2.2.2.2.1]
  intro x1 e1
  subst e1
  have imd : ∀ N, kp (mdd r) M N → im N n r A := fun N kN => im_kp h kN (fun _ _ z _ => mad_sr (mdd_mad z)) (fun k _ => by unfold mdd; omega) (fun a k ha hk' => by unfold mdd; omega)
  refine ⟨_, lp (fun k' (N : pm_M) s => w_X10_made_9 Post 62 kd f s0 d (nI r) k' (nI s) N) (2 ^ n) (fun s N => kp (mdd r) M N ∧ ∀ t, t < s → mI N 65 (4096 * r + t) = nI (rk B t)) ?_ ?_ 0 M (Nat.zero_le _) ⟨kp_rf _ _, fun t ht => absurd ht (Nat.not_lt_zero t)⟩⟩
  · intro k' s N hs ⟨kN, hN⟩ hk'
    show w_X10_made_9 Post 62 kd f s0 d (nI r) (k' + 1) (nI s) N
    have iN := imd N kN
    have rs := rk_le (s := s) h0
    have b16 := bc_16 s
    have eA : mI N 64 (4096 * r + s) = bI (B s) := by rw [(kN.2.2 64 _ (by omega) (by unfold mdd; omega)).1]; exact hA s hs
    simp only [w_X10_made_9, w_X10_made_38, iN.2.2.2.1]
    refine bf (nI_nlt (by omega) (by omega)) (m_all0 iN.1 hr (by omega) eA ?_)
    have loop : ∀ v0 : Nat, (B s = true → v0 = bc s) → (B s = false → v0 = 0) → ∃ n_3 : Nat, w_X10_made_43 Post (w_X10_made_9 Post 62 kd f s0 d (nI r) k') 62 kd f s0 d (nI r) (nI s) N n_3 (nI v0) 0 := by
      intro v0 g1 g2
      have vs : v0 ≤ rk B s := by
        cases e : B s with
        | true => rw [g1 e, rk_yes h0 e]; exact Nat.le_refl _
        | false => rw [g2 e]; exact Nat.zero_le _
      refine ⟨_, lp (fun k2 (v : Nat) j => w_X10_made_43 Post (w_X10_made_9 Post 62 kd f s0 d (nI r) k') 62 kd f s0 d (nI r) (nI s) N k2 (nI v) (nI j)) n (fun j v => v0 ≤ v ∧ v ≤ rk B s ∧ ∀ i, i < j → s.testBit i = true → rk B (df s (b1 i)) ≤ v) ?_ ?_ 0 v0 (Nat.zero_le _) ⟨Nat.le_refl _, vs, fun i hi => absurd hi (Nat.not_lt_zero i)⟩⟩
      · intro k2 j v hj ⟨v1, v2, v3⟩ hk2
        show w_X10_made_43 Post (w_X10_made_9 Post 62 kd f s0 d (nI r) k') 62 kd f s0 d (nI r) (nI s) N (k2 + 1) (nI v) (nI j)
        simp only [w_X10_made_43, w_X10_made_85, iN.2.2.1, nI_bit (show s < 2 ^ 31 by omega) (show j < 31 by omega), nI_b1 j (show j < 31 by omega), nI_inv, nI_1, forall_eq]
        refine bf (nI_ge hj (by omega)) (b1' (fun e => ?_) (fun e => ?_))
        · have lt := df_lt e
          refine m_rnk0 iN.1 hr (by omega) ?_
          rw [hN _ lt]
          have m := rk_mono h0 (sb_df s (b1 j))
          refine w_max (by omega) (by omega) (hk2 _ ⟨by omega, by omega, fun i hi hb => ?_⟩)
          by_cases z : i = j
          · subst z; exact Nat.le_max_right _ _
          · exact Nat.le_trans (v3 i (by omega) hb) (Nat.le_max_left _ _)
        · refine hk2 v ⟨v1, v2, fun i hi hb => ?_⟩
          by_cases z : i = j
          · subst z; rw [e] at hb; cases hb
          · exact v3 i (by omega) hb
      · intro k2 v ⟨v1, v2, v3⟩
        show w_X10_made_43 Post (w_X10_made_9 Post 62 kd f s0 d (nI r) k') 62 kd f s0 d (nI r) (nI s) N (k2 + 1) (nI v) (nI n)
        have ve : v = rk B s := by
          cases e : B s with
          | true =>
            have := g1 e
            have := rk_yes h0 e
            omega
          | false =>
            obtain ⟨i, i1, i2⟩ := rk_not h0 e
            have := v3 i (bit_lt hs i1) i1
            omega
        simp only [w_X10_made_43, iN.2.2.1, ix_4096, nI_1, forall_eq]
        refine bt (nI_le (Nat.le_refl _) (by omega)) ⟨65, lr_62_5 iN.1, by rw [ln_65 iN.1]; exact vp_in_nI (by omega) (by decide), ?_⟩
        rw [nI_clamp (by omega), nar_b _ (by omega)]
        refine hk' _ ⟨kp_sI kN (by unfold mdd; omega), fun t ht => ?_⟩
        rw [mI_sI]
        by_cases z : t = s
        · subst z; rw [if_pos ⟨rfl, rfl⟩, ve]
        · rw [if_neg (by omega)]; exact hN t (by omega)
    refine b0 (fun e => ?_) (fun e => loop 0 (fun q => by rw [e] at q; cases q) (fun _ => rfl))
    exact m_bits (by omega) (loop (bc s) (fun _ => rfl) (fun q => by rw [e] at q; cases q))
  · intro k' N ⟨kN, hN⟩
    show w_X10_made_9 Post 62 kd f s0 d (nI r) (k' + 1) (nI (2 ^ n)) N
    have iN := imd N kN
    simp only [w_X10_made_9, iN.2.2.2.1]
    refine bt (nI_lt (by omega) (by omega)) ?_
    have mq : ∀ a, 66 ≤ a → a < 70 → mad r a r := fun a h1 h2 => Or.inr (Or.inl ⟨h1, h2, rfl⟩)
    have v24 : ∀ N' a, mN N' a = 24 → vp_in (nI r) (mN N' a) := fun N' a e => by rw [e]; exact vp_in_nI hr (by decide)
    have kN0 : kp (mad r) M N := kp_mono kN (fun _ _ => mdd_mad)
    rw [nI_clamp (show r < 2 ^ 31 by omega)]
    have lk : ∀ N', kp (mad r) M N' → lay N' := fun N' k => lay_kp h.1 k (fun _ _ z _ => mad_sr z)
    refine ⟨66, lr_62_6 iN.1, v24 _ _ (ln_66 iN.1), fun M4 e4 => ?_⟩
    have k4 : kp (mad r) M M4 := by rw [e4]; exact kp_sI kN0 (mq 66 (by decide) (by decide))
    refine ⟨67, lr_62_7 (lk _ k4), v24 _ _ (ln_67 (lk _ k4)), fun M7 e7 => ?_⟩
    have k7 : kp (mad r) M M7 := by rw [e7]; exact kp_sI k4 (mq 67 (by decide) (by decide))
    refine ⟨68, lr_62_8 (lk _ k7), v24 _ _ (ln_68 (lk _ k7)), fun M10 e10 => ?_⟩
    have k10 : kp (mad r) M M10 := by rw [e10]; exact kp_sI k7 (mq 68 (by decide) (by decide))
    refine ⟨69, lr_62_9 (lk _ k10), v24 _ _ (ln_69 (lk _ k10)), fun M13 e13 => ?_⟩
    have k13 : kp (mad r) M M13 := by rw [e13]; exact kp_sI k10 (mq 69 (by decide) (by decide))
    intro M14 e14
    have k14 : kp (mad r) M M14 := by rw [e14]; exact kp_sI k13 (Or.inl ⟨rfl, Or.inl rfl⟩)
    have at13 : ∀ a k, a ≠ 66 → a ≠ 67 → a ≠ 68 → a ≠ 69 → mI M13 a k = mI N a k := fun a k x1 x2 x3 x4 => by
      rw [e13, mI_sI, if_neg (by omega), e10, mI_sI, if_neg (by omega), e7, mI_sI, if_neg (by omega), e4, mI_sI, if_neg (by omega)]
    refine kk M14 k14 (fun s hs => ⟨?_, ?_⟩) ?_ ?_ ?_ ?_ ?_
    · rw [e14, mI_sI, if_neg (by omega), at13 64 _ (by decide) (by decide) (by decide) (by decide), (kN.2.2 64 _ (by omega) (by unfold mdd; omega)).1]
      exact hA s hs
    · rw [e14, mI_sI, if_neg (by omega), at13 65 _ (by decide) (by decide) (by decide) (by decide)]
      exact hN s hs
    · rw [e14, mI_sI, if_neg (by omega), e13, mI_sI, if_neg (by omega), e10, mI_sI, if_neg (by omega), e7, mI_sI, if_neg (by omega), e4, mI_sI, if_pos ⟨rfl, rfl⟩]
    · rw [e14, mI_sI, if_neg (by omega), e13, mI_sI, if_neg (by omega), e10, mI_sI, if_neg (by omega), e7, mI_sI, if_pos ⟨rfl, rfl⟩]
    · rw [e14, mI_sI, if_neg (by omega), e13, mI_sI, if_neg (by omega), e10, mI_sI, if_pos ⟨rfl, rfl⟩]
    · rw [e14, mI_sI, if_neg (by omega), e13, mI_sI, if_pos ⟨rfl, rfl⟩]
    · rw [e14, mI_sI, if_pos ⟨rfl, rfl⟩, at13 62 3 (by decide) (by decide) (by decide) (by decide), iN.2.2.2.2.1, nI_1]
end
