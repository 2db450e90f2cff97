/-! the small methods -/
theorem nI_bit {k i : Nat} (hk : k < 2 ^ 31) (hi : i < 31) : (nI k >>> (nI i &&& 31)) &&& 1 = bI (k.testBit i) := by
  rw [nI_bitN hk hi]
  cases k.testBit i <;> rfl
theorem b1' {b : Bool} {A B : Prop} (h1 : b = true → A) (h2 : b = false → B) : (¬ bI b = 1 → B) ∧ (bI b = 1 → A) :=
  ⟨fun h => h2 (by cases b with | true => exact absurd rfl h | false => rfl), fun h => h1 ((bI_1 b).mp h)⟩
theorem b1s {b : Bool} {A B : Prop} (h1 : b = true → A) (h2 : b = false → B) : (bI b = 1 → A) ∧ (¬ bI b = 1 → B) := sw (b1' h1 h2)
theorem nI_sub1 {n : Nat} (h : 1 ≤ n) : nI n - 1 = nI (n - 1) := by
  obtain ⟨m, rfl⟩ : ∃ m, n = m + 1 := ⟨n - 1, by omega⟩
  rw [nI_pred]
  rfl
section
variable {M : pm_M} {n r : Nat} {w : Nat → Nat} {A : Nat → Nat → Bool} {c : Nat} {Q P : Nat → Nat}
theorem c_ruleAt (h : iv M n r w A c Q P) {i : Nat} (hi : i < r) {Post : Option Nat → Prop} (k : Post (some (Q i))) : w_X9_ruleAt 0 (nI i) M Post := by
  obtain ⟨hl, hN, hW, hS, hB, hA, hr, hR⟩ := h
  have hr24 := hN.1.2.2
  unfold w_X9_ruleAt w_X9_ruleAt_30 w_X9_ruleAt_31
  rw [hN.2.2.2.1, nI_clamp (by omega)]
  refine bf (nI_pos (by omega)) (bf (nI_ge hi (by omega)) ⟨2, lr_0_1 hl, ?_⟩)
  rw [ln_2 hl]
  refine bf (nI_ge (by omega) (by omega)) ⟨vp_in_nI (by omega) (by omega), ?_⟩
  rw [(hA.2.1 i (by omega)).1]
  intro o ho
  subst ho
  exact k
theorem c_ruleAt0 (h : iv M n r w A c Q P) {x : Int32} (hx : x < 0 ∨ nI r ≤ x) {Post : Option Nat → Prop} (k : Post none) : w_X9_ruleAt 0 x M Post := by
  obtain ⟨hl, hN, hW, hS, hB, hA, hr, hR⟩ := h
  unfold w_X9_ruleAt w_X9_ruleAt_30 w_X9_ruleAt_31
  rw [hN.2.2.2.1]
  by_cases q : x < 0
  · exact bt q k
  · exact bf q (bt (hx.resolve_left q) k)
theorem m_isRule (h : iv M n r w A c Q P) {i : Nat} (hi : i < r) {Post : Int32 → Prop} (k : Post 1) : w_X10_isRule 62 (nI i) M Post := by
  obtain ⟨hl, hN, hW, hS, hB, hA, hr, hR⟩ := h
  have hr24 := hN.1.2.2
  unfold w_X10_isRule w_X10_isRule_16 w_X10_isRule_17
  rw [hN.2.2.2.2.2.2]
  exact bf (nI_pos (by omega)) (bf (nI_ge hi (by omega)) ⟨Or.inr rfl, k⟩)
theorem m_isRule0 (h : iv M n r w A c Q P) {x : Int32} (hx : x < 0 ∨ nI r ≤ x) {Post : Int32 → Prop} (k : Post 0) : w_X10_isRule 62 x M Post := by
  obtain ⟨hl, hN, hW, hS, hB, hA, hr, hR⟩ := h
  unfold w_X10_isRule w_X10_isRule_16 w_X10_isRule_17
  rw [hN.2.2.2.2.2.2]
  by_cases q : x < 0
  · exact bt q ⟨Or.inl rfl, k⟩
  · exact bf q (bt (hx.resolve_left q) ⟨Or.inl rfl, k⟩)
theorem c_isThing (h : iv M n r w A c Q P) {i : Nat} (hi : i < n) {Post : Int32 → Prop} (k : Post 1) : w_X9_isThing 0 (nI i) M Post := by
  obtain ⟨hl, hN, hW, hS, hB, hA, hr, hR⟩ := h
  have hn := hN.1.2.1
  unfold w_X9_isThing w_X9_isThing_16 w_X9_isThing_17
  rw [hN.2.1]
  exact bf (nI_pos (by omega)) (bf (nI_ge hi (by omega)) ⟨Or.inr rfl, k⟩)
theorem c_isThing0 (h : iv M n r w A c Q P) {x : Int32} (hx : x < 0 ∨ nI n ≤ x) {Post : Int32 → Prop} (k : Post 0) : w_X9_isThing 0 x M Post := by
  obtain ⟨hl, hN, hW, hS, hB, hA, hr, hR⟩ := h
  unfold w_X9_isThing w_X9_isThing_16 w_X9_isThing_17
  rw [hN.2.1]
  by_cases q : x < 0
  · exact bt q ⟨Or.inl rfl, k⟩
  · exact bf q (bt (hx.resolve_left q) ⟨Or.inl rfl, k⟩)
theorem m_isThing (h : iv M n r w A c Q P) {i : Nat} (hi : i < n) {Post : Int32 → Prop} (k : Post 1) : w_X10_isThing 62 (nI i) M Post := by
  obtain ⟨hl, hN, hW, hS, hB, hA, hr, hR⟩ := h
  have hn := hN.1.2.1
  unfold w_X10_isThing w_X10_isThing_16 w_X10_isThing_17
  rw [hN.2.2.2.2.1]
  exact bf (nI_pos (by omega)) (bf (nI_ge hi (by omega)) ⟨Or.inr rfl, k⟩)
theorem m_isThing0 (h : iv M n r w A c Q P) {x : Int32} (hx : x < 0 ∨ nI n ≤ x) {Post : Int32 → Prop} (k : Post 0) : w_X10_isThing 62 x M Post := by
  obtain ⟨hl, hN, hW, hS, hB, hA, hr, hR⟩ := h
  unfold w_X10_isThing w_X10_isThing_16 w_X10_isThing_17
  rw [hN.2.2.2.2.1]
  by_cases q : x < 0
  · exact bt q ⟨Or.inl rfl, k⟩
  · exact bf q (bt (hx.resolve_left q) ⟨Or.inl rfl, k⟩)
theorem c_isSet (h : iv M n r w A c Q P) {s : Nat} (hs : s < 2 ^ n) {Post : Int32 → Prop} (k : Post 1) : w_X9_isSet 0 (nI s) M Post := by
  obtain ⟨hl, hN, hW, hS, hB, hA, hr, hR⟩ := h
  have hn := p2_le hN.1.2.1
  unfold w_X9_isSet w_X9_isSet_16 w_X9_isSet_17
  rw [hN.2.2.1]
  exact bf (nI_pos (by omega)) (bf (nI_nlt (by omega) (by omega)) ⟨Or.inr rfl, k⟩)
theorem c_isSet0 (h : iv M n r w A c Q P) {x : Int32} (hx : x < 0 ∨ nI (2 ^ n - 1) < x) {Post : Int32 → Prop} (k : Post 0) : w_X9_isSet 0 x M Post := by
  obtain ⟨hl, hN, hW, hS, hB, hA, hr, hR⟩ := h
  unfold w_X9_isSet w_X9_isSet_16 w_X9_isSet_17
  rw [hN.2.2.1]
  by_cases q : x < 0
  · exact bt q ⟨Or.inl rfl, k⟩
  · exact bf q (bt (hx.resolve_left q) ⟨Or.inl rfl, k⟩)
theorem m_isSet (h : iv M n r w A c Q P) {s : Nat} (hs : s < 2 ^ n) {Post : Int32 → Prop} (k : Post 1) : w_X10_isSet 62 (nI s) M Post := by
  obtain ⟨hl, hN, hW, hS, hB, hA, hr, hR⟩ := h
  have hn := p2_le hN.1.2.1
  unfold w_X10_isSet w_X10_isSet_16 w_X10_isSet_17
  rw [hN.2.2.2.2.2.1]
  exact bf (nI_pos (by omega)) (bf (nI_nlt (by omega) (by omega)) ⟨Or.inr rfl, k⟩)
theorem m_isSet0 (h : iv M n r w A c Q P) {x : Int32} (hx : x < 0 ∨ nI (2 ^ n - 1) < x) {Post : Int32 → Prop} (k : Post 0) : w_X10_isSet 62 x M Post := by
  obtain ⟨hl, hN, hW, hS, hB, hA, hr, hR⟩ := h
  unfold w_X10_isSet w_X10_isSet_16 w_X10_isSet_17
  rw [hN.2.2.2.2.2.1]
  by_cases q : x < 0
  · exact bt q ⟨Or.inl rfl, k⟩
  · exact bf q (bt (hx.resolve_left q) ⟨Or.inl rfl, k⟩)
theorem c_rankOf0 {q p s : Nat} (h1 : mR M q 4 = some p) (h2 : mN M p ≤ 4096) (h3 : s < mN M p) {Post : Int32 → Prop} (k : Post (mI M p s)) : w_X5_rankOf q (nI s) M Post := by
  unfold w_X5_rankOf w_X5_rankOf_22 w_X5_rankOf_23
  refine bf (nI_pos (by omega)) ⟨p, h1, bf (nI_ge h3 (by omega)) ⟨vp_in_nI h3 (by omega), ?_⟩⟩
  rw [nI_clamp (by omega)]
  exact k
theorem c_rank (h : iv M n r w A c Q P) {i s : Nat} (hi : i < r) (hs : s < 2 ^ n) {Post : Int32 → Prop} (k : Post (nI (rk (A i) s))) : w_X5_rankOf (Q i) (nI s) M Post := by
  obtain ⟨hl, hN, hW, hS, hB, hA, hr, hR⟩ := h
  have h1 := hA.2.1 i (by omega)
  have h2 := hR i hi
  exact c_rankOf0 h1.2.1 h1.2.2.2.2.2 (Nat.lt_of_lt_of_le hs h2.2.1) (by rw [(h2.2.2.1 s hs).1]; exact k)
theorem bc_sm (s : Nat) : bc s < 2 ^ 31 := Nat.lt_of_le_of_lt (bc_16 s) (by decide)
theorem rk_sm (h : iv M n r w A c Q P) {i s : Nat} (hi : i < r) : rk (A i) s ≤ 16 := Nat.le_trans (rk_le (h.2.2.2.2.2.2.2 i hi).1.1) (bc_16 s)
theorem iv_n (h : iv M n r w A c Q P) : 1 ≤ n ∧ n ≤ 12 ∧ r ≤ 24 := h.2.1.1
theorem iv_p (h : iv M n r w A c Q P) : 2 ^ n ≤ 4096 := p2_le h.2.1.1.2.1
theorem iv_mat (h : iv M n r w A c Q P) {i : Nat} (hi : i < r) : mat n (A i) := (h.2.2.2.2.2.2.2 i hi).1
theorem iv_iff (h : iv M n r w A c Q P) {i s : Nat} (hi : i < r) (hs : s < 2 ^ n) : A i s = true ↔ rk (A i) s = bc s := rk_iff (by have := iv_n h; omega) (iv_mat h hi).1 hs
theorem c_permits (h : iv M n r w A c Q P) {i s : Nat} (hi : i < r) (hs : s < 2 ^ n) {Post : Int32 → Prop} (k : Post (bI (A i s))) : w_X5_permits (Q i) (nI s) M Post := by
  have hp := iv_p h
  unfold w_X5_permits w_X5_permits_17
  refine c_rank h hi hs (w_bc (by omega) ?_)
  have hk := rk_sm h (s := s) hi
  have he := nI_eq (a := rk (A i) s) (b := bc s) (by omega) (bc_sm s)
  by_cases e : A i s = true
  · rw [e] at k
    exact bt' (he.mpr ((iv_iff h hi hs).mp e)) ⟨Or.inr rfl, k⟩
  · rw [Bool.eq_false_iff.mpr e] at k
    exact bf' (fun q => e ((iv_iff h hi hs).mpr (he.mp q))) ⟨Or.inl rfl, k⟩
theorem ix_4096 (i s : Nat) : (4096 : Int32) * nI i + nI s = nI (4096 * i + s) := by
  rw [show (4096 : Int32) = nI 4096 from rfl, pk_mul, nI_add]
theorem m_all0 (hl : lay M) {i s : Nat} (hi : i < 24) (hs : s < 4096) {b : Bool} (e : mI M 64 (4096 * i + s) = bI b) {Post : Int32 → Prop} (k : Post (bI b)) : w_X10_isAllowed 62 (nI i) (nI s) M Post := by
  unfold w_X10_isAllowed
  rw [ix_4096, nI_clamp (by omega)]
  refine ⟨64, lr_62_4 hl, ?_⟩
  rw [ln_64 hl, e]
  exact ⟨vp_in_nI (by omega) (by decide), bI_01 b, k⟩
theorem m_rnk0 (hl : lay M) {i s : Nat} (hi : i < 24) (hs : s < 4096) {Post : Int32 → Prop} (k : Post (mI M 65 (4096 * i + s))) : w_X10_rankOf 62 (nI i) (nI s) M Post := by
  unfold w_X10_rankOf
  rw [ix_4096, nI_clamp (by omega)]
  refine ⟨65, lr_62_5 hl, ?_⟩
  rw [ln_65 hl]
  exact ⟨vp_in_nI (by omega) (by decide), k⟩
theorem m_all (h : iv M n r w A c Q P) {i s : Nat} (hi : i < r) (hs : s < 2 ^ n) {Post : Int32 → Prop} (k : Post (bI (A i s))) : w_X10_isAllowed 62 (nI i) (nI s) M Post := by
  have hp := iv_p h
  have hn := iv_n h
  exact m_all0 h.1 (by omega) (by omega) ((h.2.2.2.2.2.2.2 i hi).2.2.1 s hs).2.1 k
theorem m_rnk (h : iv M n r w A c Q P) {i s : Nat} (hi : i < r) (hs : s < 2 ^ n) {Post : Int32 → Prop} (k : Post (nI (rk (A i) s))) : w_X10_rankOf 62 (nI i) (nI s) M Post := by
  have hp := iv_p h
  have hn := iv_n h
  exact m_rnk0 h.1 (by omega) (by omega) (by rw [((h.2.2.2.2.2.2.2 i hi).2.2.1 s hs).2.2]; exact k)
end
theorem bcn_bc {s : Nat} (hs : s < 4096) : bcn 12 s = bc s := bcn_n (by decide) hs
theorem m_bits {M : pm_M} {s : Nat} (hs : s < 4096) {Post : Int32 → Prop} (k : Post (nI (bc s))) : w_X10_bitsOf (nI s) M Post := by
  unfold w_X10_bitsOf
  refine ⟨_, lp (fun k v i => w_X10_bitsOf_4 Post (nI s) M k (nI v) (nI i)) 12 (fun i v => v = bcn i s) ?_ ?_ 0 0 (by decide) rfl⟩
  · intro k i v hi hv hk
    show w_X10_bitsOf_4 Post (nI s) M (k + 1) (nI v) (nI i)
    unfold w_X10_bitsOf_4
    refine bf (nI_ge (b := 12) hi (by decide)) ?_
    intro x1 e1 x2 e2
    have : (nI s >>> (nI i &&& 31)) &&& 1 = nI (if s.testBit i = true then 1 else 0) := nI_bitN (by omega) (by omega)
    rw [this, nI_add] at e1
    rw [nI_1] at e2
    subst e1; subst e2
    exact hk _ (by rw [hv]; rfl)
  · intro k' v hv
    show w_X10_bitsOf_4 Post (nI s) M (k' + 1) (nI v) (nI 12)
    unfold w_X10_bitsOf_4
    refine bt (nI_le (b := 12) (Nat.le_refl _) (by decide)) ?_
    rw [hv, bcn_bc hs]
    exact k
