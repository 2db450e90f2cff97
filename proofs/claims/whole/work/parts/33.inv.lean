/-! what holds between two calls -/
def iN (M : pm_M) (n r : Nat) : Prop := (1 ≤ n ∧ n ≤ 12 ∧ r ≤ 24) ∧ mI M 0 9 = nI n ∧ mI M 0 10 = nI (2 ^ n - 1) ∧ mI M 0 11 = nI r ∧ mI M 62 0 = nI n ∧ mI M 62 1 = nI (2 ^ n - 1) ∧ mI M 62 3 = nI r
def iW (M : pm_M) (w : Nat → Nat) : Prop := ∀ i, i < 12 → w i ≤ 1000000 ∧ mI M 3 i = nI (w i) ∧ mI M 63 i = nI (w i)
def iS1 (M : pm_M) (k : Nat) : Prop := (mI M (42 + 2 * k) 1 = -1 ∧ mI M 71 k = 0) ∨ ∃ wd sz : Nat, wd ≤ 3 ∧ sz ≤ 200 ∧ mI M (42 + 2 * k) 1 = nI wd ∧ mI M (42 + 2 * k) 2 = nI sz ∧ mI M 71 k = nI (sz + 1) ∧ mI M 72 k = nI wd ∧ ∀ i, i < sz → mL M (43 + 2 * k) i = mL M 73 (200 * k + i)
def iS (M : pm_M) : Prop := ∀ k, k < 10 → iS1 M k
def iB (M : pm_M) : Prop := mI M 70 0 = mI M 6 3 ∧ mI M 70 1 = mI M 6 4 ∧ mI M 70 2 = mI M 6 5
def iA (M : pm_M) (c : Nat) (Q P : Nat → Nat) : Prop := c ≤ 24 ∧ (∀ i, i < c → mR M 2 i = some (Q i) ∧ mR M (Q i) 4 = some (P i) ∧ (83 ≤ Q i ∧ Q i < mZ M ∧ mT M (Q i) = 4) ∧ (83 ≤ P i ∧ P i < mZ M ∧ mT M (P i) = 10) ∧ 1 ≤ mN M (P i) ∧ mN M (P i) ≤ 4096) ∧ (∀ i, c ≤ i → i < 24 → mR M 2 i = none) ∧ (∀ i j, i < c → j < c → Q i = Q j → i = j) ∧ (∀ i j, i < c → j < c → P i = P j → i = j)
def iR1 (M : pm_M) (n : Nat) (A : Nat → Bool) (i q p : Nat) : Prop := mat n A ∧ 2 ^ n ≤ mN M p ∧ (∀ s, s < 2 ^ n → mI M p s = nI (rk A s) ∧ mI M 64 (4096 * i + s) = bI (A s) ∧ mI M 65 (4096 * i + s) = nI (rk A s)) ∧ mI M q 0 = mI M 66 i ∧ mI M q 1 = mI M 67 i ∧ mI M q 2 = mI M 68 i ∧ mI M q 3 = mI M 69 i ∧ ∃ d : Nat, 1 ≤ d ∧ d ≤ 3 ∧ mI M 69 i = nI d
def iv (M : pm_M) (n r : Nat) (w : Nat → Nat) (A : Nat → Nat → Bool) (c : Nat) (Q P : Nat → Nat) : Prop := lay M ∧ iN M n r ∧ iW M w ∧ iS M ∧ iB M ∧ iA M c Q P ∧ r ≤ c ∧ ∀ i, i < r → iR1 M n (A i) i (Q i) (P i)
def IV (M : pm_M) : Prop := ∃ (n r : Nat) (w : Nat → Nat) (A : Nat → Nat → Bool) (c : Nat) (Q P : Nat → Nat), iv M n r w A c Q P
/-- the cells that no call's answer rests on -/
def scr (r a k : Nat) : Prop := a = 5 ∨ a = 7 ∨ a = 8 ∨ (a = 6 ∧ k = 2) ∨ (a = 9 ∧ k = 2) ∨ a = 10 ∨ a = 11 ∨ (a = 12 ∧ k = 1) ∨ a = 13 ∨ (a = 14 ∧ (k = 3 ∨ k = 4)) ∨ (16 ≤ a ∧ a < 28) ∨ (29 ≤ a ∧ a < 42) ∨ a = 4 ∨ (74 ≤ a ∧ a < 83) ∨ (a = 62 ∧ 15 ≤ k ∧ k < 18) ∨ ((a = 64 ∨ a = 65) ∧ 4096 * r ≤ k)
theorem scr_sr {r a k : Nat} (h : scr r a k) : sr a k = none := by
  unfold scr at h
  unfold sr
  have e0 : ¬ a = 0 := by omega
  have e1 : ¬ a = 1 := by omega
  have e15 : ¬ a = 15 := by omega
  have e28 : ¬ a = 28 := by omega
  have es : ¬ (42 ≤ a ∧ a < 62 ∧ a % 2 = 0) := by omega
  rw [if_neg e0, if_neg e1]
  by_cases e6 : a = 6
  · rw [if_pos e6, if_neg (by omega), if_neg (by omega)]
  rw [if_neg e6]
  by_cases e9 : a = 9
  · rw [if_pos e9, if_neg (by omega), if_neg (by omega)]
  rw [if_neg e9]
  by_cases e12 : a = 12
  · rw [if_pos e12, if_neg (by omega)]
  rw [if_neg e12]
  by_cases e14 : a = 14
  · rw [if_pos e14, if_neg (by omega), if_neg (by omega), if_neg (by omega)]
  rw [if_neg e14, if_neg e15, if_neg e28, if_neg es]
  by_cases e62 : a = 62
  · rw [if_pos e62, if_neg (by omega), if_neg (by omega), if_neg (by omega)]
  rw [if_neg e62]
theorem iS1_of {M M' : pm_M} {k : Nat} (h : iS1 M k) (h1 : mI M' (42 + 2 * k) 1 = mI M (42 + 2 * k) 1) (h2 : mI M' (42 + 2 * k) 2 = mI M (42 + 2 * k) 2) (h3 : mI M' 71 k = mI M 71 k) (h4 : mI M' 72 k = mI M 72 k) (h5 : ∀ i, i < 200 → mL M' (43 + 2 * k) i = mL M (43 + 2 * k) i) (h6 : ∀ i, i < 200 → mL M' 73 (200 * k + i) = mL M 73 (200 * k + i)) : iS1 M' k := by
  rcases h with h | ⟨wd, sz, a1, a2, a3, a4, a5, a6, a7⟩
  · exact Or.inl ⟨h1.trans h.1, h3.trans h.2⟩
  · refine Or.inr ⟨wd, sz, a1, a2, h1.trans a3, h2.trans a4, h3.trans a5, h4.trans a6, fun i hi => ?_⟩
    rw [h5 i (by omega), h6 i (by omega)]
    exact a7 i hi
theorem iA_of {M M' : pm_M} {c : Nat} {Q P : Nat → Nat} (h : iA M c Q P) (hz : mZ M ≤ mZ M') (ht : ∀ a, a < mZ M → mT M' a = mT M a ∧ mN M' a = mN M a) (h2 : ∀ i, i < 24 → mR M' 2 i = mR M 2 i) (h4 : ∀ i, i < c → mR M' (Q i) 4 = mR M (Q i) 4) : iA M' c Q P := by
  refine ⟨h.1, fun i hi => ?_, fun i hi hi2 => (h2 i hi2).trans (h.2.2.1 i hi hi2), h.2.2.2⟩
  obtain ⟨a1, a2, a3, a4, a5⟩ := h.2.1 i hi
  refine ⟨(h2 i (Nat.lt_of_lt_of_le hi h.1)).trans a1, (h4 i hi).trans a2, ⟨a3.1, Nat.lt_of_lt_of_le a3.2.1 hz, ((ht _ a3.2.1).1).trans a3.2.2⟩, ⟨a4.1, Nat.lt_of_lt_of_le a4.2.1 hz, ((ht _ a4.2.1).1).trans a4.2.2⟩, ?_⟩
  rw [(ht _ a4.2.1).2]
  exact a5
theorem iR1_of {M M' : pm_M} {n : Nat} {A : Nat → Bool} {i q p : Nat} (h : iR1 M n A i q p) (hn : mN M' p = mN M p) (hp : ∀ s, mI M' p s = mI M p s) (hq : ∀ s, mI M' q s = mI M q s) (h64 : ∀ s, s < 2 ^ n → mI M' 64 (4096 * i + s) = mI M 64 (4096 * i + s)) (h65 : ∀ s, s < 2 ^ n → mI M' 65 (4096 * i + s) = mI M 65 (4096 * i + s)) (h6 : mI M' 66 i = mI M 66 i ∧ mI M' 67 i = mI M 67 i ∧ mI M' 68 i = mI M 68 i ∧ mI M' 69 i = mI M 69 i) : iR1 M' n A i q p := by
  obtain ⟨a1, a2, a3, a4, a5, a6, a7, d, a8⟩ := h
  refine ⟨a1, by rw [hn]; exact a2, fun s hs => ?_, by rw [hq, h6.1]; exact a4, by rw [hq, h6.2.1]; exact a5, by rw [hq, h6.2.2.1]; exact a6, by rw [hq, h6.2.2.2]; exact a7, d, a8.1, a8.2.1, by rw [h6.2.2.2]; exact a8.2.2⟩
  rw [hp, h64 s hs, h65 s hs]
  exact a3 s hs
theorem iv_kp {M M' : pm_M} {n r : Nat} {w : Nat → Nat} {A : Nat → Nat → Bool} {c : Nat} {Q P : Nat → Nat} (h : iv M n r w A c Q P) (hk : kp (scr r) M M') : iv M' n r w A c Q P := by
  obtain ⟨hl, hN, hW, hS, hB, hA, hr, hR⟩ := h
  have z : 83 ≤ mZ M := hl.1
  have eI : ∀ a k, a < mZ M → ¬ scr r a k → mI M' a k = mI M a k := fun a k ha hn => (hk.2.2 a k ha hn).1
  have eL : ∀ a k, a < mZ M → ¬ scr r a k → mL M' a k = mL M a k := fun a k ha hn => (hk.2.2 a k ha hn).2.1
  have eR : ∀ a k, a < mZ M → ¬ scr r a k → mR M' a k = mR M a k := fun a k ha hn => (hk.2.2 a k ha hn).2.2
  have hn12 : 2 ^ n ≤ 4096 := p2_le hN.1.2.1
  refine ⟨lay_kp hl hk (fun a k h _ => scr_sr h), ⟨hN.1, ?_, ?_, ?_, ?_, ?_, ?_⟩, fun i hi => ⟨(hW i hi).1, ?_, ?_⟩, fun k hk10 => iS1_of (hS k hk10) ?_ ?_ ?_ ?_ ?_ ?_, ⟨?_, ?_, ?_⟩, iA_of hA hk.1 hk.2.1 (fun i hi => eR 2 i (by omega) (by unfold scr; omega)) (fun i hi => ?_), hr, fun i hi => ?_⟩
  · rw [eI 0 9 (by omega) (by unfold scr; omega)]; exact hN.2.1
  · rw [eI 0 10 (by omega) (by unfold scr; omega)]; exact hN.2.2.1
  · rw [eI 0 11 (by omega) (by unfold scr; omega)]; exact hN.2.2.2.1
  · rw [eI 62 0 (by omega) (by unfold scr; omega)]; exact hN.2.2.2.2.1
  · rw [eI 62 1 (by omega) (by unfold scr; omega)]; exact hN.2.2.2.2.2.1
  · rw [eI 62 3 (by omega) (by unfold scr; omega)]; exact hN.2.2.2.2.2.2
  · rw [eI 3 i (by omega) (by unfold scr; omega)]; exact (hW i hi).2.1
  · rw [eI 63 i (by omega) (by unfold scr; omega)]; exact (hW i hi).2.2
  · exact eI _ _ (by omega) (by unfold scr; omega)
  · exact eI _ _ (by omega) (by unfold scr; omega)
  · exact eI _ _ (by omega) (by unfold scr; omega)
  · exact eI _ _ (by omega) (by unfold scr; omega)
  · exact fun i _ => eL _ _ (by omega) (by unfold scr; omega)
  · exact fun i _ => eL _ _ (by omega) (by unfold scr; omega)
  · rw [eI 70 0 (by omega) (by unfold scr; omega), eI 6 3 (by omega) (by unfold scr; omega)]; exact hB.1
  · rw [eI 70 1 (by omega) (by unfold scr; omega), eI 6 4 (by omega) (by unfold scr; omega)]; exact hB.2.1
  · rw [eI 70 2 (by omega) (by unfold scr; omega), eI 6 5 (by omega) (by unfold scr; omega)]; exact hB.2.2
  · have := (hA.2.1 i hi).2.2.1
    exact eR _ _ this.2.1 (by unfold scr; omega)
  · have hq := (hA.2.1 i (by omega)).2.2.1
    have hp := (hA.2.1 i (by omega)).2.2.2.1
    exact iR1_of (hR i hi) (hk.2.1 _ hp.2.1).2 (fun s => eI _ _ hp.2.1 (by unfold scr; omega)) (fun s => eI _ _ hq.2.1 (by unfold scr; omega)) (fun s hs => eI _ _ (by omega) (by unfold scr; omega)) (fun s hs => eI _ _ (by omega) (by unfold scr; omega)) ⟨eI _ _ (by omega) (by unfold scr; omega), eI _ _ (by omega) (by unfold scr; omega), eI _ _ (by omega) (by unfold scr; omega), eI _ _ (by omega) (by unfold scr; omega)⟩
