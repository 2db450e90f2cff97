/-! the slots -/
theorem iN_kp {T : Nat → Nat → Prop} {M M' : pm_M} {n r : Nat} (h : iN M n r) (hz : 83 ≤ mZ M) (hk : kp T M M') (h0 : ∀ k, 9 ≤ k → ¬ T 0 k) (h1 : ∀ k, k < 4 → ¬ T 62 k) : iN M' n r := by
  obtain ⟨a1, a2, a3, a4, a5, a6, a7⟩ := h
  have eI : ∀ a k, a < mZ M → ¬ T a k → mI M' a k = mI M a k := fun a k ha hn => (hk.2.2 a k ha hn).1
  refine ⟨a1, ?_, ?_, ?_, ?_, ?_, ?_⟩
  · rw [eI 0 9 (by omega) (h0 _ (by decide))]; exact a2
  · rw [eI 0 10 (by omega) (h0 _ (by decide))]; exact a3
  · rw [eI 0 11 (by omega) (h0 _ (by decide))]; exact a4
  · rw [eI 62 0 (by omega) (h1 _ (by decide))]; exact a5
  · rw [eI 62 1 (by omega) (h1 _ (by decide))]; exact a6
  · rw [eI 62 3 (by omega) (h1 _ (by decide))]; exact a7
theorem iW_kp {T : Nat → Nat → Prop} {M M' : pm_M} {w : Nat → Nat} (h : iW M w) (hz : 83 ≤ mZ M) (hk : kp T M M') (h0 : ∀ k, ¬ T 3 k) (h1 : ∀ k, ¬ T 63 k) : iW M' w := fun i hi => by
  obtain ⟨a1, a2, a3⟩ := h i hi
  exact ⟨a1, by rw [(hk.2.2 3 i (by omega) (h0 i)).1]; exact a2, by rw [(hk.2.2 63 i (by omega) (h1 i)).1]; exact a3⟩
theorem iB_kp {T : Nat → Nat → Prop} {M M' : pm_M} (h : iB M) (hz : 83 ≤ mZ M) (hk : kp T M M') (h0 : ∀ k, 3 ≤ k → ¬ T 6 k) (h1 : ∀ k, ¬ T 70 k) : iB M' := by
  obtain ⟨a1, a2, a3⟩ := h
  have eI : ∀ a k, a < mZ M → ¬ T a k → mI M' a k = mI M a k := fun a k ha hn => (hk.2.2 a k ha hn).1
  refine ⟨?_, ?_, ?_⟩
  · rw [eI 70 0 (by omega) (h1 _), eI 6 3 (by omega) (h0 _ (by decide))]; exact a1
  · rw [eI 70 1 (by omega) (h1 _), eI 6 4 (by omega) (h0 _ (by decide))]; exact a2
  · rw [eI 70 2 (by omega) (h1 _), eI 6 5 (by omega) (h0 _ (by decide))]; exact a3
theorem iS1_kp {T : Nat → Nat → Prop} {M M' : pm_M} {k : Nat} (hk10 : k < 10) (h : iS1 M k) (hz : 83 ≤ mZ M) (hk : kp T M M') (h0 : ∀ j, ¬ T (42 + 2 * k) j) (h1 : ∀ j, ¬ T (43 + 2 * k) j) (h2 : ¬ T 71 k) (h3 : ¬ T 72 k) (h4 : ∀ i, i < 200 → ¬ T 73 (200 * k + i)) : iS1 M' k := by
  have eI : ∀ a k, a < mZ M → ¬ T a k → mI M' a k = mI M a k := fun a k ha hn => (hk.2.2 a k ha hn).1
  have eL : ∀ a k, a < mZ M → ¬ T a k → mL M' a k = mL M a k := fun a k ha hn => (hk.2.2 a k ha hn).2.1
  exact iS1_of h (eI _ _ (by omega) (h0 _)) (eI _ _ (by omega) (h0 _)) (eI _ _ (by omega) h2) (eI _ _ (by omega) h3) (fun i _ => eL _ _ (by omega) (h1 _)) (fun i hi => eL _ _ (by omega) (h4 i hi))
/-- places that hold no reference, and nothing of a rule -/
def sof (a k : Nat) : Prop := (a = 0 ∧ 9 ≤ k) ∨ a = 3 ∨ (a = 6 ∧ 2 ≤ k) ∨ (42 ≤ a ∧ a < 62 ∧ (a % 2 = 1 ∨ 1 ≤ k)) ∨ (a = 62 ∧ (k < 2 ∨ k = 3)) ∨ a = 63 ∨ (70 ≤ a ∧ a < 75)
theorem sof_sr {a k : Nat} (h : sof a k) : sr a k = none := by
  unfold sof at h
  unfold sr
  by_cases e0 : a = 0
  · rw [if_pos e0, if_neg (by omega), if_neg (by omega), if_neg (by omega), if_neg (by omega), if_neg (by omega), if_neg (by omega), if_neg (by omega), if_neg (by omega), if_neg (by omega)]
  rw [if_neg e0, if_neg (by omega)]
  by_cases e6 : a = 6
  · rw [if_pos e6, if_neg (by omega), if_neg (by omega)]
  rw [if_neg e6, if_neg (by omega), if_neg (by omega), if_neg (by omega), if_neg (by omega), if_neg (by omega)]
  by_cases e4 : 42 ≤ a ∧ a < 62 ∧ a % 2 = 0
  · rw [if_pos e4, if_neg (by omega)]
  rw [if_neg e4]
  by_cases e62 : a = 62
  · rw [if_pos e62, if_neg (by omega), if_neg (by omega), if_neg (by omega)]
  rw [if_neg e62]
theorem iv_sof {M M' : pm_M} {n r : Nat} {w : Nat → Nat} {A : Nat → Nat → Bool} {c : Nat} {Q P : Nat → Nat} (h : iv M n r w A c Q P) (hk : kp sof M M') {n' r' : Nat} {w' : Nat → Nat} (hN' : iN M' n' r') (hW' : iW M' w') (hS' : iS M') (hB' : iB M') (hr' : r' = 0 ∨ (n' = n ∧ r' = r)) : iv M' n' r' w' A c Q P := by
  obtain ⟨hl, hN, hW, hS, hB, hA, hr, hR⟩ := h
  have z : 83 ≤ mZ M := hl.1
  have eI : ∀ a k, a < mZ M → ¬ sof a k → mI M' a k = mI M a k := fun a k ha hn => (hk.2.2 a k ha hn).1
  have eR : ∀ a k, a < mZ M → ¬ sof a k → mR M' a k = mR M a k := fun a k ha hn => (hk.2.2 a k ha hn).2.2
  refine ⟨lay_kp hl hk (fun a k h _ => sof_sr h), hN', hW', hS', hB', iA_of hA hk.1 hk.2.1 (fun i hi => eR 2 i (by omega) (by unfold sof; omega)) (fun i hi => ?_), ?_, fun i hi => ?_⟩
  · have := (hA.2.1 i hi).2.2.1
    exact eR _ _ this.2.1 (by unfold sof; omega)
  · omega
  · rcases hr' with e | ⟨rfl, rfl⟩
    · omega
    · have hq := (hA.2.1 i (by omega)).2.2.1
      have hp := (hA.2.1 i (by omega)).2.2.2.1
      exact iR1_of (hR i hi) (hk.2.1 _ hp.2.1).2 (fun s => eI _ _ hp.2.1 (by unfold sof; omega)) (fun s => eI _ _ hq.2.1 (by unfold sof; omega)) (fun s hs => eI _ _ (by omega) (by unfold sof; omega)) (fun s hs => eI _ _ (by omega) (by unfold sof; omega)) ⟨eI _ _ (by omega) (by unfold sof; omega), eI _ _ (by omega) (by unfold sof; omega), eI _ _ (by omega) (by unfold sof; omega), eI _ _ (by omega) (by unfold sof; omega)⟩
def slc (k a j : Nat) : Prop := (a = 42 + 2 * k ∧ 1 ≤ j) ∨ a = 43 + 2 * k
def slm (k a j : Nat) : Prop := (a = 71 ∧ j = k) ∨ (a = 72 ∧ j = k) ∨ (a = 73 ∧ 200 * k ≤ j ∧ j < 200 * k + 200) ∨ a = 74
def sl (k a j : Nat) : Prop := slc k a j ∨ slm k a j
theorem iv_sl {M M' : pm_M} {n r : Nat} {w : Nat → Nat} {A : Nat → Nat → Bool} {c : Nat} {Q P : Nat → Nat} {k : Nat} (h : iv M n r w A c Q P) (hk10 : k < 10) (hk : kp (sl k) M M') (h1 : iS1 M' k) : iv M' n r w A c Q P := by
  have z : 83 ≤ mZ M := h.1.1
  refine iv_sof h (kp_mono hk (fun a j q => ?_)) (iN_kp h.2.1 z hk (fun j _ => ?_) (fun j _ => ?_)) (iW_kp h.2.2.1 z hk (fun j => ?_) (fun j => ?_)) (fun i hi => ?_) (iB_kp h.2.2.2.2.1 z hk (fun j _ => ?_) (fun j => ?_)) (Or.inr ⟨rfl, rfl⟩)
  · unfold sl slc slm at q
    unfold sof
    omega
  · unfold sl slc slm; omega
  · unfold sl slc slm; omega
  · unfold sl slc slm; omega
  · unfold sl slc slm; omega
  · by_cases e : i = k
    · subst e; exact h1
    · exact iS1_kp hi (h.2.2.2.1 i hi) z hk (fun j => by unfold sl slc slm; omega) (fun j => by unfold sl slc slm; omega) (by unfold sl slc slm; omega) (by unfold sl slc slm; omega) (fun j hj => by unfold sl slc slm; omega)
  · unfold sl slc slm; omega
  · unfold sl slc slm; omega
theorem slot_cases (x : Int32) : (x < 0 ∨ nI 10 ≤ x) ∨ ∃ k, k < 10 ∧ x = nI k := ix_cases (by decide) x
theorem ix_200 {k j : Nat} : (200 : Int32) * nI k + nI j = nI (200 * k + j) := by
  rw [show (200 : Int32) = nI 200 from rfl, pk_mul, nI_add]
theorem kp_lay {k : Nat} {M M' : pm_M} (hl : lay M) (hk10 : k < 10) (hk : kp (sl k) M M') : lay M' := lay_kp hl hk (fun a j q _ => sof_sr (by unfold sl slc slm at q; unfold sof; omega))
theorem kp_c {k : Nat} {M M' : pm_M} (hk : kp (slc k) M M') : kp (sl k) M M' := kp_mono hk (fun _ _ => Or.inl)
theorem kp_m {k : Nat} {M M' : pm_M} (hk : kp (slm k) M M') : kp (sl k) M M' := kp_mono hk (fun _ _ => Or.inr)
section
variable {M : pm_M} {n r : Nat} {w : Nat → Nat} {A : Nat → Nat → Bool} {c : Nat} {Q P : Nat → Nat}
theorem c_lay (hl : lay M) {k : Nat} (hk : k < 10) {wd sz : Nat} (hsz : sz ≤ 200) {Post : pm_M → Prop} (kk : ∀ M', kp (slc k) M M' → mI M' (42 + 2 * k) 1 = nI wd → mI M' (42 + 2 * k) 2 = nI sz → (∀ i, i < sz → mL M' (43 + 2 * k) i = 0) → Post M') : w_X6_lay (42 + 2 * k) (nI wd) (nI sz) M Post := by
  have s1 : slc k (42 + 2 * k) 1 := by unfold slc; omega
  have s2 : slc k (42 + 2 * k) 2 := by unfold slc; omega
  have s3 : ∀ j, slc k (43 + 2 * k) j := fun j => by unfold slc; omega
  unfold w_X6_lay
  intro M1 e1
  have k1 : kp (slc k) M M1 := by rw [e1]; exact kp_sI (kp_rf _ _) s1
  have l1 := kp_lay hl hk (kp_c k1)
  refine ⟨43 + 2 * k, lr_sn l1 hk, ?_⟩
  rw [ln_sn l1 hk]
  refine w_min (by omega) (by decide) ?_
  rw [Nat.min_eq_left hsz]
  intro M4 e4
  have k4 : kp (slc k) M M4 := by rw [e4]; exact kp_sI k1 s2
  refine ⟨_, lp (fun k' (N : pm_M) j => w_X6_lay_20 Post (42 + 2 * k) k' (nI j) N) sz (fun j N => kp (slc k) M N ∧ mI N (42 + 2 * k) 1 = nI wd ∧ mI N (42 + 2 * k) 2 = nI sz ∧ ∀ i, i < j → mL N (43 + 2 * k) i = 0) ?_ ?_ 0 M4 (Nat.zero_le _) ⟨k4, ?_, ?_, fun i hi => absurd hi (Nat.not_lt_zero i)⟩⟩
  · intro k' j N hj ⟨kN, h1, h2, h3⟩ hk'
    show w_X6_lay_20 Post (42 + 2 * k) (k' + 1) (nI j) N
    have lN := kp_lay hl hk (kp_c kN)
    simp only [w_X6_lay_20, forall_eq, nI_1, h2]
    refine bf (nI_ge hj (by omega)) ⟨43 + 2 * k, lr_sn lN hk, by rw [ln_sn lN hk]; exact vp_in_nI (by omega) (by decide), ?_⟩
    rw [nI_clamp (by omega)]
    refine hk' _ ⟨kp_sL kN (s3 j), h1, h2, fun i hi => ?_⟩
    rw [mL_sL]
    by_cases z : i = j
    · subst z; rw [if_pos ⟨rfl, rfl⟩]
    · rw [if_neg (by omega)]; exact h3 i (by omega)
  · intro k' N ⟨kN, h1, h2, h3⟩
    show w_X6_lay_20 Post (42 + 2 * k) (k' + 1) (nI sz) N
    simp only [w_X6_lay_20, h2]
    exact bt (nI_le (Nat.le_refl _) (by omega)) (kk N kN h1 h2 h3)
  · rw [e4, mI_sI, if_neg (by omega), e1, mI_sI, if_pos ⟨rfl, rfl⟩]
  · rw [e4, mI_sI, if_pos ⟨rfl, rfl⟩]
theorem m_lay (hl : lay M) {k : Nat} (hk : k < 10) {wd sz : Nat} (hsz : sz ≤ 200) {Post : Int32 → pm_M → Prop} (kk : ∀ M', kp (slm k) M M' → mI M' 71 k = nI (sz + 1) → mI M' 72 k = nI wd → (∀ i, i < sz → mL M' 73 (200 * k + i) = 0) → Post 0 M') : ∃ q_7 : Nat, mR M 62 11 = some q_7 ∧ (vp_in (nI k) (mN M q_7) ∧ ∀ M_9 : pm_M, M_9 = sI M q_7 (nI k).toNatClampNeg (nI sz + (1 : Int32)) → (∃ q_10 : Nat, mR M_9 62 12 = some q_10 ∧ (vp_in (nI k) (mN M_9 q_10) ∧ ∀ M_12 : pm_M, M_12 = sI M_9 q_10 (nI k).toNatClampNeg (nI wd) → (∃ n_14 : Nat, w_X10_row_52 Post 62 (nI k) (nI sz) n_14 (0 : Int32) M_12)))) := by
  have s1 : slm k 71 k := by unfold slm; omega
  have s2 : slm k 72 k := by unfold slm; omega
  refine ⟨71, lr_62_11 hl, by rw [ln_71 hl]; exact vp_in_nI (by omega) (by decide), ?_⟩
  rw [nI_clamp (by omega), nI_1]
  intro M1 e1
  have k1 : kp (slm k) M M1 := by rw [e1]; exact kp_sI (kp_rf _ _) s1
  have l1 := kp_lay hl hk (kp_m k1)
  refine ⟨72, lr_62_12 l1, by rw [ln_72 l1]; exact vp_in_nI (by omega) (by decide), ?_⟩
  intro M4 e4
  have k4 : kp (slm k) M M4 := by rw [e4]; exact kp_sI k1 s2
  refine ⟨_, lp (fun k' (N : pm_M) j => w_X10_row_52 Post 62 (nI k) (nI sz) k' (nI j) N) sz (fun j N => kp (slm k) M N ∧ mI N 71 k = nI (sz + 1) ∧ mI N 72 k = nI wd ∧ ∀ i, i < j → mL N 73 (200 * k + i) = 0) ?_ ?_ 0 M4 (Nat.zero_le _) ⟨k4, ?_, ?_, fun i hi => absurd hi (Nat.not_lt_zero i)⟩⟩
  · intro k' j N hj ⟨kN, h1, h2, h3⟩ hk'
    show w_X10_row_52 Post 62 (nI k) (nI sz) (k' + 1) (nI j) N
    have lN := kp_lay hl hk (kp_m kN)
    simp only [w_X10_row_52, forall_eq, nI_1, ix_200]
    refine bf (nI_ge hj (by omega)) ⟨73, lr_62_13 lN, by rw [ln_73 lN]; exact vp_in_nI (by omega) (by decide), ?_⟩
    rw [nI_clamp (by omega)]
    refine hk' _ ⟨kp_sL kN (by unfold slm; omega), h1, h2, fun i hi => ?_⟩
    rw [mL_sL]
    by_cases z : i = j
    · subst z; rw [if_pos ⟨rfl, rfl⟩]
    · rw [if_neg (by omega)]; exact h3 i (by omega)
  · intro k' N ⟨kN, h1, h2, h3⟩
    show w_X10_row_52 Post 62 (nI k) (nI sz) (k' + 1) (nI sz) N
    simp only [w_X10_row_52]
    exact bt (nI_le (Nat.le_refl _) (by omega)) (kk N kN h1 h2 h3)
  · rw [e4, mI_sI, if_neg (by omega), e1, mI_sI, if_pos ⟨rfl, rfl⟩]
  · rw [e4, mI_sI, if_pos ⟨rfl, rfl⟩]
theorem q_row (h : iv M n r w A c Q P) (x y z : Int32) : ∀ K : Int32 → Int32 → pm_M → Prop, (∀ v M', IV M' → K v v M') → w_X9_row 0 x y z M (fun a M1 => w_X10_row 62 x y z M1 (fun b M' => K a b M')) := by
  intro K k
  have k0 : ∀ v, K v v M := fun v => k v M ⟨_, _, _, _, _, _, _, h⟩
  unfold w_X9_row w_X9_row_28 w_X10_row w_X10_row_23
  rcases slot_cases x with hx | ⟨j, hj, rfl⟩
  · exact c_slotAt0 h.1 hx (on (m_isSlot0 hx (bt rfl (k0 _))))
  · refine c_slotAt h.1 hj (os ?_)
    by_cases y0 : y < 0
    · exact bt y0 (m_isSlot hj (bf one0 (bt y0 (k0 _))))
    refine bf y0 ?_
    by_cases y3 : 3 < y
    · exact bt y3 (m_isSlot hj (bf one0 (bf y0 (bt y3 (k0 _)))))
    refine bf y3 ?_
    by_cases z2 : z ≤ 200
    · refine bt z2 ?_
      by_cases z0 : 0 ≤ z
      · refine bt z0 ?_
        obtain ⟨wd, hwd, rfl⟩ := nI_of y0
        obtain ⟨sz, hsz, rfl⟩ := nI_of (Int32.not_lt.mpr z0)
        have hs2 : sz ≤ 200 := (nI_leI (b := 200) hsz (by decide)).mp z2
        have hw2 : wd ≤ 3 := by
          have : ¬ 3 < wd := fun q => y3 (nI_lt (a := 3) q hwd)
          omega
        refine c_lay h.1 hj hs2 (fun M1 kM1 c1 c2 c3 => m_isSlot hj (bf one0 (bf y0 (bf y3 (bt z2 (bt z0 ?_))))))
        refine m_lay (kp_lay h.1 hj (kp_c kM1)) hj hs2 (fun M2 kM2 m1 m2 m3 => ?_)
        have zz := h.1.1
        have z1 := kM1.1
        refine k 0 M2 ⟨n, r, w, A, c, Q, P, iv_sl h hj (kp_tr (kp_c kM1) (kp_m kM2)) (Or.inr ⟨wd, sz, hw2, hs2, ?_, ?_, m1, m2, fun i hi => ?_⟩)⟩
        · rw [(kM2.2.2 _ _ (by omega) (by unfold slm; omega)).1]; exact c1
        · rw [(kM2.2.2 _ _ (by omega) (by unfold slm; omega)).1]; exact c2
        · rw [(kM2.2.2 _ _ (by omega) (by unfold slm; omega)).2.1, m3 i hi]; exact c3 i hi
      · exact bf z0 (m_isSlot hj (bf one0 (bf y0 (bf y3 (bt z2 (bf z0 (k0 _)))))))
    · exact bf z2 (m_isSlot hj (bf one0 (bf y0 (bf y3 (bf z2 (k0 _))))))
theorem q_tear (h : iv M n r w A c Q P) (x : Int32) : ∀ K : Int32 → Int32 → pm_M → Prop, (∀ v M', IV M' → K v v M') → w_X9_tear 0 x M (fun a M1 => w_X10_tear 62 x M1 (fun b M' => K a b M')) := by
  intro K k
  have k0 : ∀ v, K v v M := fun v => k v M ⟨_, _, _, _, _, _, _, h⟩
  unfold w_X9_tear w_X9_tear_17 w_X10_tear w_X10_tear_16
  rcases slot_cases x with hx | ⟨j, hj, rfl⟩
  · exact c_slotAt0 h.1 hx (on (m_isSlot0 hx (bt rfl (k0 _))))
  · refine c_slotAt h.1 hj (os (c_hasRow h.2.2.2.1 hj (b0' (fun e => ?_) (fun e => ?_))))
    · unfold w_X6_clear
      intro M1 e1 M2 e2
      have s1 : slc j (42 + 2 * j) 1 := by unfold slc; omega
      have s2 : slc j (42 + 2 * j) 2 := by unfold slc; omega
      have k2 : kp (slc j) M M2 := by rw [e2, e1]; exact kp_sI (kp_sI (kp_rf _ _) s1) s2
      have l2 := kp_lay h.1 hj (kp_c k2)
      have v : vp_in (nI j) (mN M2 71) := by rw [ln_71 l2]; exact vp_in_nI (by omega) (by decide)
      have zz := h.1.1
      refine m_isSlot hj (bf one0 ⟨71, lr_62_11 l2, v, ?_⟩)
      rw [nI_clamp (by omega), (k2.2.2 71 j (by omega) (by unfold slc; omega)).1]
      refine bf' (by unfold hr at e; exact of_decide_eq_true e) ⟨v, ?_⟩
      intro M3 e3
      have k3 : kp (slm j) M2 M3 := by rw [e3]; exact kp_sI (kp_rf _ _) (by unfold slm; omega)
      refine k 1 M3 ⟨n, r, w, A, c, Q, P, iv_sl h hj (kp_tr (kp_c k2) (kp_m k3)) (Or.inl ⟨?_, ?_⟩)⟩
      · rw [e3, mI_sI, if_neg (by omega), e2, mI_sI, if_neg (by omega), e1, mI_sI, if_pos ⟨rfl, rfl⟩]
      · rw [e3, mI_sI, if_pos ⟨rfl, rfl⟩]
    · refine m_isSlot hj (bf one0 ⟨71, lr_62_11 h.1, by rw [ln_71 h.1]; exact vp_in_nI (by omega) (by decide), ?_⟩)
      rw [nI_clamp (by omega)]
      unfold hr at e
      exact bt' (by simpa using e) (k0 _)
end
