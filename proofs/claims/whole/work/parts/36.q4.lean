/-! broken, count -/
theorem ne_nI {a b : Nat} (ha : a < 64) (hb : b < 64) (hab : a ≠ b) : ¬ nI a = nI b := fun e => hab ((nI_eq (by omega) (by omega)).mp e)
section
variable {M : pm_M} {n r : Nat} {w : Nat → Nat} {A : Nat → Nat → Bool} {c : Nat} {Q P : Nat → Nat}
theorem q_broken (h : iv M n r w A c Q P) (x : Int32) : ag (w_X9_broken 0 x M) (w_X10_broken 62 x M) := by
  unfold ag
  obtain ⟨hl, hN, hW, hS, hB, hA, hr, hR⟩ := h
  simp only [w_X9_broken, w_X10_broken, w_X10_broken_9, w_X10_broken_19]
  rcases ix_cases (n := 3) (by decide) x with hx | ⟨j, hj, rfl⟩
  · have na : ∀ j : Nat, j < 3 → ¬ x = nI j := fun j hj e => by
      subst e
      rcases hx with q | q
      · exact nI_pos (by omega) q
      · exact nI_ge (b := 3) hj (by decide) q
    refine ⟨-1, fun P k => ⟨fun e => absurd e (na 0 (by decide)), fun e => absurd e (na 1 (by decide)), fun e => absurd e (na 2 (by decide)), fun _ => k⟩, fun P k => ?_⟩
    by_cases q : x < 0
    · exact bt q k
    · refine bf q (bf (fun e => ?_) k)
      obtain ⟨j, hj, rfl⟩ := nI_of q
      have : j ≤ 2 := (nI_leI (b := 2) hj (by decide)).mp e
      exact na j (by omega) rfl
  · have m2 : ∀ Po : Int32 → Prop, Po (mI M 70 j) → ((nI j < 0 → Po (-1)) ∧ (¬ nI j < 0 → ((nI j ≤ (2 : Int32) → (∃ q_3 : Nat, mR M 62 10 = some q_3 ∧ (vp_in (nI j) (mN M q_3) ∧ Po (mI M q_3 (nI j).toNatClampNeg)))) ∧ (¬ nI j ≤ (2 : Int32) → Po (-1))))) := fun Po k => by
      refine bf (nI_pos (by omega)) (bt (nI_le (b := 2) (by omega) (by decide)) ⟨70, lr_62_10 hl, by rw [ln_70 hl]; exact vp_in_nI (by omega) (by decide), ?_⟩)
      rw [nI_clamp (by omega)]
      exact k
    have nh : ∀ {X : Prop}, (∀ j' : Nat, j' < 3 → ¬ nI j = nI (0 + j')) → X := fun q => absurd (by rw [Nat.zero_add]) (q j hj)
    match j, hj with
    | 0, _ => exact ⟨mI M 70 0, fun P k => ⟨fun _ => ⟨6, lr_0_5 hl, hB.1 ▸ k⟩, fun e => absurd e (ne_nI (a := 0) (b := 1) (by decide) (by decide) (by decide)), fun e => absurd e (ne_nI (a := 0) (b := 2) (by decide) (by decide) (by decide)), nh⟩, m2⟩
    | 1, _ => exact ⟨mI M 70 1, fun P k => ⟨fun e => absurd e (ne_nI (a := 1) (b := 0) (by decide) (by decide) (by decide)), fun _ => ⟨6, lr_0_5 hl, hB.2.1 ▸ k⟩, fun e => absurd e (ne_nI (a := 1) (b := 2) (by decide) (by decide) (by decide)), nh⟩, m2⟩
    | 2, _ => exact ⟨mI M 70 2, fun P k => ⟨fun e => absurd e (ne_nI (a := 2) (b := 0) (by decide) (by decide) (by decide)), fun e => absurd e (ne_nI (a := 2) (b := 1) (by decide) (by decide) (by decide)), fun _ => ⟨6, lr_0_5 hl, hB.2.2 ▸ k⟩, nh⟩, m2⟩
/-- slots -/
theorem c_slotAt (hl : lay M) {k : Nat} (hk : k < 10) {Post : Option Nat → Prop} (q : Post (some (42 + 2 * k))) : w_X9_slotAt 0 (nI k) M Post := by
  unfold w_X9_slotAt w_X9_slotAt_22 w_X9_slotAt_23
  refine bf (nI_pos (by omega)) ⟨1, lr_0_0 hl, ?_⟩
  rw [ln_1 hl, nI_clamp (by omega), lr_sl hl hk]
  refine bf (nI_ge hk (by decide)) ⟨vp_in_nI hk (by decide), ?_⟩
  intro o ho
  subst ho
  exact q
theorem c_slotAt0 (hl : lay M) {x : Int32} (hx : x < 0 ∨ nI 10 ≤ x) {Post : Option Nat → Prop} (q : Post none) : w_X9_slotAt 0 x M Post := by
  unfold w_X9_slotAt w_X9_slotAt_22 w_X9_slotAt_23
  by_cases e : x < 0
  · exact bt e q
  · refine bf e ⟨1, lr_0_0 hl, ?_⟩
    rw [ln_1 hl]
    exact bt (hx.resolve_left e) q
theorem m_isSlot {k : Nat} (hk : k < 10) {Post : Int32 → Prop} (q : Post 1) : w_X10_isSlot (nI k) M Post := by
  unfold w_X10_isSlot w_X10_isSlot_14 w_X10_isSlot_15
  exact bf (nI_pos (by omega)) (bf (nI_nlt (a := 9) (by omega) (by decide)) ⟨Or.inr rfl, q⟩)
theorem m_isSlot0 {x : Int32} (hx : x < 0 ∨ nI 10 ≤ x) {Post : Int32 → Prop} (q : Post 0) : w_X10_isSlot x M Post := by
  unfold w_X10_isSlot w_X10_isSlot_14 w_X10_isSlot_15
  by_cases e : x < 0
  · exact bt e ⟨Or.inl rfl, q⟩
  · refine bf e (bt ?_ ⟨Or.inl rfl, q⟩)
    obtain ⟨j, hj, rfl⟩ := nI_of e
    have := (nI_leI (a := 10) (by decide) hj).mp (hx.resolve_left e)
    exact nI_lt (a := 9) (by omega) hj
theorem m1 {k : Nat} (h : k < 2 ^ 31) : ¬ nI k = -1 := fun e => absurd (show nI k < 0 by rw [e]; decide) (nI_pos h)
/-- a slot has a row -/
def hr (M : pm_M) (k : Nat) : Bool := decide (¬ mI M 71 k = 0)
theorem c_hasRow (hS : iS M) {k : Nat} (hk : k < 10) {Post : Int32 → Prop} (q : Post (bI (hr M k))) : w_X6_hasRow (42 + 2 * k) M Post := by
  unfold w_X6_hasRow w_X6_hasRow_13
  rcases hS k hk with ⟨h1, h2⟩ | ⟨wd, sz, a1, a2, a3, a4, a5, a6, a7⟩
  · rw [show hr M k = false by simp [hr, h2]] at q
    exact bt h1 ⟨Or.inl rfl, q⟩
  · rw [show hr M k = true by
      unfold hr
      rw [a5]
      exact decide_eq_true (nI_ne0 (by omega) (by omega))] at q
    rw [a3]
    exact bf (m1 (by omega)) ⟨Or.inr rfl, q⟩
def slf (M : pm_M) (k v : Nat) : Nat := if hr M k = true then v + 1 else v
theorem q_count (h : iv M n r w A c Q P) (x : Int32) : ag (w_X9_count 0 x M) (w_X10_count 62 x M) := by
  unfold ag
  have hn := iv_n h
  have h0 := Nat.two_pow_pos n
  simp only [w_X9_count, w_X10_count, h.2.1.2.1, h.2.1.2.2.1, h.2.1.2.2.2.1, h.2.1.2.2.2.2.1, h.2.1.2.2.2.2.2.1, h.2.1.2.2.2.2.2.2]
  have hu : 2 ^ n - 1 < 2 ^ n := by omega
  have s1 : ∀ Po : Int32 → Prop, Po (nI (fo (slf M) 0 10)) → w_X9_slotsWithRow 0 M (fun r => Po r) := by
    intro Po k
    unfold w_X9_slotsWithRow
    refine ⟨_, lp (fun k v j => w_X9_slotsWithRow_4 (fun r => Po r) 0 M k (nI v) (nI j)) 10 (fun j v => v = fo (slf M) 0 j) ?_ ?_ 0 0 (by omega) rfl⟩
    · intro k j v hj hv hk
      show w_X9_slotsWithRow_4 (fun r => Po r) 0 M (k + 1) (nI v) (nI j)
      simp only [w_X9_slotsWithRow_4, w_X9_slotsWithRow_33, nI_1, forall_eq]
      refine ⟨1, lr_0_0 h.1, ?_⟩
      rw [ln_1 h.1]
      refine bf (nI_ge hj (by omega)) (c_slotAt h.1 hj (os (c_hasRow h.2.2.2.1 hj (b0 (fun e => hk _ ?_) (fun e => hk _ ?_)))))
      · simp only [fo]; rw [slf, if_pos e, hv]
      · simp only [fo]; rw [slf, if_neg (by rw [e]; decide), hv]
    · intro k' v hv
      show w_X9_slotsWithRow_4 (fun r => Po r) 0 M (k' + 1) (nI v) (nI 10)
      simp only [w_X9_slotsWithRow_4]
      refine ⟨1, lr_0_0 h.1, ?_⟩
      rw [ln_1 h.1]
      exact bt (nI_le (by omega) (by omega)) (by rw [hv]; exact k)
  have s2 : ∀ Po : Int32 → Prop, Po (nI (fo (slf M) 0 10)) → ∃ k, w_X10_count_46 Po 62 M k 0 0 := by
    intro Po k
    refine ⟨_, lp (fun k v j => w_X10_count_46 Po 62 M k (nI v) (nI j)) 10 (fun j v => v = fo (slf M) 0 j) ?_ ?_ 0 0 (by omega) rfl⟩
    · intro k j v hj hv hk
      show w_X10_count_46 Po 62 M (k + 1) (nI v) (nI j)
      simp only [w_X10_count_46, w_X10_count_67, nI_1, forall_eq, nI_clamp (n := j) (by omega)]
      refine bf (nI_ge (b := 10) hj (by omega)) ⟨71, lr_62_11 h.1, by rw [ln_71 h.1]; exact vp_in_nI (by omega) (by decide), fun e => hk _ ?_, fun e => ?_⟩
      · simp only [fo]; rw [slf, if_pos (by unfold hr; exact decide_eq_true e), hv]
      · rw [show (0 : Int32) = nI 0 from rfl, nI_add]
        exact hk _ (by simp only [fo]; rw [slf, if_neg (by unfold hr; simp [e]), hv]; rfl)
    · intro k' v hv
      show w_X10_count_46 Po 62 M (k' + 1) (nI v) (nI 10)
      simp only [w_X10_count_46]
      exact bt (nI_le (a := 10) (by omega) (by omega)) (by rw [hv]; exact k)
  refine pm_cases (x := x) 0 4 (fun j hj e => ?_) (fun e => ?_)
  · rw [Nat.zero_add] at e
    subst e
    have nh : ∀ {X : Prop}, (∀ j' : Nat, j' < 4 → ¬ nI j = nI (0 + j')) → X := fun q => absurd (by rw [Nat.zero_add]) (q j hj)
    have ne := fun a b ha hb hab => @ne_nI a b ha hb hab
    match j, hj with
    | 0, _ => exact ⟨nI n, fun P k => ⟨fun _ => k, fun e => absurd e (ne 0 1 (by decide) (by decide) (by decide)), fun e => absurd e (ne 0 2 (by decide) (by decide) (by decide)), fun e => absurd e (ne 0 3 (by decide) (by decide) (by decide)), nh⟩, fun P k => ⟨fun _ => k, fun e => absurd e (ne 0 1 (by decide) (by decide) (by decide)), fun e => absurd e (ne 0 2 (by decide) (by decide) (by decide)), fun e => absurd e (ne 0 3 (by decide) (by decide) (by decide)), nh⟩⟩
    | 1, _ => exact ⟨nI r, fun P k => ⟨fun e => absurd e (ne 1 0 (by decide) (by decide) (by decide)), fun _ => k, fun e => absurd e (ne 1 2 (by decide) (by decide) (by decide)), fun e => absurd e (ne 1 3 (by decide) (by decide) (by decide)), nh⟩, fun P k => ⟨fun e => absurd e (ne 1 0 (by decide) (by decide) (by decide)), fun _ => k, fun e => absurd e (ne 1 2 (by decide) (by decide) (by decide)), fun e => absurd e (ne 1 3 (by decide) (by decide) (by decide)), nh⟩⟩
    | 2, _ => exact ⟨_, fun P k => ⟨fun e => absurd e (ne 2 0 (by decide) (by decide) (by decide)), fun e => absurd e (ne 2 1 (by decide) (by decide) (by decide)), fun _ => s1 P k, fun e => absurd e (ne 2 3 (by decide) (by decide) (by decide)), nh⟩, fun P k => ⟨fun e => absurd e (ne 2 0 (by decide) (by decide) (by decide)), fun e => absurd e (ne 2 1 (by decide) (by decide) (by decide)), fun _ => s2 P k, fun e => absurd e (ne 2 3 (by decide) (by decide) (by decide)), nh⟩⟩
    | 3, _ => exact ⟨_, fun P k => ⟨fun e => absurd e (ne 3 0 (by decide) (by decide) (by decide)), fun e => absurd e (ne 3 1 (by decide) (by decide) (by decide)), fun e => absurd e (ne 3 2 (by decide) (by decide) (by decide)), fun _ => c_weightOf h hu k, nh⟩, fun P k => ⟨fun e => absurd e (ne 3 0 (by decide) (by decide) (by decide)), fun e => absurd e (ne 3 1 (by decide) (by decide) (by decide)), fun e => absurd e (ne 3 2 (by decide) (by decide) (by decide)), fun _ => m_weightOf h hu k, nh⟩⟩
  · have na : ∀ j : Nat, j < 4 → ∀ {X : Prop}, x = nI j → X := fun j hj {X} q => absurd (by rw [Nat.zero_add]; exact q) (e j hj)
    exact ⟨-1, fun P k => ⟨na 0 (by decide), na 1 (by decide), na 2 (by decide), na 3 (by decide), fun _ => k⟩, fun P k => ⟨na 0 (by decide), na 1 (by decide), na 2 (by decide), na 3 (by decide), fun _ => k⟩⟩
end
