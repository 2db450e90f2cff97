/-! questions that change nothing: class and reference agree -/
def ag (W1 W2 : (Int32 → Prop) → Prop) : Prop := ∃ v : Int32, (∀ P : Int32 → Prop, P v → W1 P) ∧ ∀ P : Int32 → Prop, P v → W2 P
def fo {σ : Type} (f : Nat → σ → σ) (s0 : σ) : Nat → σ
  | 0 => s0
  | k + 1 => f k (fo f s0 k)
def sch (p : Nat → Bool) (g : Nat → Int32) (d : Int32) : Nat → Nat → Int32
  | 0, _ => d
  | k + 1, i => if p i = true then g i else sch p g d k (i + 1)
theorem sch_s {p : Nat → Bool} {g : Nat → Int32} {d : Int32} {N i : Nat} (hi : i < N) : sch p g d (N - i) i = if p i = true then g i else sch p g d (N - (i + 1)) (i + 1) := by
  obtain ⟨m, e⟩ : ∃ m, N - i = m + 1 := ⟨N - i - 1, by omega⟩
  rw [e, show N - (i + 1) = m by omega]
  rfl
theorem sch_e {p : Nat → Bool} {g : Nat → Int32} {d : Int32} {N : Nat} : sch p g d (N - N) N = d := by
  rw [Nat.sub_self]
  rfl
theorem on {X : Prop} {Y : Nat → Prop} (k : X) : ((none : Option Nat) = none → X) ∧ (∀ q, (none : Option Nat) = some q → Y q) := ⟨fun _ => k, fun _ e => by cases e⟩
theorem os {a : Nat} {X : Prop} {Y : Nat → Prop} (k : Y a) : (some a = none → X) ∧ (∀ q, some a = some q → Y q) := ⟨fun e => (by cases e), fun _ e => (by cases e; exact k)⟩
def mxI (a b : Int32) : Int32 := if a < b then b else a
theorem w_mxI {a b : Int32} {M : pm_M} {Post : Int32 → Prop} (h : Post (mxI a b)) : w_J9_max_7cf53 a b M Post := by
  unfold w_J9_max_7cf53 w_J9_max_7cf53_10
  unfold mxI at h
  by_cases q : a < b
  · rw [if_pos q] at h
    exact bt q h
  · rw [if_neg q] at h
    exact bf q h
theorem one0 : ¬ (1 : Int32) = 0 := by decide
section
variable {M : pm_M} {n r : Nat} {w : Nat → Nat} {A : Nat → Nat → Bool} {c : Nat} {Q P : Nat → Nat}
theorem ru_cases (h : iv M n r w A c Q P) (x : Int32) : (x < 0 ∨ nI r ≤ x) ∨ ∃ i, i < r ∧ x = nI i := ix_cases (by have := iv_n h; omega) x
theorem th_cases (h : iv M n r w A c Q P) (x : Int32) : (x < 0 ∨ nI n ≤ x) ∨ ∃ i, i < n ∧ x = nI i := ix_cases (by have := iv_n h; omega) x
theorem se_cases (h : iv M n r w A c Q P) (x : Int32) : (x < 0 ∨ nI (2 ^ n - 1) < x) ∨ ∃ s, s < 2 ^ n ∧ x = nI s := set_cases (iv_n h).2.1 x
theorem q_allows (h : iv M n r w A c Q P) (x y : Int32) : ag (w_X9_allows 0 x y M) (w_X10_allows 62 x y M) := by
  unfold ag
  simp only [w_X9_allows, w_X9_allows_33, w_X9_allows_18, w_X10_allows, w_X10_allows_34, w_X10_allows_16]
  rcases ru_cases h x with hx | ⟨i, hi, rfl⟩
  · exact ⟨-1, fun P k => c_ruleAt0 h hx (on k), fun P k => m_isRule0 h hx (bt rfl k)⟩
  rcases se_cases h y with hy | ⟨s, hs, rfl⟩
  · exact ⟨-1, fun P k => c_ruleAt h hi (os (c_isSet0 h hy (bt' rfl k))), fun P k => m_isRule h hi (bf one0 (m_isSet0 h hy (bt' rfl k)))⟩
  · refine ⟨bI (A i s), fun P k => c_ruleAt h hi (os (c_isSet h hs (bf' one0 (c_permits h hi hs ?_)))), fun P k => m_isRule h hi (bf one0 (m_isSet h hs (bf' one0 (m_all h hi hs ?_))))⟩
    · exact b0 (fun e => by rw [e] at k; exact k) (fun e => by rw [e] at k; exact k)
    · exact b0 (fun e => by rw [e] at k; exact k) (fun e => by rw [e] at k; exact k)
theorem q_rank (h : iv M n r w A c Q P) (x y : Int32) : ag (w_X9_rank 0 x y M) (w_X10_rank 62 x y M) := by
  unfold ag
  simp only [w_X9_rank, w_X9_rank_27, w_X9_rank_18, w_X10_rank, w_X10_rank_26, w_X10_rank_16]
  rcases ru_cases h x with hx | ⟨i, hi, rfl⟩
  · exact ⟨-1, fun P k => c_ruleAt0 h hx (on k), fun P k => m_isRule0 h hx (bt rfl k)⟩
  rcases se_cases h y with hy | ⟨s, hs, rfl⟩
  · exact ⟨-1, fun P k => c_ruleAt h hi (os (c_isSet0 h hy (bt' rfl k))), fun P k => m_isRule h hi (bf one0 (m_isSet0 h hy (bt' rfl k)))⟩
  · exact ⟨nI (rk (A i) s), fun P k => c_ruleAt h hi (os (c_isSet h hs (bf' one0 (c_rank h hi hs k)))), fun P k => m_isRule h hi (bf one0 (m_isSet h hs (bf' one0 (m_rnk h hi hs k))))⟩
/-- how many sets a rule allows -/
def cnt (A : Nat → Bool) (N : Nat) : Nat := fo (fun s v => if A s = true then v + 1 else v) 0 N
theorem c_count (h : iv M n r w A c Q P) {i : Nat} (hi : i < r) {Post : Int32 → Prop} (k : Post (nI (cnt (A i) (2 ^ n)))) : w_X5_allowedSets (Q i) (nI (2 ^ n - 1)) M Post := by
  have hp := iv_p h
  have h0 := Nat.two_pow_pos n
  unfold w_X5_allowedSets
  refine ⟨_, lp (fun k v s => w_X5_allowedSets_4 Post (Q i) (nI (2 ^ n - 1)) M k (nI v) (nI s)) (2 ^ n) (fun s v => v = cnt (A i) s) ?_ ?_ 0 0 (by omega) rfl⟩
  · intro k s v hs hv hk
    show w_X5_allowedSets_4 Post (Q i) (nI (2 ^ n - 1)) M (k + 1) (nI v) (nI s)
    simp only [w_X5_allowedSets_4, w_X5_allowedSets_20, nI_1, forall_eq]
    refine bf (nI_nlt (by omega) (by omega)) (c_permits h hi hs (b0 (fun e => ?_) (fun e => ?_)))
    · exact hk _ (by rw [hv]; simp only [cnt, fo]; rw [if_pos e])
    · exact hk _ (by rw [hv]; simp only [cnt, fo]; rw [if_neg (by rw [e]; decide)])
  · intro k' v hv
    show w_X5_allowedSets_4 Post (Q i) (nI (2 ^ n - 1)) M (k' + 1) (nI v) (nI (2 ^ n))
    simp only [w_X5_allowedSets_4]
    exact bt (nI_lt (by omega) (by omega)) (by rw [hv]; exact k)
theorem m_count (h : iv M n r w A c Q P) {i : Nat} (hi : i < r) {Post : Int32 → Prop} (k : Post (nI (cnt (A i) (2 ^ n)))) : ∃ k, w_X10_look_70 Post 62 (nI i) M k 0 0 := by
  have hp := iv_p h
  have h0 := Nat.two_pow_pos n
  refine ⟨_, lp (fun k v s => w_X10_look_70 Post 62 (nI i) M k (nI v) (nI s)) (2 ^ n) (fun s v => v = cnt (A i) s) ?_ ?_ 0 0 (by omega) rfl⟩
  · intro k s v hs hv hk
    show w_X10_look_70 Post 62 (nI i) M (k + 1) (nI v) (nI s)
    simp only [w_X10_look_70, w_X10_look_95, nI_1, forall_eq, h.2.1.2.2.2.2.2.1]
    refine bf (nI_nlt (by omega) (by omega)) (m_all h hi hs (b0 (fun e => ?_) (fun e => ?_)))
    · exact hk _ (by rw [hv]; simp only [cnt, fo]; rw [if_pos e])
    · rw [show (0 : Int32) = nI 0 from rfl, nI_add]
      exact hk _ (by rw [hv]; simp only [cnt, fo]; rw [if_neg (by rw [e]; decide)]; rfl)
  · intro k' v hv
    show w_X10_look_70 Post 62 (nI i) M (k' + 1) (nI v) (nI (2 ^ n))
    simp only [w_X10_look_70, h.2.1.2.2.2.2.2.1]
    exact bt (nI_lt (by omega) (by omega)) (by rw [hv]; exact k)
theorem q_look (h : iv M n r w A c Q P) (x y : Int32) : ag (w_X9_look 0 x y M) (w_X10_look 62 x y M) := by
  unfold ag
  have h0 := Nat.two_pow_pos n
  have hr := iv_n h
  simp only [w_X9_look, w_X10_look, h.2.1.2.2.1, h.2.1.2.2.2.2.2.1]
  rcases ru_cases h x with hx | ⟨i, hi, rfl⟩
  · exact ⟨-1, fun P k => c_ruleAt0 h hx (on k), fun P k => m_isRule0 h hx (bt' rfl k)⟩
  obtain ⟨a1, a2, a3, e0, e1, e2, e3, d, a8⟩ := h.2.2.2.2.2.2.2 i hi
  have hu : 2 ^ n - 1 < 2 ^ n := by omega
  have cl : (nI i).toNatClampNeg = i := nI_clamp (by omega)
  have key : ∀ v : Int32, (∀ P : Int32 → Prop, P v → ((y = 0 → P (mI M (Q i) 0)) ∧ (y = 1 → w_X5_rankOf (Q i) (nI (2 ^ n - 1)) M (fun r_4 => P r_4)) ∧ (y = 2 → w_X5_allowedSets (Q i) (nI (2 ^ n - 1)) M (fun r_5 => P r_5)) ∧ (y = 3 → P (mI M (Q i) 1)) ∧ (y = 4 → P (mI M (Q i) 2)) ∧ (y = 5 → P (mI M (Q i) 3)) ∧ ((∀ j : Nat, j < 6 → ¬ y = nI (0 + j)) → P (-1 : Int32)))) → (∀ P : Int32 → Prop, P v → ((y = 0 → P (mI M 66 i)) ∧ (y = 1 → P (nI (rk (A i) (2 ^ n - 1)))) ∧ (y = 2 → P (nI (cnt (A i) (2 ^ n)))) ∧ (y = 3 → P (mI M 67 i)) ∧ (y = 4 → P (mI M 68 i)) ∧ (y = 5 → P (mI M 69 i)) ∧ ((∀ j : Nat, j < 6 → ¬ y = nI (0 + j)) → P (-1 : Int32)))) → ∃ v : Int32, (∀ P : Int32 → Prop, P v → w_X9_ruleAt 0 (nI i) M (fun r_1 => ((r_1 = none → P (-1 : Int32)) ∧ (∀ q_3 : Nat, r_1 = some q_3 → ((y = 0 → P (mI M q_3 0)) ∧ (y = 1 → w_X5_rankOf q_3 (nI (2 ^ n - 1)) M (fun r_4 => P r_4)) ∧ (y = 2 → w_X5_allowedSets q_3 (nI (2 ^ n - 1)) M (fun r_5 => P r_5)) ∧ (y = 3 → P (mI M q_3 1)) ∧ (y = 4 → P (mI M q_3 2)) ∧ (y = 5 → P (mI M q_3 3)) ∧ ((∀ j : Nat, j < 6 → ¬ y = nI (0 + j)) → P (-1 : Int32))))))) ∧ (∀ P : Int32 → Prop, P v → w_X10_isRule 62 (nI i) M (fun r_1 => ((¬ r_1 = 0 → ((y = 0 → (∃ q_3 : Nat, mR M 62 6 = some q_3 ∧ (vp_in (nI i) (mN M q_3) ∧ P (mI M q_3 (nI i).toNatClampNeg)))) ∧ (y = 1 → w_X10_rankOf 62 (nI i) (nI (2 ^ n - 1)) M (fun r_5 => P r_5)) ∧ (y = 2 → (∃ n_8 : Nat, w_X10_look_70 P 62 (nI i) M n_8 (0 : Int32) (0 : Int32))) ∧ (y = 3 → (∃ q_9 : Nat, mR M 62 7 = some q_9 ∧ (vp_in (nI i) (mN M q_9) ∧ P (mI M q_9 (nI i).toNatClampNeg)))) ∧ (y = 4 → (∃ q_11 : Nat, mR M 62 8 = some q_11 ∧ (vp_in (nI i) (mN M q_11) ∧ P (mI M q_11 (nI i).toNatClampNeg)))) ∧ (y = 5 → (∃ q_13 : Nat, mR M 62 9 = some q_13 ∧ (vp_in (nI i) (mN M q_13) ∧ P (mI M q_13 (nI i).toNatClampNeg)))) ∧ ((∀ j : Nat, j < 6 → ¬ y = nI (0 + j)) → P (-1 : Int32)))) ∧ (r_1 = 0 → P (-1 : Int32))))) := by
    intro v k1 k2
    refine ⟨v, fun P k => c_ruleAt h hi (os (k1 P k)), fun P k => m_isRule h hi (bf' one0 ?_)⟩
    rw [cl]
    obtain ⟨b0, b1, b2, b3, b4, b5, b6⟩ := k2 P k
    refine ⟨fun e => ⟨66, lr_62_6 h.1, by rw [ln_66 h.1]; exact vp_in_nI (by omega) (by decide), b0 e⟩, fun e => m_rnk h hi hu (b1 e), fun e => m_count h hi (b2 e), fun e => ⟨67, lr_62_7 h.1, by rw [ln_67 h.1]; exact vp_in_nI (by omega) (by decide), b3 e⟩, fun e => ⟨68, lr_62_8 h.1, by rw [ln_68 h.1]; exact vp_in_nI (by omega) (by decide), b4 e⟩, fun e => ⟨69, lr_62_9 h.1, by rw [ln_69 h.1]; exact vp_in_nI (by omega) (by decide), b5 e⟩, b6⟩
  have ne : ∀ a b : Nat, a < 6 → b < 6 → a ≠ b → ¬ nI a = nI b := fun a b ha hb hab e => hab ((nI_eq (by omega) (by omega)).mp e)
  refine pm_cases (x := y) 0 6 (fun j hj e => ?_) (fun e => ?_)
  · rw [Nat.zero_add] at e
    subst e
    have nh : ∀ {X : Prop}, (∀ j' : Nat, j' < 6 → ¬ nI j = nI (0 + j')) → X := fun q => absurd (by rw [Nat.zero_add]) (q j hj)
    match j, hj with
    | 0, _ => exact key (mI M 66 i) (fun P k => ⟨fun _ => e0 ▸ k, fun e => absurd e (ne 0 1 (by decide) (by decide) (by decide)), fun e => absurd e (ne 0 2 (by decide) (by decide) (by decide)), fun e => absurd e (ne 0 3 (by decide) (by decide) (by decide)), fun e => absurd e (ne 0 4 (by decide) (by decide) (by decide)), fun e => absurd e (ne 0 5 (by decide) (by decide) (by decide)), nh⟩) (fun P k => ⟨fun _ => k, fun e => absurd e (ne 0 1 (by decide) (by decide) (by decide)), fun e => absurd e (ne 0 2 (by decide) (by decide) (by decide)), fun e => absurd e (ne 0 3 (by decide) (by decide) (by decide)), fun e => absurd e (ne 0 4 (by decide) (by decide) (by decide)), fun e => absurd e (ne 0 5 (by decide) (by decide) (by decide)), nh⟩)
    | 1, _ => exact key (nI (rk (A i) (2 ^ n - 1))) (fun P k => ⟨fun e => absurd e (ne 1 0 (by decide) (by decide) (by decide)), fun e => c_rank h hi hu k, fun e => absurd e (ne 1 2 (by decide) (by decide) (by decide)), fun e => absurd e (ne 1 3 (by decide) (by decide) (by decide)), fun e => absurd e (ne 1 4 (by decide) (by decide) (by decide)), fun e => absurd e (ne 1 5 (by decide) (by decide) (by decide)), nh⟩) (fun P k => ⟨fun e => absurd e (ne 1 0 (by decide) (by decide) (by decide)), fun _ => k, fun e => absurd e (ne 1 2 (by decide) (by decide) (by decide)), fun e => absurd e (ne 1 3 (by decide) (by decide) (by decide)), fun e => absurd e (ne 1 4 (by decide) (by decide) (by decide)), fun e => absurd e (ne 1 5 (by decide) (by decide) (by decide)), nh⟩)
    | 2, _ => exact key (nI (cnt (A i) (2 ^ n))) (fun P k => ⟨fun e => absurd e (ne 2 0 (by decide) (by decide) (by decide)), fun e => absurd e (ne 2 1 (by decide) (by decide) (by decide)), fun e => c_count h hi k, fun e => absurd e (ne 2 3 (by decide) (by decide) (by decide)), fun e => absurd e (ne 2 4 (by decide) (by decide) (by decide)), fun e => absurd e (ne 2 5 (by decide) (by decide) (by decide)), nh⟩) (fun P k => ⟨fun e => absurd e (ne 2 0 (by decide) (by decide) (by decide)), fun e => absurd e (ne 2 1 (by decide) (by decide) (by decide)), fun _ => k, fun e => absurd e (ne 2 3 (by decide) (by decide) (by decide)), fun e => absurd e (ne 2 4 (by decide) (by decide) (by decide)), fun e => absurd e (ne 2 5 (by decide) (by decide) (by decide)), nh⟩)
    | 3, _ => exact key (mI M 67 i) (fun P k => ⟨fun e => absurd e (ne 3 0 (by decide) (by decide) (by decide)), fun e => absurd e (ne 3 1 (by decide) (by decide) (by decide)), fun e => absurd e (ne 3 2 (by decide) (by decide) (by decide)), fun _ => e1 ▸ k, fun e => absurd e (ne 3 4 (by decide) (by decide) (by decide)), fun e => absurd e (ne 3 5 (by decide) (by decide) (by decide)), nh⟩) (fun P k => ⟨fun e => absurd e (ne 3 0 (by decide) (by decide) (by decide)), fun e => absurd e (ne 3 1 (by decide) (by decide) (by decide)), fun e => absurd e (ne 3 2 (by decide) (by decide) (by decide)), fun _ => k, fun e => absurd e (ne 3 4 (by decide) (by decide) (by decide)), fun e => absurd e (ne 3 5 (by decide) (by decide) (by decide)), nh⟩)
    | 4, _ => exact key (mI M 68 i) (fun P k => ⟨fun e => absurd e (ne 4 0 (by decide) (by decide) (by decide)), fun e => absurd e (ne 4 1 (by decide) (by decide) (by decide)), fun e => absurd e (ne 4 2 (by decide) (by decide) (by decide)), fun e => absurd e (ne 4 3 (by decide) (by decide) (by decide)), fun _ => e2 ▸ k, fun e => absurd e (ne 4 5 (by decide) (by decide) (by decide)), nh⟩) (fun P k => ⟨fun e => absurd e (ne 4 0 (by decide) (by decide) (by decide)), fun e => absurd e (ne 4 1 (by decide) (by decide) (by decide)), fun e => absurd e (ne 4 2 (by decide) (by decide) (by decide)), fun e => absurd e (ne 4 3 (by decide) (by decide) (by decide)), fun _ => k, fun e => absurd e (ne 4 5 (by decide) (by decide) (by decide)), nh⟩)
    | 5, _ => exact key (mI M 69 i) (fun P k => ⟨fun e => absurd e (ne 5 0 (by decide) (by decide) (by decide)), fun e => absurd e (ne 5 1 (by decide) (by decide) (by decide)), fun e => absurd e (ne 5 2 (by decide) (by decide) (by decide)), fun e => absurd e (ne 5 3 (by decide) (by decide) (by decide)), fun e => absurd e (ne 5 4 (by decide) (by decide) (by decide)), fun _ => e3 ▸ k, nh⟩) (fun P k => ⟨fun e => absurd e (ne 5 0 (by decide) (by decide) (by decide)), fun e => absurd e (ne 5 1 (by decide) (by decide) (by decide)), fun e => absurd e (ne 5 2 (by decide) (by decide) (by decide)), fun e => absurd e (ne 5 3 (by decide) (by decide) (by decide)), fun e => absurd e (ne 5 4 (by decide) (by decide) (by decide)), fun _ => k, nh⟩)
  · have na : ∀ j : Nat, j < 6 → ∀ {X : Prop}, y = nI j → X := fun j hj {X} q => absurd (by rw [Nat.zero_add]; exact q) (e j hj)
    exact key (-1) (fun P k => ⟨na 0 (by decide), na 1 (by decide), na 2 (by decide), na 3 (by decide), na 4 (by decide), na 5 (by decide), fun _ => k⟩) (fun P k => ⟨na 0 (by decide), na 1 (by decide), na 2 (by decide), na 3 (by decide), na 4 (by decide), na 5 (by decide), fun _ => k⟩)
end
