/-! both, split, most, three, same, broken, count -/
section
variable {M : pm_M} {n r : Nat} {w : Nat → Nat} {A : Nat → Nat → Bool} {c : Nat} {Q P : Nat → Nat}
def cof (A B C : Nat → Bool) (s v : Nat) : Nat := if A s = true ∧ B s = true ∧ C s = true ∧ bc v < bc s then s else v
theorem cof_lt {A B C : Nat → Bool} {N : Nat} : ∀ k, k ≤ N → 0 < N → fo (cof A B C) 0 k < N := by
  intro k
  induction k with
  | zero => exact fun _ h => h
  | succ k ih =>
    intro hk hN
    simp only [fo]
    unfold cof
    split
    · omega
    · exact ih (by omega) hN
theorem c_common (h : iv M n r w A c Q P) {i j l : Nat} (hi : i < r) (hj : j < r) (hl : l < r) {Post : Int32 → Prop} (k : Post (nI (fo (cof (A i) (A j) (A l)) 0 (2 ^ n)))) : w_X9_mostCommon 0 (Q i) (Q j) (Q l) M Post := by
  have hp := iv_p h
  have h0 := Nat.two_pow_pos n
  have hn := iv_n h
  have h1 : 1 ≤ 2 ^ n := h0
  unfold w_X9_mostCommon
  refine ⟨_, lp (fun k v s => w_X9_mostCommon_6 Post 0 (Q i) (Q j) (Q l) M k (nI v) (nI s)) (2 ^ n) (fun s v => v = fo (cof (A i) (A j) (A l)) 0 s) ?_ ?_ 1 0 (by omega) ?_⟩
  · intro k s v hs hv hk
    show w_X9_mostCommon_6 Post 0 (Q i) (Q j) (Q l) M (k + 1) (nI v) (nI s)
    have hv4 : v < 2 ^ n := by rw [hv]; exact cof_lt s (by omega) h0
    simp only [w_X9_mostCommon_6, w_X9_mostCommon_59, nI_1, forall_eq, h.2.1.2.2.1]
    refine bf (nI_nlt (by omega) (by omega)) (w_bc (by omega) (w_bc (by omega) ?_))
    rw [nI_leI (bc_sm _) (bc_sm _)]
    have no : ¬ (A i s = true ∧ A j s = true ∧ A l s = true ∧ bc v < bc s) → w_X9_mostCommon_6 Post 0 (Q i) (Q j) (Q l) M k (nI v) (nI (s + 1)) := fun q => hk _ (by
      show v = fo (cof (A i) (A j) (A l)) 0 (s + 1)
      simp only [fo]
      rw [← hv]
      unfold cof
      rw [if_neg q])
    refine ⟨fun e => no (fun q => by omega), fun e => c_permits h hi hs (b0 (fun e1 => c_permits h hj hs (b0 (fun e2 => c_permits h hl hs (b0 (fun e3 => hk _ ?_) (fun e3 => no (by rw [e3]; simp)))) (fun e2 => no (by rw [e2]; simp)))) (fun e1 => no (by rw [e1]; simp)))⟩
    simp only [fo]
    rw [← hv]
    unfold cof
    rw [if_pos ⟨e1, e2, e3, by omega⟩]
  · intro k' v hv
    show w_X9_mostCommon_6 Post 0 (Q i) (Q j) (Q l) M (k' + 1) (nI v) (nI (2 ^ n))
    simp only [w_X9_mostCommon_6, h.2.1.2.2.1]
    exact bt (nI_lt (by omega) (by omega)) (by rw [hv]; exact k)
  · simp only [fo]
    unfold cof
    rw [if_neg (by omega)]
theorem m_both (h : iv M n r w A c Q P) {i j : Nat} (hi : i < r) (hj : j < r) {Post : Int32 → Prop} (k : Post (nI (fo (cof (A i) (A j) (A j)) 0 (2 ^ n)))) : w_X10_both 62 (nI i) (nI j) M Post := by
  have hp := iv_p h
  have h0 := Nat.two_pow_pos n
  unfold w_X10_both
  refine m_isRule h hi (bf one0 (m_isRule h hj (bf' one0 ⟨_, lp (fun k v s => w_X10_both_23 Post 62 (nI i) (nI j) M k (nI v) (nI s)) (2 ^ n) (fun s v => v = fo (cof (A i) (A j) (A j)) 0 s) ?_ ?_ 0 0 (by omega) rfl⟩)))
  · intro k s v hs hv hk
    show w_X10_both_23 Post 62 (nI i) (nI j) M (k + 1) (nI v) (nI s)
    have hv4 : v < 2 ^ n := by rw [hv]; exact cof_lt s (by omega) h0
    simp only [w_X10_both_23, w_X10_both_67, nI_1, forall_eq, h.2.1.2.2.2.2.2.1]
    have no : ¬ (A i s = true ∧ A j s = true ∧ A j s = true ∧ bc v < bc s) → w_X10_both_23 Post 62 (nI i) (nI j) M k (nI v) (nI (s + 1)) := fun q => hk _ (by
      show v = fo (cof (A i) (A j) (A j)) 0 (s + 1)
      simp only [fo]
      rw [← hv]
      unfold cof
      rw [if_neg q])
    refine bf (nI_nlt (by omega) (by omega)) (m_all h hi hs (b0 (fun e1 => m_all h hj hs (b0 (fun e2 => m_bits (by omega) (m_bits (by omega) ?_)) (fun e2 => no (by rw [e2]; simp)))) (fun e1 => no (by rw [e1]; simp))))
    rw [nI_leI (bc_sm _) (bc_sm _)]
    refine ⟨fun e => no (fun q => by omega), fun e => hk _ ?_⟩
    simp only [fo]
    rw [← hv]
    unfold cof
    rw [if_pos ⟨e1, e2, e2, by omega⟩]
  · intro k' v hv
    show w_X10_both_23 Post 62 (nI i) (nI j) M (k' + 1) (nI v) (nI (2 ^ n))
    simp only [w_X10_both_23, h.2.1.2.2.2.2.2.1]
    exact bt (nI_lt (by omega) (by omega)) (by rw [hv]; exact k)
theorem m_both0 (h : iv M n r w A c Q P) {x y : Int32} (hx : (x < 0 ∨ nI r ≤ x) ∨ (y < 0 ∨ nI r ≤ y)) {Post : Int32 → Prop} (k : Post (-1)) : w_X10_both 62 x y M Post := by
  simp only [w_X10_both, w_X10_both_16]
  rcases ru_cases h x with hx' | ⟨i, hi, rfl⟩
  · exact m_isRule0 h hx' (bt rfl k)
  rcases ru_cases h y with hy' | ⟨j, hj, rfl⟩
  · exact m_isRule h hi (bf one0 (m_isRule0 h hy' (bt' rfl k)))
  have := iv_n h
  rcases hx with (q | q) | (q | q)
  · exact absurd q (nI_pos (by omega))
  · exact absurd q (nI_ge hi (by omega))
  · exact absurd q (nI_pos (by omega))
  · exact absurd q (nI_ge hj (by omega))
theorem q_both (h : iv M n r w A c Q P) (x y : Int32) : ag (w_X9_both 0 x y M) (w_X10_both 62 x y M) := by
  unfold ag
  simp only [w_X9_both, w_X9_both_22, w_X9_both_35]
  rcases ru_cases h x with hx | ⟨i, hi, rfl⟩
  · refine ⟨-1, fun P k => c_ruleAt0 h hx ?_, fun P k => m_both0 h (Or.inl hx) k⟩
    rcases ru_cases h y with hy | ⟨j, hj, rfl⟩
    · exact c_ruleAt0 h hy (on k)
    · exact c_ruleAt h hj (on k)
  rcases ru_cases h y with hy | ⟨j, hj, rfl⟩
  · exact ⟨-1, fun P k => c_ruleAt h hi (c_ruleAt0 h hy (os (on k))), fun P k => m_both0 h (Or.inr hy) k⟩
  exact ⟨_, fun P k => c_ruleAt h hi (c_ruleAt h hj (os (os (c_common h hi hj hj k)))), fun P k => m_both h hi hj k⟩
theorem df_all {n s : Nat} : df (2 ^ n - 1) s < 2 ^ n := sb_dff (by have := Nat.two_pow_pos n; omega)
theorem q_split (h : iv M n r w A c Q P) (x y : Int32) : ag (w_X9_split 0 x y M) (w_X10_split 62 x y M) := by
  unfold ag
  have hn := iv_n h
  have hp := iv_p h
  have h0 := Nat.two_pow_pos n
  simp only [w_X9_split, w_X9_split_22, w_X10_split]
  rcases ru_cases h x with hx | ⟨i, hi, rfl⟩
  · refine ⟨-1, fun P k => c_ruleAt0 h hx ?_, fun P k => m_both0 h (Or.inl hx) (bt' rfl k)⟩
    rcases ru_cases h y with hy | ⟨j, hj, rfl⟩
    · exact c_ruleAt0 h hy (on k)
    · exact c_ruleAt h hj (on k)
  rcases ru_cases h y with hy | ⟨j, hj, rfl⟩
  · exact ⟨-1, fun P k => c_ruleAt h hi (c_ruleAt0 h hy (os (on k))), fun P k => m_both0 h (Or.inr hy) (bt' rfl k)⟩
  have hv4 : fo (cof (A i) (A j) (A j)) 0 (2 ^ n) < 2 ^ n := cof_lt _ (by omega) h0
  generalize hm : fo (cof (A i) (A j) (A j)) 0 (2 ^ n) = m at hv4
  have hm1 : ¬ nI m = -1 := fun e => absurd (show nI m < 0 by rw [e]; decide) (nI_pos (by omega))
  refine ⟨sch (fun s => decide (rk (A i) s + rk (A j) (df (2 ^ n - 1) s) = bc m)) nI (-1) (2 ^ n - 0) 0, fun Po k => c_ruleAt h hi (c_ruleAt h hj (os (os (c_common h hi hj hj ?_)))), fun Po k => m_both h hi hj ?_⟩
  · rw [hm]
    refine w_bc (by omega) ⟨_, lp (fun k (_ : Unit) s => w_X9_split_41 Po 0 (Q i) (Q j) (nI (bc m)) M k (nI s)) (2 ^ n) (fun s _ => Po (sch (fun s => decide (rk (A i) s + rk (A j) (df (2 ^ n - 1) s) = bc m)) nI (-1) (2 ^ n - s) s)) ?_ ?_ 0 () (by omega) k⟩
    · intro k s _ hs hv hk
      show w_X9_split_41 Po 0 (Q i) (Q j) (nI (bc m)) M (k + 1) (nI s)
      simp only [w_X9_split_41, nI_1, forall_eq, h.2.1.2.2.1, nI_inv]
      refine bf (nI_nlt (by omega) (by omega)) (c_rank h hi hs (c_rank h hj df_all ?_))
      have k1 := rk_sm h (s := s) hi
      have k2 := rk_sm h (s := df (2 ^ n - 1) s) hj
      rw [nI_add, nI_eq (by omega) (bc_sm _)]
      rw [sch_s hs] at hv
      refine ⟨fun e => hk () ?_, fun e => ?_⟩
      · rw [if_neg (by simpa using e)] at hv; exact hv
      · rw [if_pos (by simpa using e)] at hv; exact hv
    · intro k' _ hv
      show w_X9_split_41 Po 0 (Q i) (Q j) (nI (bc m)) M (k' + 1) (nI (2 ^ n))
      simp only [w_X9_split_41, h.2.1.2.2.1]
      rw [sch_e] at hv
      exact bt (nI_lt (by omega) (by omega)) hv
  · rw [hm]
    refine bf' hm1 ⟨_, lp (fun k (_ : Unit) s => w_X10_split_17 Po 62 (nI i) (nI j) (nI m) M k (nI s)) (2 ^ n) (fun s _ => Po (sch (fun s => decide (rk (A i) s + rk (A j) (df (2 ^ n - 1) s) = bc m)) nI (-1) (2 ^ n - s) s)) ?_ ?_ 0 () (by omega) k⟩
    · intro k s _ hs hv hk
      show w_X10_split_17 Po 62 (nI i) (nI j) (nI m) M (k + 1) (nI s)
      simp only [w_X10_split_17, nI_1, forall_eq, h.2.1.2.2.2.2.2.1, nI_inv]
      refine bf (nI_nlt (by omega) (by omega)) (m_rnk h hi hs (m_rnk h hj df_all (m_bits (by omega) ?_)))
      have k1 := rk_sm h (s := s) hi
      have k2 := rk_sm h (s := df (2 ^ n - 1) s) hj
      rw [nI_add, nI_eq (by omega) (bc_sm _)]
      rw [sch_s hs] at hv
      refine ⟨fun e => hk () ?_, fun e => ?_⟩
      · rw [if_neg (by simpa using e)] at hv; exact hv
      · rw [if_pos (by simpa using e)] at hv; exact hv
    · intro k' _ hv
      show w_X10_split_17 Po 62 (nI i) (nI j) (nI m) M (k' + 1) (nI (2 ^ n))
      simp only [w_X10_split_17, h.2.1.2.2.2.2.2.1]
      rw [sch_e] at hv
      exact bt (nI_lt (by omega) (by omega)) hv
theorem q_three (h : iv M n r w A c Q P) (x y z : Int32) : ag (w_X9_three 0 x y z M) (w_X10_three 62 x y z M) := by
  unfold ag
  have hn := iv_n h
  have hp := iv_p h
  have h0 := Nat.two_pow_pos n
  have ra : ∀ (t : Int32) (Po : Option Nat → Prop), (∀ o, Po o) → w_X9_ruleAt 0 t M Po := fun t Po k => by
    rcases ru_cases h t with ht | ⟨l, hl, rfl⟩
    · exact c_ruleAt0 h ht (k _)
    · exact c_ruleAt h hl (k _)
  simp only [w_X9_three, w_X9_three_36, w_X10_three, w_X10_three_24]
  rcases ru_cases h x with hx | ⟨i, hi, rfl⟩
  · exact ⟨-1, fun P k => c_ruleAt0 h hx (ra _ _ (fun _ => ra _ _ (fun _ => on k))), fun P k => m_isRule0 h hx (bt rfl k)⟩
  rcases ru_cases h y with hy | ⟨j, hj, rfl⟩
  · exact ⟨-1, fun P k => c_ruleAt h hi (c_ruleAt0 h hy (ra _ _ (fun _ => os (on k)))), fun P k => m_isRule h hi (bf one0 (m_isRule0 h hy (bt rfl k)))⟩
  rcases ru_cases h z with hz | ⟨l, hl, rfl⟩
  · exact ⟨-1, fun P k => c_ruleAt h hi (c_ruleAt h hj (c_ruleAt0 h hz (os (os (on k))))), fun P k => m_isRule h hi (bf one0 (m_isRule h hj (bf one0 (m_isRule0 h hz (bt' rfl k)))))⟩
  have hv4 : fo (cof (A i) (A j) (A l)) 0 (2 ^ n) < 2 ^ n := cof_lt _ (by omega) h0
  refine ⟨nI (bc (fo (cof (A i) (A j) (A l)) 0 (2 ^ n))), fun Po k => c_ruleAt h hi (c_ruleAt h hj (c_ruleAt h hl (os (os (os (c_common h hi hj hl (w_bc (by omega) k))))))), fun Po k => m_isRule h hi (bf one0 (m_isRule h hj (bf one0 (m_isRule h hl (bf' one0 ⟨_, lp (fun k v s => w_X10_three_32 Po 62 (nI i) (nI j) (nI l) M k (nI v) (nI s)) (2 ^ n) (fun s v => v = bc (fo (cof (A i) (A j) (A l)) 0 s)) ?_ ?_ 0 0 (by omega) ?_⟩)))))⟩
  · intro k s v hs hv hk
    show w_X10_three_32 Po 62 (nI i) (nI j) (nI l) M (k + 1) (nI v) (nI s)
    simp only [w_X10_three_32, w_X10_three_83, nI_1, forall_eq, h.2.1.2.2.2.2.2.1]
    have no : ¬ (A i s = true ∧ A j s = true ∧ A l s = true) → w_X10_three_32 Po 62 (nI i) (nI j) (nI l) M k (nI v) (nI (s + 1)) := fun q => hk _ (by
      show v = bc (fo (cof (A i) (A j) (A l)) 0 (s + 1))
      simp only [fo]
      rw [cof, if_neg (fun q' => q ⟨q'.1, q'.2.1, q'.2.2.1⟩), hv])
    refine bf (nI_nlt (by omega) (by omega)) (m_all h hi hs (b0 (fun e1 => m_all h hj hs (b0 (fun e2 => m_all h hl hs (b0 (fun e3 => m_bits (by omega) (w_max (by rw [hv]; exact bc_sm _) (bc_sm _) (hk _ ?_))) (fun e3 => no (by rw [e3]; simp)))) (fun e2 => no (by rw [e2]; simp)))) (fun e1 => no (by rw [e1]; simp))))
    simp only [fo]
    rw [hv]
    by_cases q : bc (fo (cof (A i) (A j) (A l)) 0 s) < bc s
    · rw [cof, if_pos ⟨e1, e2, e3, q⟩, Nat.max_eq_right (by omega)]
    · rw [cof, if_neg (fun q' => q q'.2.2.2), Nat.max_eq_left (by omega)]
  · intro k' v hv
    show w_X10_three_32 Po 62 (nI i) (nI j) (nI l) M (k' + 1) (nI v) (nI (2 ^ n))
    simp only [w_X10_three_32, h.2.1.2.2.2.2.2.1]
    exact bt (nI_lt (by omega) (by omega)) (by rw [hv]; exact k)
  · exact bc_0.symm
theorem q_same (h : iv M n r w A c Q P) (x y : Int32) : ag (w_X9_same 0 x y M) (w_X10_same 62 x y M) := by
  unfold ag
  have hn := iv_n h
  have hp := iv_p h
  have h0 := Nat.two_pow_pos n
  simp only [w_X9_same, w_X9_same_22, w_X10_same, w_X10_same_16]
  rcases ru_cases h x with hx | ⟨i, hi, rfl⟩
  · refine ⟨-1, fun P k => c_ruleAt0 h hx ?_, fun P k => m_isRule0 h hx (bt rfl k)⟩
    rcases ru_cases h y with hy | ⟨j, hj, rfl⟩
    · exact c_ruleAt0 h hy (on k)
    · exact c_ruleAt h hj (on k)
  rcases ru_cases h y with hy | ⟨j, hj, rfl⟩
  · exact ⟨-1, fun P k => c_ruleAt h hi (c_ruleAt0 h hy (os (on k))), fun P k => m_isRule h hi (bf one0 (m_isRule0 h hy (bt' rfl k)))⟩
  refine ⟨sch (fun s => A i s != A j s) (fun _ => 0) 1 (2 ^ n - 0) 0, fun Po k => c_ruleAt h hi (c_ruleAt h hj (os (os ⟨_, lp (fun k (_ : Unit) s => w_X9_same_27 Po 0 (Q i) (Q j) M k (nI s)) (2 ^ n) (fun s _ => Po (sch (fun s => A i s != A j s) (fun _ => 0) 1 (2 ^ n - s) s)) ?_ ?_ 0 () (by omega) k⟩))), fun Po k => m_isRule h hi (bf one0 (m_isRule h hj (bf' one0 ⟨_, lp (fun k (_ : Unit) s => w_X10_same_20 Po 62 (nI i) (nI j) M k (nI s)) (2 ^ n) (fun s _ => Po (sch (fun s => A i s != A j s) (fun _ => 0) 1 (2 ^ n - s) s)) ?_ ?_ 0 () (by omega) k⟩)))⟩
  · intro k s _ hs hv hk
    show w_X9_same_27 Po 0 (Q i) (Q j) M (k + 1) (nI s)
    simp only [w_X9_same_27, nI_1, forall_eq, h.2.1.2.2.1]
    refine bf (nI_nlt (by omega) (by omega)) (c_permits h hi hs (c_permits h hj hs ?_))
    rw [bI_e]
    rw [sch_s hs] at hv
    refine ⟨fun e => hk () ?_, fun e => ?_⟩
    · rw [if_neg (by simpa using e)] at hv; exact hv
    · rw [if_pos (by simpa using e)] at hv; exact hv
  · intro k' _ hv
    show w_X9_same_27 Po 0 (Q i) (Q j) M (k' + 1) (nI (2 ^ n))
    simp only [w_X9_same_27, h.2.1.2.2.1]
    rw [sch_e] at hv
    exact bt (nI_lt (by omega) (by omega)) hv
  · intro k s _ hs hv hk
    show w_X10_same_20 Po 62 (nI i) (nI j) M (k + 1) (nI s)
    simp only [w_X10_same_20, nI_1, forall_eq, h.2.1.2.2.2.2.2.1]
    refine bf (nI_nlt (by omega) (by omega)) (m_all h hi hs (m_all h hj hs ?_))
    rw [bI_e]
    rw [sch_s hs] at hv
    refine ⟨fun e => hk () ?_, fun e => ?_⟩
    · rw [if_neg (by simpa using e)] at hv; exact hv
    · rw [if_pos (by simpa using e)] at hv; exact hv
  · intro k' _ hv
    show w_X10_same_20 Po 62 (nI i) (nI j) M (k' + 1) (nI (2 ^ n))
    simp only [w_X10_same_20, h.2.1.2.2.2.2.2.1]
    rw [sch_e] at hv
    exact bt (nI_lt (by omega) (by omega)) hv
theorem c_weightOf (h : iv M n r w A c Q P) {s : Nat} (hs : s < 2 ^ n) {Post : Int32 → Prop} (k : Post (nI (wsn w s n))) : w_X9_weightOf 0 (nI s) M Post := by
  have hn := iv_n h
  have hp := iv_p h
  unfold w_X9_weightOf
  refine ⟨_, lp (fun k v j => w_X9_weightOf_4 Post 0 (nI s) M k (nI v) (nI j)) n (fun j v => v = wsn w s j) ?_ ?_ 0 0 (by omega) rfl⟩
  · intro k j v hj hv hk
    show w_X9_weightOf_4 Post 0 (nI s) M (k + 1) (nI v) (nI j)
    simp only [w_X9_weightOf_4, w_X9_weightOf_29, nI_1, forall_eq, h.2.1.2.1, nI_bit (k := s) (i := j) (by omega) (by omega), nI_clamp (n := j) (by omega)]
    refine bf (nI_ge hj (by omega)) (b0 (fun e => ⟨3, lr_0_2 h.1, by rw [ln_3 h.1]; exact vp_in_nI (by omega) (by decide), ?_⟩) (fun e => hk _ ?_))
    · rw [(h.2.2.1 j (by omega)).2.1, nI_add]
      exact hk _ (by rw [hv]; simp only [wsn]; rw [if_pos e])
    · rw [hv]; simp only [wsn]; rw [if_neg (by rw [e]; decide)]; rfl
  · intro k' v hv
    show w_X9_weightOf_4 Post 0 (nI s) M (k' + 1) (nI v) (nI n)
    simp only [w_X9_weightOf_4, h.2.1.2.1]
    exact bt (nI_le (by omega) (by omega)) (by rw [hv]; exact k)
theorem m_weightOf (h : iv M n r w A c Q P) {s : Nat} (hs : s < 2 ^ n) {Post : Int32 → Prop} (k : Post (nI (wsn w s n))) : w_X10_weightOf 62 (nI s) M Post := by
  have hn := iv_n h
  have hp := iv_p h
  unfold w_X10_weightOf
  refine ⟨_, lp (fun k v j => w_X10_weightOf_4 Post 62 (nI s) M k (nI v) (nI j)) n (fun j v => v = wsn w s j) ?_ ?_ 0 0 (by omega) rfl⟩
  · intro k j v hj hv hk
    show w_X10_weightOf_4 Post 62 (nI s) M (k + 1) (nI v) (nI j)
    simp only [w_X10_weightOf_4, w_X10_weightOf_32, nI_1, forall_eq, h.2.1.2.2.2.2.1, nI_bit (k := s) (i := j) (by omega) (by omega), nI_clamp (n := j) (by omega)]
    refine bf (nI_ge hj (by omega)) (b1' (fun e => ⟨63, lr_62_2 h.1, by rw [ln_63 h.1]; exact vp_in_nI (by omega) (by decide), ?_⟩) (fun e => ?_))
    · rw [(h.2.2.1 j (by omega)).2.2, nI_add]
      exact hk _ (by rw [hv]; simp only [wsn]; rw [if_pos e])
    · rw [show (0 : Int32) = nI 0 from rfl, nI_add]
      exact hk _ (by rw [hv]; simp only [wsn]; rw [if_neg (by rw [e]; decide)])
  · intro k' v hv
    show w_X10_weightOf_4 Post 62 (nI s) M (k' + 1) (nI v) (nI n)
    simp only [w_X10_weightOf_4, h.2.1.2.2.2.2.1]
    exact bt (nI_le (by omega) (by omega)) (by rw [hv]; exact k)
def mof (A B : Nat → Bool) (g : Nat → Int32) (z : Int32) (s : Nat) (v : Int32) : Int32 := if A s = true ∧ B s = true ∧ nI (bc s) = z then mxI v (g s) else v
theorem q_most (h : iv M n r w A c Q P) (x y z : Int32) : ag (w_X9_most 0 x y z M) (w_X10_most 62 x y z M) := by
  unfold ag
  have hn := iv_n h
  have hp := iv_p h
  have h0 := Nat.two_pow_pos n
  simp only [w_X9_most, w_X9_most_24, w_X10_most]
  have bad : ∀ (Po : Int32 → Prop), Po (-1) → (∀ (T : Int32 → Prop), T 0 → w_X10_isRule 62 x M T) → ∃ k, w_X10_most_6 Po 62 x y z M k (-1) 0 := fun Po k q => ⟨1, by
    simp only [w_X10_most_6, w_X10_most_79, h.2.1.2.2.2.2.2.1]
    exact bf (nI_nlt (b := 0) (Nat.zero_le _) (by omega)) (q _ (bt rfl k))⟩
  rcases ru_cases h x with hx | ⟨i, hi, rfl⟩
  · refine ⟨-1, fun P k => c_ruleAt0 h hx ?_, fun P k => bad P k (fun T t => m_isRule0 h hx t)⟩
    rcases ru_cases h y with hy | ⟨j, hj, rfl⟩
    · exact c_ruleAt0 h hy (on k)
    · exact c_ruleAt h hj (on k)
  rcases ru_cases h y with hy | ⟨j, hj, rfl⟩
  · refine ⟨-1, fun P k => c_ruleAt h hi (c_ruleAt0 h hy (os (on k))), fun P k => ⟨1, ?_⟩⟩
    simp only [w_X10_most_6, w_X10_most_79, h.2.1.2.2.2.2.2.1]
    exact bf (nI_nlt (b := 0) (Nat.zero_le _) (by omega)) (m_isRule h hi (bf one0 (m_isRule0 h hy (bt rfl k))))
  refine ⟨fo (mof (A i) (A j) (fun s => nI (wsn w s n)) z) (-1) (2 ^ n), fun Po k => c_ruleAt h hi (c_ruleAt h hj (os (os ⟨_, lp (fun k (v : Int32) s => w_X9_most_32 Po 0 z (Q i) (Q j) M k v (nI s)) (2 ^ n) (fun s v => v = fo (mof (A i) (A j) (fun s => nI (wsn w s n)) z) (-1) s) ?_ ?_ 0 (-1) (by omega) rfl⟩))), fun Po k => ⟨_, lp (fun k (v : Int32) s => w_X10_most_6 Po 62 (nI i) (nI j) z M k v (nI s)) (2 ^ n) (fun s v => v = fo (mof (A i) (A j) (fun s => nI (wsn w s n)) z) (-1) s) ?_ ?_ 0 (-1) (by omega) rfl⟩⟩
  · intro k s v hs hv hk
    show w_X9_most_32 Po 0 z (Q i) (Q j) M (k + 1) v (nI s)
    simp only [w_X9_most_32, w_X9_most_83, nI_1, forall_eq, h.2.1.2.2.1]
    have no : ¬ (A i s = true ∧ A j s = true ∧ nI (bc s) = z) → w_X9_most_32 Po 0 z (Q i) (Q j) M k v (nI (s + 1)) := fun q => hk _ (by
      show v = fo (mof (A i) (A j) (fun s => nI (wsn w s n)) z) (-1) (s + 1)
      simp only [fo]
      rw [mof, if_neg q, hv])
    refine bf (nI_nlt (by omega) (by omega)) (w_bc (by omega) ⟨fun e => no (fun q => e q.2.2), fun e => c_permits h hi hs (b0 (fun e1 => c_permits h hj hs (b0 (fun e2 => c_weightOf h hs (w_mxI (hk _ ?_))) (fun e2 => no (by rw [e2]; simp)))) (fun e1 => no (by rw [e1]; simp)))⟩)
    simp only [fo]
    rw [mof, if_pos ⟨e1, e2, e⟩, hv]
  · intro k' v hv
    show w_X9_most_32 Po 0 z (Q i) (Q j) M (k' + 1) v (nI (2 ^ n))
    simp only [w_X9_most_32, h.2.1.2.2.1]
    exact bt (nI_lt (by omega) (by omega)) (by rw [hv]; exact k)
  · intro k s v hs hv hk
    show w_X10_most_6 Po 62 (nI i) (nI j) z M (k + 1) v (nI s)
    simp only [w_X10_most_6, w_X10_most_73, nI_1, forall_eq, h.2.1.2.2.2.2.2.1]
    have no : ¬ (A i s = true ∧ A j s = true ∧ nI (bc s) = z) → w_X10_most_6 Po 62 (nI i) (nI j) z M k v (nI (s + 1)) := fun q => hk _ (by
      show v = fo (mof (A i) (A j) (fun s => nI (wsn w s n)) z) (-1) (s + 1)
      simp only [fo]
      rw [mof, if_neg q, hv])
    refine bf (nI_nlt (by omega) (by omega)) (m_isRule h hi (bf one0 (m_isRule h hj (bf one0 (m_all h hi hs (b0 (fun e1 => m_all h hj hs (b0 (fun e2 => m_bits (by omega) ⟨fun e => no (fun q => e q.2.2), fun e => m_weightOf h hs (w_mxI (hk _ ?_))⟩) (fun e2 => no (by rw [e2]; simp)))) (fun e1 => no (by rw [e1]; simp))))))))
    simp only [fo]
    rw [mof, if_pos ⟨e1, e2, e⟩, hv]
  · intro k' v hv
    show w_X10_most_6 Po 62 (nI i) (nI j) z M (k' + 1) v (nI (2 ^ n))
    simp only [w_X10_most_6, w_X10_most_79, h.2.1.2.2.2.2.2.1]
    exact bt (nI_lt (by omega) (by omega)) (by rw [hv]; exact k)
end
