/-! more questions -/
section
variable {M : pm_M} {n r : Nat} {w : Nat → Nat} {A : Nat → Nat → Bool} {c : Nat} {Q P : Nat → Nat}
theorem sb_add {n s i : Nat} (hs : s < 2 ^ n) (hi : i < n) : s ||| b1 i < 2 ^ n := or_lt hs (b1_lt hi)
theorem sb_dff {n s t : Nat} (hs : s < 2 ^ n) : df s t < 2 ^ n := sb_lt (sb_df s t) hs
def spf (A : Nat → Bool) (s : Nat) (i v : Nat) : Nat := if rk A (s ||| b1 i) = rk A s then v ||| b1 i else v
theorem q_span (h : iv M n r w A c Q P) (x y : Int32) : ag (w_X9_span 0 x y M) (w_X10_span 62 x y M) := by
  unfold ag
  have hn := iv_n h
  have hp := iv_p h
  simp only [w_X9_span, w_X9_span_18, w_X10_span, w_X10_span_16]
  rcases ru_cases h x with hx | ⟨i, hi, rfl⟩
  · exact ⟨-1, fun P k => c_ruleAt0 h hx (on k), fun P k => m_isRule0 h hx (bt rfl k)⟩
  rcases se_cases h y with hy | ⟨s, hs, rfl⟩
  · exact ⟨-1, fun P k => c_ruleAt h hi (os (c_isSet0 h hy (bt' rfl k))), fun P k => m_isRule h hi (bf one0 (m_isSet0 h hy (bt' rfl k)))⟩
  refine ⟨nI (fo (spf (A i) s) 0 n), fun Po k => c_ruleAt h hi (os (c_isSet h hs (bf' one0 ⟨_, lp (fun k v j => w_X9_span_26 Po 0 (nI s) (Q i) M k (nI v) (nI j)) n (fun j v => v = fo (spf (A i) s) 0 j) ?_ ?_ 0 0 (by omega) rfl⟩))), fun Po k => m_isRule h hi (bf one0 (m_isSet h hs (bf' one0 ⟨_, lp (fun k v j => w_X10_span_23 Po 62 (nI i) (nI s) M k (nI v) (nI j)) n (fun j v => v = fo (spf (A i) s) 0 j) ?_ ?_ 0 0 (by omega) rfl⟩)))⟩
  · intro k j v hj hv hk
    show w_X9_span_26 Po 0 (nI s) (Q i) M (k + 1) (nI v) (nI j)
    simp only [w_X9_span_26, w_X9_span_62, nI_1, forall_eq, h.2.1.2.1, nI_b1 j (by omega), nI_or]
    refine bf (nI_ge hj (by omega)) (c_rank h hi (sb_add hs hj) (c_rank h hi hs ?_))
    have k1 := rk_sm h (s := s ||| b1 j) hi
    have k2 := rk_sm h (s := s) hi
    rw [nI_eq (by omega) (by omega)]
    refine ⟨fun e => hk _ ?_, fun e => hk _ ?_⟩
    · rw [hv]; simp only [fo]; unfold spf; rw [if_neg e]
    · rw [hv]; simp only [fo]; rw [spf, if_pos e]
  · intro k' v hv
    show w_X9_span_26 Po 0 (nI s) (Q i) M (k' + 1) (nI v) (nI n)
    simp only [w_X9_span_26, h.2.1.2.1]
    exact bt (nI_le (by omega) (by omega)) (by rw [hv]; exact k)
  · intro k j v hj hv hk
    show w_X10_span_23 Po 62 (nI i) (nI s) M (k + 1) (nI v) (nI j)
    simp only [w_X10_span_23, w_X10_span_61, nI_1, forall_eq, h.2.1.2.2.2.2.1, nI_b1 j (by omega), nI_or]
    refine bf (nI_ge hj (by omega)) (m_rnk h hi (sb_add hs hj) (m_rnk h hi hs ?_))
    have k1 := rk_sm h (s := s ||| b1 j) hi
    have k2 := rk_sm h (s := s) hi
    rw [nI_eq (by omega) (by omega)]
    refine ⟨fun e => ?_, fun e => hk _ ?_⟩
    · rw [show (0 : Int32) = nI 0 from rfl, nI_or, Nat.or_zero]
      exact hk _ (by rw [hv]; simp only [fo]; unfold spf; rw [if_neg e])
    · rw [hv]; simp only [fo]; rw [spf, if_pos e]
  · intro k' v hv
    show w_X10_span_23 Po 62 (nI i) (nI s) M (k' + 1) (nI v) (nI n)
    simp only [w_X10_span_23, h.2.1.2.2.2.2.1]
    exact bt (nI_le (by omega) (by omega)) (by rw [hv]; exact k)
theorem and_b1 {s j : Nat} (hs : s < 4096) (hj : j < 16) : (nI (s &&& b1 j) = 0) ↔ s.testBit j = false := by
  have : s &&& b1 j ≤ s := Nat.and_le_left
  rw [nI_z (by omega), and0]
  constructor
  · intro e
    cases q : s.testBit j with
    | false => rfl
    | true =>
      have := e j q
      rw [b1_bit] at this
      simp at this
  · intro e i hi
    rw [b1_bit]
    by_cases q : j = i
    · subst q; rw [e] at hi; cases hi
    · simp [q]
def exf (A : Nat → Bool) (s wi : Nat) (i v : Nat) : Nat := if s.testBit i = true ∧ A (df wi (b1 i)) = true then v ||| b1 i else v
theorem q_exchange (h : iv M n r w A c Q P) (x y z : Int32) : ag (w_X9_exchange 0 x y z M) (w_X10_exchange 62 x y z M) := by
  unfold ag
  have hn := iv_n h
  have hp := iv_p h
  simp only [w_X9_exchange, w_X9_exchange_77, w_X9_exchange_52, w_X9_exchange_28, w_X10_exchange, w_X10_exchange_42, forall_eq]
  rcases ru_cases h x with hx | ⟨i, hi, rfl⟩
  · exact ⟨-1, fun P k => c_ruleAt0 h hx (on k), fun P k => m_isRule0 h hx (bt rfl k)⟩
  rcases se_cases h y with hy | ⟨s, hs, rfl⟩
  · exact ⟨-1, fun P k => c_ruleAt h hi (os (c_isSet0 h hy (bt rfl k))), fun P k => m_isRule h hi (bf one0 (m_isSet0 h hy (bt rfl k)))⟩
  rcases th_cases h z with hz | ⟨t, ht, rfl⟩
  · exact ⟨-1, fun P k => c_ruleAt h hi (os (c_isSet h hs (bf one0 (c_isThing0 h hz (bt' rfl k))))), fun P k => m_isRule h hi (bf one0 (m_isSet h hs (bf one0 (m_isThing0 h hz (bt rfl k)))))⟩
  have hw : s ||| b1 t < 2 ^ n := sb_add hs ht
  have e1 := nI_b1 t (by omega)
  simp only [e1, nI_or, nI_bit (k := s) (i := t) (by omega) (by omega)]
  cases ha : A i s with
  | false =>
    refine ⟨-1, fun P k => c_ruleAt h hi (os (c_isSet h hs (bf one0 (c_isThing h ht (bf' one0 (c_permits h hi hs ?_)))))), fun P k => m_isRule h hi (bf one0 (m_isSet h hs (bf one0 (m_isThing h ht (bf one0 (m_all h hi hs ?_))))))⟩
    · rw [ha]; exact bt rfl k
    · rw [ha]; exact bt rfl k
  | true =>
  cases hb : s.testBit t with
  | true =>
    have e2 : s ||| b1 t = s := sb_as (sb_or (sb_rf s) (sb_b1.mpr hb)) (sb_or_l s _)
    refine ⟨-1, fun P k => c_ruleAt h hi (os (c_isSet h hs (bf one0 (c_isThing h ht (bf' one0 (c_permits h hi hs ?_)))))), fun P k => m_isRule h hi (bf one0 (m_isSet h hs (bf one0 (m_isThing h ht (bf one0 (m_all h hi hs ?_))))))⟩
    · rw [ha, e2]; exact bf one0 (bt' rfl k)
    · rw [ha]; exact bf one0 (bt' rfl k)
  | false =>
  have e2 : ¬ nI (s ||| b1 t) = nI s := fun q => by
    have := (nI_eq (by omega) (by omega)).mp q
    have b : (s ||| b1 t).testBit t = true := by rw [Nat.testBit_or, b1_bit]; simp
    rw [this, hb] at b
    cases b
  cases hc : A i (s ||| b1 t) with
  | true =>
    refine ⟨0, fun P k => c_ruleAt h hi (os (c_isSet h hs (bf one0 (c_isThing h ht (bf' one0 (c_permits h hi hs ?_)))))), fun P k => m_isRule h hi (bf one0 (m_isSet h hs (bf one0 (m_isThing h ht (bf one0 (m_all h hi hs ?_))))))⟩
    · rw [ha]; exact bf one0 (bf' e2 (c_permits h hi hw (by rw [hc]; exact bf one0 k)))
    · rw [ha]; exact bf one0 (bf' (by decide) (m_all h hi hw (by rw [hc]; exact bf one0 k)))
  | false =>
    refine ⟨nI (fo (exf (A i) s (s ||| b1 t)) 0 n), fun Po k => c_ruleAt h hi (os (c_isSet h hs (bf one0 (c_isThing h ht (bf' one0 (c_permits h hi hs ?_)))))), fun Po k => m_isRule h hi (bf one0 (m_isSet h hs (bf one0 (m_isThing h ht (bf one0 (m_all h hi hs ?_))))))⟩
    · rw [ha]
      refine bf one0 (bf' e2 (c_permits h hi hw ?_))
      rw [hc]
      refine bt rfl ?_
      unfold w_X9_thingsThatMayGo
      refine ⟨_, lp (fun k v j => w_X9_thingsThatMayGo_6 (fun r => Po r) 0 (Q i) (nI s) (nI (s ||| b1 t)) M k (nI v) (nI j)) n (fun j v => v = fo (exf (A i) s (s ||| b1 t)) 0 j) ?_ ?_ 0 0 (by omega) rfl⟩
      · intro k j v hj hv hk
        show w_X9_thingsThatMayGo_6 (fun r => Po r) 0 (Q i) (nI s) (nI (s ||| b1 t)) M (k + 1) (nI v) (nI j)
        simp only [w_X9_thingsThatMayGo_6, w_X9_thingsThatMayGo_48, nI_1, forall_eq, h.2.1.2.1, nI_b1 j (by omega), nI_or, nI_and, nI_inv, and_b1 (s := s) (j := j) (by omega) (by omega)]
        refine bf (nI_ge hj (by omega)) ⟨fun e => hk _ ?_, fun e => ?_⟩
        · rw [hv]; simp only [fo]; unfold exf; rw [if_neg (by rw [e]; simp)]
        · refine c_permits h hi (sb_dff hw) (b0 (fun e' => hk _ ?_) (fun e' => hk _ ?_))
          · rw [hv]; simp only [fo]; rw [exf, if_pos ⟨by simpa using e, e'⟩]
          · rw [hv]; simp only [fo]; unfold exf; rw [if_neg (by rw [e']; simp)]
      · intro k' v hv
        show w_X9_thingsThatMayGo_6 (fun r => Po r) 0 (Q i) (nI s) (nI (s ||| b1 t)) M (k' + 1) (nI v) (nI n)
        simp only [w_X9_thingsThatMayGo_6, h.2.1.2.1]
        exact bt (nI_le (by omega) (by omega)) (by rw [hv]; exact k)
    · rw [ha]
      refine bf one0 (bf' (by decide) (m_all h hi hw ?_))
      rw [hc]
      refine bt rfl ⟨_, lp (fun k v j => w_X10_exchange_69 Po 62 (nI i) (nI s) (nI (s ||| b1 t)) M k (nI v) (nI j)) n (fun j v => v = fo (exf (A i) s (s ||| b1 t)) 0 j) ?_ ?_ 0 0 (by omega) rfl⟩
      · intro k j v hj hv hk
        show w_X10_exchange_69 Po 62 (nI i) (nI s) (nI (s ||| b1 t)) M (k + 1) (nI v) (nI j)
        simp only [w_X10_exchange_69, w_X10_exchange_114, w_X10_exchange_115, nI_1, forall_eq, h.2.1.2.2.2.2.1, nI_b1 j (by omega), nI_inv, nI_bit (k := s) (i := j) (by omega) (by omega)]
        have z0 : nI v ||| 0 = nI v := by rw [show (0 : Int32) = nI 0 from rfl, nI_or, Nat.or_zero]
        rw [z0, nI_or]
        refine bf (nI_ge hj (by omega)) (b1' (fun e => m_all h hi (sb_dff hw) (b0 (fun e' => hk _ ?_) (fun e' => hk _ ?_))) (fun e => hk _ ?_))
        · rw [hv]; simp only [fo]; rw [exf, if_pos ⟨e, e'⟩]
        · rw [hv]; simp only [fo]; unfold exf; rw [if_neg (by rw [e']; simp)]
        · rw [hv]; simp only [fo]; unfold exf; rw [if_neg (by rw [e]; simp)]
      · intro k' v hv
        show w_X10_exchange_69 Po 62 (nI i) (nI s) (nI (s ||| b1 t)) M (k' + 1) (nI v) (nI n)
        simp only [w_X10_exchange_69, h.2.1.2.2.2.2.1]
        exact bt (nI_le (by omega) (by omega)) (by rw [hv]; exact k)
end
