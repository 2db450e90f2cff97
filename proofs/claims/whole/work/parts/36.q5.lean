/-! ring, full -/
theorem least_ex {T : Nat → Prop} (s : Nat) (h : T s) : ∃ p, T p ∧ p ≤ s ∧ ∀ q, q < p → ¬ T q := by
  induction s using Nat.strongRecOn with
  | _ s ih =>
    by_cases g : ∃ q, q < s ∧ T q
    · obtain ⟨q, hq, hT⟩ := g
      obtain ⟨p, h1, h2, h3⟩ := ih q hq hT
      exact ⟨p, h1, by omega, h3⟩
    · exact ⟨s, h, Nat.le_refl _, fun q hq hT => g ⟨q, hq, hT⟩⟩
theorem nI_dec (i : Nat) : nI i + (-1) = nI i - 1 := by
  rw [Int32.sub_eq_add_neg]
theorem lt_of_bit {x y i : Nat} (h1 : ∀ j, i < j → x.testBit j = y.testBit j) (h2 : x.testBit i = false) (h3 : y.testBit i = true) : x < y := by
  have e : x >>> (i + 1) = y >>> (i + 1) := Nat.eq_of_testBit_eq (fun j => by rw [Nat.testBit_shiftRight, Nat.testBit_shiftRight]; exact h1 _ (by omega))
  rw [Nat.shiftRight_eq_div_pow, Nat.shiftRight_eq_div_pow, Nat.pow_succ, ← Nat.div_div_eq_div_mul, ← Nat.div_div_eq_div_mul] at e
  rw [Nat.testBit_eq_decide_div_mod_eq] at h2 h3
  have e2 : ¬ x / 2 ^ i % 2 = 1 := by simpa using h2
  have e3 : y / 2 ^ i % 2 = 1 := by simpa using h3
  have : x / 2 ^ i < y / 2 ^ i := by omega
  exact Nat.lt_of_not_le (fun q => absurd (Nat.div_le_div_right (c := 2 ^ i) q) (by omega))
theorem df0_iff {p s : Nat} : df p s = 0 ↔ sb p s := by
  constructor
  · intro e i hi
    have : (df p s).testBit i = false := by rw [e]; exact Nat.zero_testBit i
    rw [df_bit, hi] at this
    simpa using this
  · intro h
    apply Nat.eq_of_testBit_eq
    intro i
    rw [df_bit, Nat.zero_testBit]
    cases q : p.testBit i with
    | false => rfl
    | true => rw [h i q]; rfl
section
variable {M : pm_M} {n r : Nat} {w : Nat → Nat} {A : Nat → Nat → Bool} {c : Nat} {Q P : Nat → Nat}
theorem q_ring (h : iv M n r w A c Q P) (x y : Int32) : ag (w_X9_ring 0 x y M) (w_X10_ring 62 x y M) := by
  unfold ag
  have hn := iv_n h
  have hp := iv_p h
  simp only [w_X9_ring, w_X9_ring_18, w_X10_ring, w_X10_ring_16, forall_eq, h.2.1.2.1]
  rcases ru_cases h x with hx | ⟨i, hi, rfl⟩
  · exact ⟨-1, fun P k => c_ruleAt0 h hx (on k), fun P k => m_isRule0 h hx (bt rfl k)⟩
  rcases se_cases h y with hy | ⟨s, hs, rfl⟩
  · exact ⟨-1, fun P k => c_ruleAt h hi (os (c_isSet0 h hy (bt' rfl k))), fun P k => m_isRule h hi (bf one0 (m_isSet0 h hy (bt' rfl k)))⟩
  cases ha : A i s with
  | true =>
    refine ⟨0, fun P k => c_ruleAt h hi (os (c_isSet h hs (bf' one0 (c_permits h hi hs ?_)))), fun P k => m_isRule h hi (bf one0 (m_isSet h hs (bf' one0 ⟨1, ?_⟩)))⟩
    · rw [ha]; exact bf one0 k
    · simp only [w_X10_ring_20, w_X10_ring_59]
      refine bf (nI_nlt (b := 0) (a := s) (Nat.zero_le _) (by omega)) (m_all h hi hs ?_)
      rw [ha]; exact bf' one0 k
  | false =>
    obtain ⟨p0, ⟨h1, h2⟩, hle, h3⟩ := least_ex (T := fun p => sb p s ∧ A i p = false) s ⟨sb_rf s, ha⟩
    have dn := (iv_mat h hi).2.1
    have p0n : p0 < 2 ^ n := sb_lt h1 hs
    refine ⟨nI p0, fun Po k => c_ruleAt h hi (os (c_isSet h hs (bf' one0 (c_permits h hi hs ?_)))), fun Po k => m_isRule h hi (bf one0 (m_isSet h hs (bf' one0 ⟨_, lp (fun k (_ : Unit) p => w_X10_ring_20 Po 62 (nI i) (nI s) M k (nI p)) p0 (fun _ _ => True) ?_ ?_ 0 () (Nat.zero_le _) trivial⟩)))⟩
    · rw [ha]
      refine bt rfl ⟨_, lpd (fun k v j => w_X9_ring_41 Po (Q i) M k (nI v) (nI j - 1)) (fun j v => v < 2 ^ n ∧ A i v = false ∧ (∀ l, j ≤ l → v.testBit l = p0.testBit l) ∧ (∀ l, l < j → v.testBit l = s.testBit l) ∧ j ≤ n) ?_ ?_ n s ⟨hs, ha, fun l hl => ?_, fun l _ => rfl, Nat.le_refl _⟩⟩
      · intro k j v ⟨hv, hA, hh, hlo, hj⟩ hk
        show w_X9_ring_41 Po (Q i) M (k + 1) (nI v) (nI (j + 1) - 1)
        have hpred : nI (j + 1) - 1 = nI j := nI_pred j
        simp only [w_X9_ring_41, w_X9_ring_73, forall_eq, hpred, nI_b1 j (by omega), nI_inv, nI_dec]
        have hd : df v (b1 j) < 2 ^ n := sb_dff hv
        have bl : ∀ l, (df v (b1 j)).testBit l = (v.testBit l && !decide (j = l)) := fun l => by rw [df_bit, b1_bit]
        refine bf (nI_pos (by omega)) (c_permits h hi hd (b0' (fun e => hk _ ⟨hv, hA, fun l hl => ?_, fun l hl => hlo l (by omega), by omega⟩) (fun e => hk _ ⟨hd, e, fun l hl => ?_, fun l hl => ?_, by omega⟩)))
        · by_cases q : l = j
          · subst q
            have pj : p0.testBit l = true := by
              cases pj : p0.testBit l with
              | true => rfl
              | false =>
                have sbp : sb p0 (df v (b1 l)) := fun m hm => by
                  rw [bl]
                  have vm : v.testBit m = true := by
                    by_cases g : l + 1 ≤ m
                    · rw [hh m g]; exact hm
                    · rw [hlo m (by omega)]; exact h1 m hm
                  have : l ≠ m := fun q => by subst q; rw [pj] at hm; cases hm
                  simp [vm, this]
                have := dn p0 _ hd sbp e
                rw [h2] at this
                cases this
            rw [pj, hlo l (by omega)]
            exact h1 l pj
          · exact hh l (by omega)
        · by_cases q : l = j
          · subst q
            rw [bl]
            simp only [decide_true, Bool.not_true, Bool.and_false]
            cases pj : p0.testBit l with
            | false => rfl
            | true =>
              have lt : df v (b1 l) < p0 := lt_of_bit (i := l) (fun m hm => by
                rw [bl, hh m (by omega)]
                have : l ≠ m := by omega
                simp [this]) (by rw [bl]; simp) pj
              have sbs : sb (df v (b1 l)) s := fun m hm => by
                rw [bl] at hm
                have vm : v.testBit m = true := by
                  cases g : v.testBit m with
                  | true => rfl
                  | false => rw [g] at hm; cases hm
                by_cases g : l + 1 ≤ m
                · rw [hh m g] at vm; exact h1 m vm
                · rw [hlo m (by omega)] at vm; exact vm
              exact absurd ⟨sbs, e⟩ (h3 _ lt)
          · rw [bl]
            have : j ≠ l := fun q' => q q'.symm
            simp only [this, decide_false, Bool.not_false, Bool.and_true]
            exact hh l (by omega)
        · rw [bl]
          have : j ≠ l := by omega
          simp only [this, decide_false, Bool.not_false, Bool.and_true]
          exact hlo l (by omega)
      · intro k' v ⟨hv, hA, hh, hlo, hj⟩
        show w_X9_ring_41 Po (Q i) M (k' + 1) (nI v) (nI 0 - 1)
        simp only [w_X9_ring_41]
        refine bt (by decide) ?_
        rw [show v = p0 from Nat.eq_of_testBit_eq (fun l => hh l (Nat.zero_le _))]
        exact k
      · have b1' : s.testBit l = false := by
          cases g : s.testBit l with
          | false => rfl
          | true => exact absurd (bit_lt hs g) (by omega)
        have b2 : p0.testBit l = false := by
          cases g : p0.testBit l with
          | false => rfl
          | true => exact absurd (bit_lt p0n g) (by omega)
        rw [b1', b2]
    · intro k p _ hpp _ hk
      show w_X10_ring_20 Po 62 (nI i) (nI s) M (k + 1) (nI p)
      simp only [w_X10_ring_20, w_X10_ring_53, nI_1, forall_eq, nI_inv]
      refine bf (nI_nlt (by omega) (by omega)) (m_all h hi hs ?_)
      rw [ha]
      refine bt' rfl ?_
      have : df p s ≤ p := sb_le (sb_df p s)
      rw [nI_z (by omega), df0_iff]
      refine ⟨fun _ => hk () trivial, fun e => m_all h hi (sb_lt e hs) (b0' (fun _ => hk () trivial) (fun e' => absurd ⟨e, e'⟩ (h3 p hpp)))⟩
    · intro k' _ _
      show w_X10_ring_20 Po 62 (nI i) (nI s) M (k' + 1) (nI p0)
      simp only [w_X10_ring_20, nI_inv]
      refine bf (nI_nlt (by omega) (by omega)) (m_all h hi hs ?_)
      rw [ha]
      refine bt' rfl ?_
      have : df p0 s ≤ p0 := sb_le (sb_df p0 s)
      rw [nI_z (by omega), df0_iff]
      refine bt' h1 (m_all h hi p0n ?_)
      rw [h2]
      exact bt' rfl k
end
