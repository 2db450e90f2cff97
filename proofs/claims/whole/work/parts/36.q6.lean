/-! full -/
theorem kl_tr {wt : Nat → Nat} {lt : Bool} {i j l : Nat} (h : kl wt lt i j) (g : kl wt lt j l) : kl wt lt i l := by
  unfold kl at *
  cases lt <;> simp at * <;> omega
theorem wsn_le {wt : Nat → Nat} {s : Nat} : ∀ k, (∀ i, i < k → wt i ≤ 1000000) → wsn wt s k ≤ 1000000 * k := by
  intro k
  induction k with
  | zero => intro _; exact Nat.le_refl _
  | succ k ih =>
    intro h
    have h1 := ih (fun i hi => h i (by omega))
    have h2 := h k (by omega)
    simp only [wsn]
    split <;> omega
section
variable {M : pm_M} {n r : Nat} {w : Nat → Nat} {A : Nat → Nat → Bool} {c : Nat} {Q P : Nat → Nat}
theorem iv_w (h : iv M n r w A c Q P) {i : Nat} (hi : i < 12) : w i ≤ 1000000 := (h.2.2.1 i hi).1
theorem c_ahead (h : iv M n r w A c Q P) {i j : Nat} {lt : Bool} (hi : i < 12) (hj : j < 12) {Post : Int32 → Prop} (k : ∀ b : Bool, (b = true ↔ if lt = true then w i < w j else w j < w i) → Post (bI b)) : w_X9_goesAhead 0 (nI i) (nI j) (bI lt) M Post := by
  have wi := iv_w h hi
  have wj := iv_w h hj
  simp only [w_X9_goesAhead, w_X9_goesAhead_47, nI_clamp (n := i) (by omega), nI_clamp (n := j) (by omega)]
  have fin : ∀ (x y : Nat), x ≤ 1000000 → y ≤ 1000000 → (∀ b : Bool, (b = true ↔ y < x) → Post (bI b)) → ((nI x ≤ nI y → Post 0) ∧ (¬ nI x ≤ nI y → Post 1)) := by
    intro x y hx hy q
    rw [nI_leI (by omega) (by omega)]
    exact ⟨fun e => q false ⟨fun e' => (by cases e'), fun e' => absurd e' (by omega)⟩, fun e => q true ⟨fun _ => by omega, fun _ => rfl⟩⟩
  cases lt with
  | false =>
    refine bt rfl ⟨3, lr_0_2 h.1, by rw [ln_3 h.1]; exact vp_in_nI (by omega) (by decide), by rw [ln_3 h.1]; exact vp_in_nI (by omega) (by decide), ?_⟩
    rw [(h.2.2.1 i hi).2.1, (h.2.2.1 j hj).2.1]
    have f := fin _ _ wi wj (fun b hb => k b (by simpa using hb))
    exact ⟨fun e => ⟨by decide, f.1 e⟩, fun e => ⟨by decide, f.2 e⟩⟩
  | true =>
    refine bf (by decide) ⟨3, lr_0_2 h.1, by rw [ln_3 h.1]; exact vp_in_nI (by omega) (by decide), by rw [ln_3 h.1]; exact vp_in_nI (by omega) (by decide), ?_⟩
    rw [(h.2.2.1 i hi).2.1, (h.2.2.1 j hj).2.1]
    have f := fin _ _ wj wi (fun b hb => k b (by simpa using hb))
    exact ⟨fun e => ⟨by decide, f.1 e⟩, fun e => ⟨by decide, f.2 e⟩⟩
/-- the first of the things below m that P has not, in the order of kl -/
def fst (wt : Nat → Nat) (lt : Bool) (U : Nat → Prop) (m : Nat) (v : Int32) : Prop := (v = -1 ∧ ∀ j, j < m → ¬ U j) ∨ ∃ b, b < m ∧ v = nI b ∧ U b ∧ ∀ j, j < m → U j → j = b ∨ kl wt lt b j
theorem fst_no {wt : Nat → Nat} {lt : Bool} {U : Nat → Prop} {m : Nat} {v : Int32} (h : fst wt lt U m v) (g : ¬ U m) : fst wt lt U (m + 1) v := by
  rcases h with ⟨e, h⟩ | ⟨b, hb, e, hU, h⟩
  · refine Or.inl ⟨e, fun j hj => ?_⟩
    by_cases q : j = m
    · subst q; exact g
    · exact h j (by omega)
  · refine Or.inr ⟨b, by omega, e, hU, fun j hj hu => ?_⟩
    by_cases q : j = m
    · subst q; exact absurd hu g
    · exact h j (by omega) hu
theorem fst_new {wt : Nat → Nat} {lt : Bool} {U : Nat → Prop} {m : Nat} (h : fst wt lt U m (-1)) (hm : m < 64) (g : U m) : fst wt lt U (m + 1) (nI m) := by
  rcases h with ⟨e, h⟩ | ⟨b, hb, e, hU, h⟩
  · refine Or.inr ⟨m, by omega, rfl, g, fun j hj hu => ?_⟩
    by_cases q : j = m
    · exact Or.inl q
    · exact absurd hu (h j (by omega))
  · exact absurd e.symm (m1 (by omega))
theorem fst_up {wt : Nat → Nat} {lt : Bool} {U : Nat → Prop} {m b : Nat} (h : fst wt lt U m (nI b)) (hb : b < 64) (hm : m < 64) (g : U m) (hs : if lt = true then wt m < wt b else wt b < wt m) : fst wt lt U (m + 1) (nI m) := by
  rcases h with ⟨e, h⟩ | ⟨b', hb', e, hU, h⟩
  · exact absurd e (m1 (by omega))
  · have : b = b' := (nI_eq (by omega) (by omega)).mp e
    subst this
    refine Or.inr ⟨m, by omega, rfl, g, fun j hj hu => ?_⟩
    by_cases q : j = m
    · exact Or.inl q
    · have kb : kl wt lt m b := Or.inl hs
      rcases h j (by omega) hu with e1 | e1
      · subst e1; exact Or.inr kb
      · exact Or.inr (kl_tr kb e1)
theorem fst_keep {wt : Nat → Nat} {lt : Bool} {U : Nat → Prop} {m b : Nat} (h : fst wt lt U m (nI b)) (hb : b < 64) (hm : m < 64) (hs : ¬ if lt = true then wt m < wt b else wt b < wt m) : fst wt lt U (m + 1) (nI b) := by
  rcases h with ⟨e, h⟩ | ⟨b', hb', e, hU, h⟩
  · exact absurd e (m1 (by omega))
  · have : b = b' := (nI_eq (by omega) (by omega)).mp e
    subst this
    refine Or.inr ⟨b, by omega, rfl, hU, fun j hj hu => ?_⟩
    by_cases q : j = m
    · subst q
      refine Or.inr ?_
      unfold kl
      cases lt <;> simp at * <;> omega
    · exact h j (by omega) hu
theorem fst_is {wt : Nat → Nat} {lt : Bool} {U : Nat → Prop} {m : Nat} {v : Int32} (h : fst wt lt U m v) : v = -1 ∨ ∃ b, b < m ∧ v = nI b := by
  rcases h with ⟨e, h⟩ | ⟨b', hb', e, hU, h⟩
  · exact Or.inl e
  · exact Or.inr ⟨b', hb', e⟩
theorem c_next (h : iv M n r w A c Q P) {S : Nat} {lt : Bool} (hS : S < 2 ^ n) (hex : ∃ j, j < n ∧ S.testBit j = false) {Post : Int32 → Prop} (k : ∀ e, e < n → S.testBit e = false → (∀ j, j < n → S.testBit j = false → j = e ∨ kl w lt e j) → Post (nI e)) : w_X9_nextByWeight 0 (nI S) (bI lt) M Post := by
  have hn := iv_n h
  have hp := iv_p h
  unfold w_X9_nextByWeight
  refine ⟨_, lp (fun k (v : Int32) j => w_X9_nextByWeight_5 Post 0 (nI S) (bI lt) M k v (nI j)) n (fun j v => fst w lt (fun j => S.testBit j = false) j v) ?_ ?_ 0 (-1) (by omega) (Or.inl ⟨rfl, fun j hj => absurd hj (by omega)⟩)⟩
  · intro k j v hj hv hk
    show w_X9_nextByWeight_5 Post 0 (nI S) (bI lt) M (k + 1) v (nI j)
    simp only [w_X9_nextByWeight_5, w_X9_nextByWeight_38, w_X9_nextByWeight_41, nI_1, forall_eq, h.2.1.2.1, nI_bit (k := S) (i := j) (by omega) (by omega)]
    refine bf (nI_ge hj (by omega)) (b0' (fun e => hk _ (fst_no hv (by rw [e]; decide))) (fun e => ?_))
    rcases fst_is hv with q | ⟨b, hb, q⟩
    · subst q
      exact bt (by decide) (hk _ (fst_new hv (by omega) e))
    · subst q
      refine bf (nI_pos (by omega)) (c_ahead h (by omega) (by omega) (fun b' hb' => b0 (fun e' => hk _ ?_) (fun e' => hk _ ?_)))
      · exact fst_up hv (by omega) (by omega) e (hb'.mp e')
      · exact fst_keep hv (by omega) (by omega) (fun q => by rw [hb'.mpr q] at e'; cases e')
  · intro k' v hv
    show w_X9_nextByWeight_5 Post 0 (nI S) (bI lt) M (k' + 1) v (nI n)
    simp only [w_X9_nextByWeight_5, h.2.1.2.1]
    refine bt (nI_le (by omega) (by omega)) ?_
    rcases hv with ⟨e, g⟩ | ⟨b, hb, e, hU, g⟩
    · obtain ⟨j, hj, hj2⟩ := hex
      exact absurd hj2 (g j hj)
    · subst e
      exact w_max (b := 0) (by omega) (by decide) (by rw [Nat.max_eq_left (Nat.zero_le _)]; exact k b hb hU g)
theorem c_full (h : iv M n r w A c Q P) {i : Nat} (hi : i < r) {lt : Bool} {Post : Int32 → Prop} (k : ∀ C, C < 2 ^ n → gi n (A i) w lt (2 ^ n - 1) C → Post (nI C)) : w_X9_full 0 (nI i) (bI lt) M Post := by
  have hn := iv_n h
  have hp := iv_p h
  have h0 := Nat.two_pow_pos n
  unfold w_X9_full
  refine c_ruleAt h hi (os ⟨_, lp (fun k (s : Nat × Nat) j => w_X9_full_21 Post 0 (bI lt) (Q i) M k (nI s.1) (nI s.2) (nI j)) n (fun j s => gi n (A i) w lt s.2 s.1 ∧ bc s.2 = j) ?_ ?_ 0 (0, 0) (by omega) ⟨gi_0 (iv_mat h hi) w lt, bc_0⟩⟩)
  · intro k j s hj hv hk
    show w_X9_full_21 Post 0 (bI lt) (Q i) M (k + 1) (nI s.1) (nI s.2) (nI j)
    simp only [w_X9_full_21, w_X9_full_67, nI_1, forall_eq, h.2.1.2.1]
    obtain ⟨g, gb⟩ := hv
    have hC : s.1 < 2 ^ n := sb_lt g.2.1 g.1
    have hex : ∃ j, j < n ∧ s.2.testBit j = false := by
      have : bc s.2 < bc (2 ^ n - 1) := by
        have : bc (2 ^ n - 1) = n := by
          rw [← bcn_n (k := n) (by omega) (by omega)]
          have : ∀ k, k ≤ n → bcn k (2 ^ n - 1) = k := by
            intro k
            induction k with
            | zero => intro _; rfl
            | succ k ih =>
              intro hk
              simp only [bcn]
              rw [ih (by omega), if_pos (by rw [Nat.testBit_two_pow_sub_one]; simpa using (show k < n by omega))]
          exact this n (Nat.le_refl _)
        omega
      obtain ⟨l, _, hl1, hl2⟩ := bc_more this
      exact ⟨l, bit_lt (by omega) hl1, hl2⟩
    refine bf (nI_ge hj (by omega)) (c_next h g.1 hex (fun e he hU hF => ?_))
    rw [nI_b1 e (by omega), nI_or, nI_or]
    have st := gi_step (by omega) (iv_mat h hi) g he hU hF
    have be : bc (s.2 ||| b1 e) = j + 1 := by rw [bc_add (by omega) hU, gb]
    refine c_permits h hi (sb_add hC he) (b0 (fun e' => hk (s.1 ||| b1 e, s.2 ||| b1 e) ⟨?_, be⟩) (fun e' => hk (s.1, s.2 ||| b1 e) ⟨?_, be⟩))
    · rw [if_pos e'] at st; exact st
    · rw [if_neg (by rw [e']; decide)] at st; exact st
  · intro k' s hv
    show w_X9_full_21 Post 0 (bI lt) (Q i) M (k' + 1) (nI s.1) (nI s.2) (nI n)
    simp only [w_X9_full_21, h.2.1.2.1]
    obtain ⟨g, gb⟩ := hv
    have e : s.2 = 2 ^ n - 1 := by
      refine bc_eq (n := n) (by omega) (by omega) (fun l hl => ?_) ?_
      · rw [Nat.testBit_two_pow_sub_one]; simpa using bit_lt g.1 hl
      · rw [gb]; exact bc_le_n (by omega)
    refine bt (nI_le (by omega) (by omega)) (k _ (sb_lt g.2.1 g.1) ?_)
    rw [← e]
    exact g
/-- what isBetter says -/
def btr (n : Nat) (wt : Nat → Nat) (lt : Bool) (s t : Nat) (b : Bool) : Prop := (wsn wt s n ≠ wsn wt t n → (b = true ↔ if lt = true then wsn wt s n < wsn wt t n else wsn wt t n < wsn wt s n)) ∧ (wsn wt s n = wsn wt t n → ∀ f, f < n → s.testBit f ≠ t.testBit f → (∀ j, j < n → s.testBit j ≠ t.testBit j → j = f ∨ kl wt lt f j) → b = s.testBit f)
theorem m_better (h : iv M n r w A c Q P) {s t : Nat} {lt : Bool} (hs : s < 2 ^ n) (ht : t < 2 ^ n) {Post : Int32 → Prop} (k : ∀ b, btr n w lt s t b → Post (bI b)) : w_X10_isBetter 62 (nI s) (nI t) (bI lt) M Post := by
  have hn := iv_n h
  have hp := iv_p h
  have b1w : wsn w s n ≤ 1000000 * n := wsn_le n (fun i hi => iv_w h (by omega))
  have b2w : wsn w t n ≤ 1000000 * n := wsn_le n (fun i hi => iv_w h (by omega))
  have l1 : wsn w s n < 2 ^ 31 := by omega
  have l2 : wsn w t n < 2 ^ 31 := by omega
  simp only [w_X10_isBetter, w_X10_isBetter_52]
  refine m_weightOf h hs (m_weightOf h ht ?_)
  rw [nI_eq l1 l2, nI_leI l1 l2, nI_leI l2 l1]
  refine ⟨fun e => ?_, fun e => ?_⟩
  · refine ⟨_, lp (fun k (v : Int32) j => w_X10_isBetter_59 Post 62 (nI s) (nI t) (bI lt) M k v (nI j)) n (fun j v => fst w lt (fun j => s.testBit j ≠ t.testBit j) j v) ?_ ?_ 0 (-1) (by omega) (Or.inl ⟨rfl, fun j hj => absurd hj (by omega)⟩)⟩
    · intro k j v hj hv hk
      show w_X10_isBetter_59 Post 62 (nI s) (nI t) (bI lt) M (k + 1) v (nI j)
      have hx : s ^^^ t < 2 ^ n := Nat.xor_lt_two_pow hs ht
      simp only [w_X10_isBetter_59, w_X10_isBetter_85, w_X10_isBetter_139, w_X10_isBetter_143, nI_1, forall_eq, h.2.1.2.2.2.2.1, nI_xor, nI_bit (k := s ^^^ t) (i := j) (by omega) (by omega)]
      refine bf (nI_ge hj (by omega)) (b1' (fun e => ?_) (fun e => bt (by trivial) (hk _ (fst_no hv ?_))))
      · have hU : s.testBit j ≠ t.testBit j := by
          rw [Nat.testBit_xor] at e
          simpa using e
        refine bf one0 ?_
        rcases fst_is hv with q | ⟨b, hb, q⟩
        · subst q
          exact bt rfl (hk _ (fst_new hv (by omega) hU))
        · subst q
          have cj : (nI j).toNatClampNeg = j := nI_clamp (by omega)
          have cb : (nI b).toNatClampNeg = b := nI_clamp (by omega)
          have wj := iv_w h (i := j) (by omega)
          have wb := iv_w h (i := b) (by omega)
          rw [cj, cb]
          refine bf (m1 (by omega)) ?_
          cases hlt : lt with
          | false =>
            rw [hlt] at hk hv
            refine bt rfl ⟨63, lr_62_2 h.1, by rw [ln_63 h.1]; exact vp_in_nI (by omega) (by decide), by rw [ln_63 h.1]; exact vp_in_nI (by omega) (by decide), ?_⟩
            rw [(h.2.2.1 j (by omega)).2.2, (h.2.2.1 b (by omega)).2.2, nI_leI (by omega) (by omega)]
            exact ⟨fun q => hk _ (fst_keep hv (by omega) (by omega) (by simpa using q)), fun q => hk _ (fst_up hv (by omega) (by omega) hU (by simpa using q))⟩
          | true =>
            rw [hlt] at hk hv
            refine bf (by decide) ⟨63, lr_62_2 h.1, by rw [ln_63 h.1]; exact vp_in_nI (by omega) (by decide), by rw [ln_63 h.1]; exact vp_in_nI (by omega) (by decide), ?_⟩
            rw [(h.2.2.1 j (by omega)).2.2, (h.2.2.1 b (by omega)).2.2, nI_leI (by omega) (by omega)]
            exact ⟨fun q => hk _ (fst_keep hv (by omega) (by omega) (by simpa using q)), fun q => hk _ (fst_up hv (by omega) (by omega) hU (by simpa using q))⟩
      · rw [Nat.testBit_xor] at e
        simpa using e
    · intro k' v hv
      show w_X10_isBetter_59 Post 62 (nI s) (nI t) (bI lt) M (k' + 1) v (nI n)
      simp only [w_X10_isBetter_59, w_X10_isBetter_169, w_X10_isBetter_170, h.2.1.2.2.2.2.1]
      refine bt (nI_le (by omega) (by omega)) ?_
      rcases hv with ⟨e', g⟩ | ⟨b, hb, e', hU, g⟩
      · exact bt e' ⟨by decide, k false ⟨fun q => absurd e q, fun _ f hf hd _ => absurd hd (g f hf)⟩⟩
      · subst e'
        rw [nI_bit (by omega) (by omega)]
        have un : ∀ f, f < n → s.testBit f ≠ t.testBit f → (∀ j, j < n → s.testBit j ≠ t.testBit j → j = f ∨ kl w lt f j) → b = f := fun f hf hd hmin => by
          rcases hmin b hb hU with q | q
          · exact q
          · rcases g f hf hd with q' | q'
            · exact q'.symm
            · exact (kl_as q q').elim
        refine bf (m1 (by omega)) (b1' (fun q => ⟨by decide, k true ⟨fun q' => absurd e q', fun _ f hf hd hmin => ?_⟩⟩) (fun q => ⟨by decide, k false ⟨fun q' => absurd e q', fun _ f hf hd hmin => ?_⟩⟩))
        · rw [← un f hf hd hmin]; exact q.symm
        · rw [← un f hf hd hmin]; exact q.symm
  · have ne : wsn w s n = wsn w t n → ∀ {X : Prop}, X := fun q => absurd q e
    cases hlt : lt with
    | false =>
      rw [hlt] at k
      refine bt rfl ⟨fun q => ⟨by decide, k false ⟨fun _ => ?_, fun q' => ne q'⟩⟩, fun q => ⟨by decide, k true ⟨fun _ => ?_, fun q' => ne q'⟩⟩⟩
      · simpa using q
      · simpa using q
    | true =>
      rw [hlt] at k
      refine bf (by decide) ⟨fun q => ⟨by decide, k false ⟨fun _ => ?_, fun q' => ne q'⟩⟩, fun q => ⟨by decide, k true ⟨fun _ => ?_, fun q' => ne q'⟩⟩⟩
      · simpa using q
      · simpa using q
def fl (n : Nat) (A : Nat → Bool) (s : Nat) : Bool := A s && decide (bc s = rk A (2 ^ n - 1))
theorem m_isFull (h : iv M n r w A c Q P) {i s : Nat} (hi : i < r) (hs : s < 2 ^ n) {Post : Int32 → Prop} (k : Post (bI (fl n (A i) s))) : w_X10_isFull 62 (nI i) (nI s) M Post := by
  have hp := iv_p h
  have h0 := Nat.two_pow_pos n
  simp only [w_X10_isFull, w_X10_isFull_29, w_X10_isFull_30, h.2.1.2.2.2.2.2.1]
  have k1 := rk_sm h (s := 2 ^ n - 1) hi
  refine m_all h hi hs (b0 (fun e => m_bits (by omega) (m_rnk h hi (by omega) ?_)) (fun e => ⟨by decide, ?_⟩))
  · rw [nI_eq (bc_sm _) (by omega)]
    refine ⟨fun e' => ⟨by decide, ?_⟩, fun e' => ⟨by decide, ?_⟩⟩
    · rw [show fl n (A i) s = false by simp [fl, e']] at k; exact k
    · rw [show fl n (A i) s = true by simp [fl, e', e]] at k; exact k
  · rw [show fl n (A i) s = false by simp [fl, e]] at k; exact k
theorem m_full (h : iv M n r w A c Q P) {i C : Nat} (hi : i < r) {lt : Bool} (hC : C < 2 ^ n) (g : gi n (A i) w lt (2 ^ n - 1) C) {Post : Int32 → Prop} (k : Post (nI C)) : w_X10_full 62 (nI i) (bI lt) M Post := by
  have hn := iv_n h
  have hp := iv_p h
  have h0 := Nat.two_pow_pos n
  have fC : fl n (A i) C = true := by simp [fl, g.2.2.1, g.2.2.2.1]
  have cmp : ∀ s, s < 2 ^ n → fl n (A i) s = true → (if lt = true then wsn w C n ≤ wsn w s n else wsn w s n ≤ wsn w C n) ∧ (C = s ∨ ∃ f, f < n ∧ C.testBit f = true ∧ s.testBit f = false ∧ ∀ j, j < n → C.testBit j ≠ s.testBit j → j = f ∨ kl w lt f j) := fun s hs e => by
    have e1 : A i s = true ∧ bc s = rk (A i) (2 ^ n - 1) := by simpa [fl] using e
    exact gi_end (by omega) rfl g hs e1.1 e1.2
  unfold w_X10_full
  refine m_isRule h hi (bf' one0 ⟨_, lp (fun k (v : Int32) s => w_X10_full_15 Post 62 (nI i) (bI lt) M k v (nI s)) (2 ^ n) (fun s v => (v = -1 ∧ s ≤ C) ∨ ∃ t, t < s ∧ v = nI t ∧ fl n (A i) t = true ∧ (C < s → t = C)) ?_ ?_ 0 (-1) (by omega) (Or.inl ⟨rfl, Nat.zero_le _⟩)⟩)
  · intro k s v hs hv hk
    show w_X10_full_15 Post 62 (nI i) (bI lt) M (k + 1) v (nI s)
    simp only [w_X10_full_15, w_X10_full_50, w_X10_full_53, nI_1, forall_eq, h.2.1.2.2.2.2.2.1]
    refine bf (nI_nlt (by omega) (by omega)) (m_isFull h hi hs (b0 (fun e => ?_) (fun e => hk _ ?_)))
    · rcases hv with ⟨e1, e2⟩ | ⟨t, ht, e1, e2, e3⟩
      · subst e1
        exact bt rfl (hk _ (Or.inr ⟨s, by omega, rfl, e, fun q => by omega⟩))
      · subst e1
        refine bf (m1 (by omega)) (m_better h hs (by omega) (fun b hb => b0 (fun e4 => hk _ (Or.inr ⟨s, by omega, rfl, e, fun q => ?_⟩)) (fun e4 => hk _ (Or.inr ⟨t, by omega, rfl, e2, fun q => ?_⟩))))
        · by_cases q2 : C = s
          · exact q2.symm
          · exfalso
            have tc : t = C := e3 (by omega)
            subst tc
            obtain ⟨c1, c2⟩ := cmp s hs e
            rcases c2 with c2 | ⟨f, hf, f1, f2, f3⟩
            · omega
            · by_cases we : wsn w s n = wsn w t n
              · have := hb.2 we f hf (by rw [f1, f2]; decide) (fun j hj hd => f3 j hj (fun q => hd q.symm))
                rw [e4, f2] at this
                cases this
              · have := (hb.1 we).mp e4
                cases lt <;> simp at * <;> omega
        · by_cases q2 : C = s
          · exfalso
            subst q2
            obtain ⟨c1, c2⟩ := cmp t (by omega) e2
            rcases c2 with c2 | ⟨f, hf, f1, f2, f3⟩
            · omega
            · by_cases we : wsn w C n = wsn w t n
              · have := hb.2 we f hf (by rw [f1, f2]; decide) f3
                rw [e4, f1] at this
                cases this
              · have hh := hb.1 we
                rw [e4] at hh
                cases lt <;> simp at * <;> omega
          · exact e3 (by omega)
    · rcases hv with ⟨e1, e2⟩ | ⟨t, ht, e1, e2, e3⟩
      · refine Or.inl ⟨e1, ?_⟩
        by_cases q : s = C
        · subst q; rw [fC] at e; cases e
        · omega
      · refine Or.inr ⟨t, by omega, e1, e2, fun q => ?_⟩
        by_cases q2 : s = C
        · subst q2; rw [fC] at e; cases e
        · exact e3 (by omega)
  · intro k' v hv
    show w_X10_full_15 Post 62 (nI i) (bI lt) M (k' + 1) v (nI (2 ^ n))
    simp only [w_X10_full_15, h.2.1.2.2.2.2.2.1]
    refine bt (nI_lt (by omega) (by omega)) ?_
    rcases hv with ⟨e1, e2⟩ | ⟨t, ht, e1, e2, e3⟩
    · omega
    · rw [e1, e3 hC]
      exact k
theorem q_full (h : iv M n r w A c Q P) (x : Int32) (lt : Bool) : ∀ K : Int32 → Int32 → Prop, (∀ v, K v v) → w_X9_full 0 x (bI lt) M (fun a => w_X10_full 62 x (bI lt) M (fun b => K a b)) := by
  intro K k
  rcases ru_cases h x with hx | ⟨i, hi, rfl⟩
  · unfold w_X9_full w_X10_full
    exact c_ruleAt0 h hx (on (m_isRule0 h hx (bt' rfl (k _))))
  · exact c_full h hi (fun C hC g => m_full h hi hC g (k _))
end
