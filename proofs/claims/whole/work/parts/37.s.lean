/-! dealt: the class -/
section
variable {M : pm_M} {n r : Nat} {w : Nat → Nat} {A : Nat → Nat → Bool} {c : Nat} {Q P : Nat → Nat}
theorem c_may (h : iv M n r w A c Q P) {i : Nat} (hi : i < r) {g : Nat → Nat} {o k e J : Nat} (hk : k ≤ 12) (he : e < n) (hs : hps n k (A i) g o e) (hJ : J < k) (hJo : J ≤ o) (hmt : mt n k (A i) g e J) (hno : ∀ j, j < J → ¬ mt n k (A i) g e j) (hg : ∀ j, j < o → mI M 4 j = nI (g j)) {Post : Int32 → pm_M → Prop} (kk : ∀ M', kp (scr r) M M' → (∀ j, j < o → mI M' 4 j = nI (va_up g J (g J ||| b1 e) j)) → Post (nI J) M') : w_X9_heapThatMayTake 0 (Q i) (nI e) (nI o) (nI k) M Post := by
  have hn := iv_n h
  have hp := iv_p h
  have sc4 : ∀ t, scr r 4 t := fun t => by unfold scr; omega
  have hok := hs.2.2.1
  have gl : ∀ j, j < k → g j < 2 ^ n ∧ A i (g j) = true := fun j hj => ⟨(hs.1 j hj).1, (hs.1 j hj).2.1⟩
  have tr : ∀ (N : pm_M) (j : Nat), kp (scr r) M N → (∀ j, j < o → mI N 4 j = nI (g j)) → j < o → ∀ (P0 P1 : Prop), (¬ mt n k (A i) g e j → P0) → (mt n k (A i) g e j → P1) → w_X5_permits (Q i) (nI (g j ||| b1 e)) (sI N 4 j (nI (g j ||| b1 e))) (fun r_10 => ((r_10 = 0 → P0) ∧ (¬ r_10 = 0 → w_X9_restCanBeDealt 0 (Q i) (nI (e + 1)) (nI o) (nI k) (sI N 4 j (nI (g j ||| b1 e))) (fun r_12 => ((r_12 = 0 → P0) ∧ (¬ r_12 = 0 → P1)))))) := by
    intro N j kN hN hj P0 P1 h0 h1
    have iv7 := iv_kp h (kp_sI (a := 4) (k := j) (v := nI (g j ||| b1 e)) kN (sc4 j))
    refine c_permits iv7 hi (or_lt (gl j (by omega)).1 (b1_lt he)) (b0 (fun ea => ?_) (fun ea => h0 (fun q => by rw [q.1] at ea; cases ea)))
    have hs' := hps_put hs he (show j < k by omega) (by omega) ea
    rw [if_neg (show ¬ j = o by omega)] at hs'
    refine c_rest iv7 hi (g := va_up g j (g j ||| b1 e)) hok hk (by omega) (fun j' hj' => ⟨?_, (hs'.1 j' (by omega)).1, (hs'.1 j' (by omega)).2.1⟩) (fun j' hj' => hs'.2.2.2.1 j' hj') (fun q => bf one0 (h1 ⟨ea, q⟩)) (fun q => bt rfl (h0 (fun z => q z.2)))
    rw [mI_sI]
    by_cases z : j' = j
    · subst z; rw [if_pos ⟨rfl, rfl⟩, up_s]
    · rw [if_neg (by omega), up_n _ _ z]; exact hN j' hj'
  unfold w_X9_heapThatMayTake
  refine ⟨_, lp (fun k' (N : pm_M) j => w_X9_heapThatMayTake_3 Post 0 (Q i) (nI e) (nI o) (nI k) k' (nI j) N) J (fun j N => kp (scr r) M N ∧ ∀ j, j < o → mI N 4 j = nI (g j)) ?_ ?_ 0 M (Nat.zero_le _) ⟨kp_rf _ _, hg⟩⟩
  · intro k' j N hj ⟨kN, hN⟩ hk'
    show w_X9_heapThatMayTake_3 Post 0 (Q i) (nI e) (nI o) (nI k) (k' + 1) (nI j) N
    have iN := iv_kp h kN
    have vj : ∀ N', lay N' → vp_in (nI j) (mN N' 4) := fun N' hl => by rw [ln_4 hl]; exact vp_in_nI (by omega) (by decide)
    have iv7 := iv_kp h (kp_sI (a := 4) (k := j) (v := nI (g j ||| b1 e)) kN (sc4 j))
    have rest : ∀ N', N' = sI (sI N 4 j (nI (g j ||| b1 e))) 4 j (nI (g j)) → w_X9_heapThatMayTake_3 Post 0 (Q i) (nI e) (nI o) (nI k) k' (nI (j + 1)) N' := by
      intro N' e'
      refine hk' N' ⟨by rw [e']; exact kp_sI (kp_sI kN (sc4 j)) (sc4 j), fun j' hj' => ?_⟩
      rw [e', mI_sI]
      by_cases z : j' = j
      · subst z; rw [if_pos ⟨rfl, rfl⟩]
      · rw [if_neg (by omega), mI_sI, if_neg (by omega)]; exact hN j' hj'
    simp only [w_X9_heapThatMayTake_3, w_X9_heapThatMayTake_62, forall_eq, nI_1]
    refine bf (nI_ge (by omega) (by omega)) ⟨4, lr_0_3 iN.1, vj N iN.1, vj N iN.1, 4, ?_, ?_⟩
    · exact lr_0_3 (by rw [nI_clamp (by omega), hN j (by omega), nI_b1 e (by omega), nI_or]; exact iv7.1)
    · rw [nI_clamp (by omega), hN j (by omega), nI_b1 e (by omega), nI_or]
      refine ⟨vj _ iv7.1, ?_⟩
      rw [mI_sI, if_pos ⟨rfl, rfl⟩]
      refine tr N j kN hN (by omega) _ _ (fun _ => ⟨4, lr_0_3 iv7.1, vj _ iv7.1, rest _ rfl⟩) (fun q => absurd q (hno j hj))
  · intro k' N ⟨kN, hN⟩
    show w_X9_heapThatMayTake_3 Post 0 (Q i) (nI e) (nI o) (nI k) (k' + 1) (nI J) N
    have iN := iv_kp h kN
    by_cases q : J = o
    · subst q
      simp only [w_X9_heapThatMayTake_3]
      refine bt (nI_le (Nat.le_refl _) (by omega)) (kk N kN (fun j hj => ?_))
      rw [up_n _ _ (by omega)]; exact hN j hj
    · have vj : ∀ N', lay N' → vp_in (nI J) (mN N' 4) := fun N' hl => by rw [ln_4 hl]; exact vp_in_nI (by omega) (by decide)
      have iv7 := iv_kp h (kp_sI (a := 4) (k := J) (v := nI (g J ||| b1 e)) kN (sc4 J))
      simp only [w_X9_heapThatMayTake_3, w_X9_heapThatMayTake_62, forall_eq, nI_1]
      refine bf (nI_ge (by omega) (by omega)) ⟨4, lr_0_3 iN.1, vj N iN.1, vj N iN.1, 4, ?_, ?_⟩
      · exact lr_0_3 (by rw [nI_clamp (by omega), hN J (by omega), nI_b1 e (by omega), nI_or]; exact iv7.1)
      · rw [nI_clamp (by omega), hN J (by omega), nI_b1 e (by omega), nI_or]
        refine ⟨vj _ iv7.1, ?_⟩
        rw [mI_sI, if_pos ⟨rfl, rfl⟩]
        refine tr N J kN hN (by omega) _ _ (fun q => absurd hmt q) (fun _ => kk _ (kp_sI kN (sc4 J)) (fun j hj => ?_))
        rw [mI_sI]
        by_cases z : j = J
        · subst z; rw [if_pos ⟨rfl, rfl⟩, up_s]
        · rw [if_neg (by omega), up_n _ _ z]; exact hN j hj
theorem c_number (h : iv M n r w A c Q P) {i : Nat} (hi : i < r) (ha : alone n (A i)) {k : Nat} (hk : k ≤ 12) {f : Nat → (Nat → Nat) × Nat × Nat} (f0 : f 0 = ((fun _ => 0), 0, 0)) (hf : ∀ e, e ≤ n → (hps n k (A i) (f e).1 (f e).2.1 e ∧ dc k (fun _ => A i) (f e).1 (re n e)) ∧ (e < n → dst n k (A i) e (f e) (f (e + 1)))) (hfw : fwi (A i) (2 ^ n - 1) k) {t : Nat} (ht : t < n) {Post : Int32 → pm_M → Prop} (kk : ∀ M', kp (scr r) M M' → Post (nI (f (t + 1)).2.2) M') : w_X9_numberInDeal 0 (Q i) (nI t) M Post := by
  have hn := iv_n h
  have hp := iv_p h
  have sc4 : ∀ t, scr r 4 t := fun t => by unfold scr; omega
  unfold w_X9_numberInDeal
  refine c_crowded h hi ha (fun cr hcr => c_heaps h hi ha hcr.2.1 (by have := hcr.1; omega) ?_)
  rw [fwi_u (crw_fwi (by omega) (iv_mat h hi) ha hcr) hfw]
  refine ⟨_, lp (fun k' (s : pm_M × Nat × Nat) e => w_X9_numberInDeal_20 Post 0 (Q i) (nI t) (nI k) k' (nI s.2.1) (nI s.2.2) (nI e) s.1) (t + 1) (fun e s => kp (scr r) M s.1 ∧ s.2 = (f e).2 ∧ ∀ j, j < (f e).2.1 → mI s.1 4 j = nI ((f e).1 j)) ?_ ?_ 0 (M, 0, 0) (Nat.zero_le _) ⟨kp_rf _ _, by rw [f0], fun j hj => ?_⟩⟩
  · rintro k' e ⟨N, s2⟩ he ⟨kN, e2, hN⟩ hk'
    show w_X9_numberInDeal_20 Post 0 (Q i) (nI t) (nI k) (k' + 1) (nI s2.1) (nI s2.2) (nI e) N
    have e2' : s2 = (f e).2 := e2
    subst e2'
    have hN' : ∀ j, j < (f e).2.1 → mI N 4 j = nI ((f e).1 j) := hN
    have kN' : kp (scr r) M N := kN
    have iN := iv_kp h kN'
    obtain ⟨⟨hs, hd⟩, hst⟩ := hf e (by omega)
    obtain ⟨d1, d2, d3, d4, d5, d6⟩ := hst (by omega)
    have oe := hs.2.1
    simp only [w_X9_numberInDeal_20, w_X9_numberInDeal_69, w_X9_numberInDeal_75, forall_eq, nI_1]
    refine bf (nI_nlt (by omega) (by omega)) ⟨4, lr_0_3 iN.1, ?_⟩
    rw [ln_4 iN.1]
    refine bf (nI_ge (by omega) (by decide)) (c_may iN hi hk (by omega) hs d1 d2 d3 d6 hN' (fun M' hM' hg' => ?_))
    have iM' := iv_kp iN hM'
    by_cases q : (f (e + 1)).2.2 = (f e).2.1
    · rw [q]
      refine bt' rfl ⟨4, lr_0_3 iM'.1, by rw [ln_4 iM'.1]; exact vp_in_nI (by omega) (by decide), ?_⟩
      rw [nI_clamp (by omega), nI_b1 e (by omega)]
      have := hk' (sI M' 4 (f e).2.1 (nI (b1 e)), (f e).2.1 + 1, (f e).2.1) ⟨kp_sI (kp_tr kN' hM') (sc4 _), ?_, fun j hj => ?_⟩
      · exact this
      · show ((f e).2.1 + 1, (f e).2.1) = (f (e + 1)).2
        rw [if_pos q] at d5
        exact Prod.ext d5.symm q.symm
      · show mI (sI M' 4 (f e).2.1 (nI (b1 e))) 4 j = nI ((f (e + 1)).1 j)
        rw [if_pos q] at d5
        rw [d4, q, mI_sI]
        by_cases z : j = (f e).2.1
        · rw [if_pos ⟨rfl, z⟩, z, up_s, hs.2.2.2.1 _ (Nat.le_refl _), Nat.zero_or]
        · rw [if_neg (by omega), hg' j (by omega), q]
    · refine bf' (by rw [nI_eq (by omega) (by omega)]; exact q) ?_
      rw [if_neg q] at d5
      have := hk' (M', (f e).2.1, (f (e + 1)).2.2) ⟨kp_tr kN' hM', ?_, fun j hj => ?_⟩
      · exact this
      · show ((f e).2.1, (f (e + 1)).2.2) = (f (e + 1)).2
        exact Prod.ext d5.symm rfl
      · show mI M' 4 j = nI ((f (e + 1)).1 j)
        rw [d4]
        exact hg' j (by omega)
  · rintro k' ⟨N, s2⟩ ⟨kN, e2, hN⟩
    show w_X9_numberInDeal_20 Post 0 (Q i) (nI t) (nI k) (k' + 1) (nI s2.1) (nI s2.2) (nI (t + 1)) N
    have e2' : s2 = (f (t + 1)).2 := e2
    subst e2'
    simp only [w_X9_numberInDeal_20, w_X9_numberInDeal_75]
    exact bt (nI_lt (by omega) (by omega)) (kk N kN)
  · rw [f0] at hj
    exact absurd hj (Nat.not_lt_zero j)
end
