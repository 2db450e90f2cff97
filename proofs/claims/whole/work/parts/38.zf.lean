/-! one call after another -/
theorem law_ag {W1 W2 : (Int32 → Prop) → Prop} (h : ag W1 W2) {C : Prop} (k : C) : W1 (fun a => W2 (fun b => (a = b → C) ∧ (¬ a = b → False))) := by
  obtain ⟨v, h1, h2⟩ := h
  exact h1 _ (h2 _ ⟨fun _ => k, fun q => q rfl⟩)
theorem law_k {C : pm_M → Prop} (k : ∀ M', IV M' → C M') : ∀ (v : Int32) (M' : pm_M), IV M' → ((v = v → C M') ∧ (¬ v = v → False)) := fun _ M' hM => ⟨fun _ => k M' hM, fun q => q rfl⟩
theorem law_step {L : Nat} {xs : Nat → Int32} {i : Nat} {M : pm_M} {k18 : Int32 → pm_M → Prop} (hL : L ≤ 3072) (hi : 6 * i + 6 ≤ L) (hM : IV M) (kk : ∀ M', IV M' → k18 (nI (6 * (i + 1))) M') : ((((xs (nI (6 * i)).toNatClampNeg) &&& (31 : Int32)) = 0 → w_L_law_168 L xs k18 0 62 (nI (6 * i)) M) ∧ (((xs (nI (6 * i)).toNatClampNeg) &&& (31 : Int32)) = 1 → w_L_law_191 L xs k18 0 62 (nI (6 * i)) M) ∧ (((xs (nI (6 * i)).toNatClampNeg) &&& (31 : Int32)) = 2 → w_L_law_224 L xs k18 0 62 (nI (6 * i)) M) ∧ (((xs (nI (6 * i)).toNatClampNeg) &&& (31 : Int32)) = 3 → w_L_law_267 L xs k18 0 62 (nI (6 * i)) M) ∧ (((xs (nI (6 * i)).toNatClampNeg) &&& (31 : Int32)) = 4 → w_L_law_290 L xs k18 0 62 (nI (6 * i)) M) ∧ (((xs (nI (6 * i)).toNatClampNeg) &&& (31 : Int32)) = 5 → w_L_law_363 L xs k18 0 62 (nI (6 * i)) M) ∧ (((xs (nI (6 * i)).toNatClampNeg) &&& (31 : Int32)) = 6 → w_L_law_397 L xs k18 0 62 (nI (6 * i)) M) ∧ (((xs (nI (6 * i)).toNatClampNeg) &&& (31 : Int32)) = 7 → w_L_law_460 L xs k18 0 62 (nI (6 * i)) M) ∧ (((xs (nI (6 * i)).toNatClampNeg) &&& (31 : Int32)) = 8 → w_L_law_493 L xs k18 0 62 (nI (6 * i)) M) ∧ (((xs (nI (6 * i)).toNatClampNeg) &&& (31 : Int32)) = 9 → w_L_law_526 L xs k18 0 62 (nI (6 * i)) M) ∧ (((xs (nI (6 * i)).toNatClampNeg) &&& (31 : Int32)) = 10 → w_L_law_559 L xs k18 0 62 (nI (6 * i)) M) ∧ (((xs (nI (6 * i)).toNatClampNeg) &&& (31 : Int32)) = 11 → w_L_law_582 L xs k18 0 62 (nI (6 * i)) M) ∧ (((xs (nI (6 * i)).toNatClampNeg) &&& (31 : Int32)) = 12 → w_L_law_615 L xs k18 0 62 (nI (6 * i)) M) ∧ (((xs (nI (6 * i)).toNatClampNeg) &&& (31 : Int32)) = 13 → w_L_law_638 L xs k18 0 62 (nI (6 * i)) M) ∧ (((xs (nI (6 * i)).toNatClampNeg) &&& (31 : Int32)) = 14 → w_L_law_671 L xs k18 0 62 (nI (6 * i)) M) ∧ (((xs (nI (6 * i)).toNatClampNeg) &&& (31 : Int32)) = 15 → w_L_law_704 L xs k18 0 62 (nI (6 * i)) M) ∧ (((xs (nI (6 * i)).toNatClampNeg) &&& (31 : Int32)) = 16 → w_L_law_737 L xs k18 0 62 (nI (6 * i)) M) ∧ (((xs (nI (6 * i)).toNatClampNeg) &&& (31 : Int32)) = 17 → w_L_law_770 L xs k18 0 62 (nI (6 * i)) M) ∧ (((xs (nI (6 * i)).toNatClampNeg) &&& (31 : Int32)) = 18 → w_L_law_803 L xs k18 0 62 (nI (6 * i)) M) ∧ (((xs (nI (6 * i)).toNatClampNeg) &&& (31 : Int32)) = 19 → w_L_law_846 L xs k18 0 62 (nI (6 * i)) M) ∧ (((xs (nI (6 * i)).toNatClampNeg) &&& (31 : Int32)) = 20 → w_L_law_895 L xs k18 0 62 (nI (6 * i)) M) ∧ (((xs (nI (6 * i)).toNatClampNeg) &&& (31 : Int32)) = 21 → w_L_law_928 L xs k18 0 62 (nI (6 * i)) M) ∧ (((xs (nI (6 * i)).toNatClampNeg) &&& (31 : Int32)) = 22 → w_L_law_961 L xs k18 0 62 (nI (6 * i)) M) ∧ (((xs (nI (6 * i)).toNatClampNeg) &&& (31 : Int32)) = 23 → w_L_law_1004 L xs k18 0 62 (nI (6 * i)) M) ∧ (((xs (nI (6 * i)).toNatClampNeg) &&& (31 : Int32)) = 24 → w_L_law_1047 L xs k18 0 62 (nI (6 * i)) M) ∧ (((xs (nI (6 * i)).toNatClampNeg) &&& (31 : Int32)) = 25 → w_L_law_1070 L xs k18 0 62 (nI (6 * i)) M) ∧ (((xs (nI (6 * i)).toNatClampNeg) &&& (31 : Int32)) = 26 → w_L_law_1103 L xs k18 0 62 (nI (6 * i)) M) ∧ (((xs (nI (6 * i)).toNatClampNeg) &&& (31 : Int32)) = 27 → w_L_law_1126 L xs k18 0 62 (nI (6 * i)) M) ∧ (((xs (nI (6 * i)).toNatClampNeg) &&& (31 : Int32)) = 28 → w_L_law_1149 L xs k18 0 62 (nI (6 * i)) M) ∧ (((xs (nI (6 * i)).toNatClampNeg) &&& (31 : Int32)) = 29 → w_L_law_1182 L xs k18 0 62 (nI (6 * i)) M) ∧ ((∀ j : Nat, j < 30 → ¬ ((xs (nI (6 * i)).toNatClampNeg) &&& (31 : Int32)) = nI (0 + j)) → w_L_law_1205 L xs k18 0 62 (nI (6 * i)) M)) := by
  obtain ⟨n, r, w, A, c, Q, P, h⟩ := hM
  have V : ∀ t : Nat, t < 6 → vp_in (nI (6 * i) + nI t) L := fun t ht => by rw [nI_add]; exact vp_in_nI (by omega) (by omega)
  have v1 : vp_in (nI (6 * i) + (1 : Int32)) L := V 1 (by decide)
  have v2 : vp_in (nI (6 * i) + (2 : Int32)) L := V 2 (by decide)
  have v3 : vp_in (nI (6 * i) + (3 : Int32)) L := V 3 (by decide)
  have v4 : vp_in (nI (6 * i) + (4 : Int32)) L := V 4 (by decide)
  have v5 : vp_in (nI (6 * i) + (5 : Int32)) L := V 5 (by decide)
  have cont : ∀ M', IV M' → w_L_law_1205 L xs k18 0 62 (nI (6 * i)) M' := fun M' hM' x1 e1 => by
    have : x1 = nI (6 * (i + 1)) := by
      rw [e1, show (6 : Int32) = nI 6 from rfl, nI_add]
      congr 1
    rw [this]
    exact kk M' hM'
  have here := cont M ⟨n, r, w, A, c, Q, P, h⟩
  have sk : ∀ (v : Int32) (M' : pm_M), kp (scr r) M M' → ((v = v → w_L_law_1205 L xs k18 0 62 (nI (6 * i)) M') ∧ (¬ v = v → False)) := fun v M' hk => ⟨fun _ => cont M' ⟨n, r, w, A, c, Q, P, iv_kp h hk⟩, fun q => q rfl⟩
  have ik := law_k cont
  refine ⟨fun _ => ?_, fun _ => ?_, fun _ => ?_, fun _ => ?_, fun _ => ?_, fun _ => ?_, fun _ => ?_, fun _ => ?_, fun _ => ?_, fun _ => ?_, fun _ => ?_, fun _ => ?_, fun _ => ?_, fun _ => ?_, fun _ => ?_, fun _ => ?_, fun _ => ?_, fun _ => ?_, fun _ => ?_, fun _ => ?_, fun _ => ?_, fun _ => ?_, fun _ => ?_, fun _ => ?_, fun _ => ?_, fun _ => ?_, fun _ => ?_, fun _ => ?_, fun _ => ?_, fun _ => ?_, fun _ => here⟩
  · simp only [w_L_law_168, v1, true_and]
    exact q_fresh h _ (fun a b M' => (a = b → w_L_law_1205 L xs k18 0 62 (nI (6 * i)) M') ∧ (¬ a = b → False)) ik
  · simp only [w_L_law_191, v1, v2, true_and]
    exact q_weight h _ _ (fun a b M' => (a = b → w_L_law_1205 L xs k18 0 62 (nI (6 * i)) M') ∧ (¬ a = b → False)) ik
  · simp only [w_L_law_224, v1, v2, v3, true_and]
    exact q_row h _ _ _ (fun a b M' => (a = b → w_L_law_1205 L xs k18 0 62 (nI (6 * i)) M') ∧ (¬ a = b → False)) ik
  · simp only [w_L_law_267, v1, true_and]
    exact q_tear h _ (fun a b M' => (a = b → w_L_law_1205 L xs k18 0 62 (nI (6 * i)) M') ∧ (¬ a = b → False)) ik
  · simp only [w_L_law_290, v1, v2, v3, v4, true_and]
    exact q_write h _ _ _ (fun a b M' => (a = b → w_L_law_1205 L xs k18 0 62 (nI (6 * i)) M') ∧ (¬ a = b → False)) ik
  · simp only [w_L_law_363, v1, v2, true_and]
    exact q_read h _ _ (fun a b => (lg_cmp a b = 0 → w_L_law_1205 L xs k18 0 62 (nI (6 * i)) M) ∧ (¬ lg_cmp a b = 0 → False)) (fun v => ⟨fun _ => here, fun q => q ((lg_cmp_eq v v).mpr rfl)⟩)
  · simp only [w_L_law_397, v1, v2, v3, v4, v5, true_and]
    exact q_copy h _ _ _ _ _ (fun a b M' => (a = b → w_L_law_1205 L xs k18 0 62 (nI (6 * i)) M') ∧ (¬ a = b → False)) ik
  · simp only [w_L_law_460, v1, v2, true_and]
    exact q_rule h _ _ (fun a b M' => (a = b → w_L_law_1205 L xs k18 0 62 (nI (6 * i)) M') ∧ (¬ a = b → False)) ik
  · simp only [w_L_law_493, v1, v2, true_and]
    exact q_less h _ _ (fun a b M' => (a = b → w_L_law_1205 L xs k18 0 62 (nI (6 * i)) M') ∧ (¬ a = b → False)) ik
  · simp only [w_L_law_526, v1, v2, true_and]
    exact q_take h _ _ (fun a b M' => (a = b → w_L_law_1205 L xs k18 0 62 (nI (6 * i)) M') ∧ (¬ a = b → False)) ik
  · simp only [w_L_law_559, v1, true_and]
    exact q_turn h _ (fun a b M' => (a = b → w_L_law_1205 L xs k18 0 62 (nI (6 * i)) M') ∧ (¬ a = b → False)) ik
  · simp only [w_L_law_582, v1, v2, true_and]
    exact q_join h _ _ (fun a b M' => (a = b → w_L_law_1205 L xs k18 0 62 (nI (6 * i)) M') ∧ (¬ a = b → False)) ik
  · simp only [w_L_law_615, v1, true_and]
    exact law_ag (q_broken h _) here
  · simp only [w_L_law_638, v1, v2, true_and]
    exact law_ag (q_look h _ _) here
  · simp only [w_L_law_671, v1, v2, true_and]
    exact law_ag (q_allows h _ _) here
  · simp only [w_L_law_704, v1, v2, true_and]
    exact law_ag (q_rank h _ _) here
  · simp only [w_L_law_737, v1, v2, true_and]
    exact law_ag (q_span h _ _) here
  · simp only [w_L_law_770, v1, v2, true_and]
    exact law_ag (q_ring h _ _) here
  · simp only [w_L_law_803, v1, v2, v3, true_and]
    exact law_ag (q_exchange h _ _ _) here
  · simp only [w_L_law_846, w_L_law_865, w_L_law_887, v1, v2, true_and]
    by_cases z : xs (nI (6 * i) + 2).toNatClampNeg = 0
    · refine bt z ?_
      have e : ∀ X Y : Prop, ((xs (nI (6 * i) + 2).toNatClampNeg = 0 → X) ∧ (¬ xs (nI (6 * i) + 2).toNatClampNeg = 0 → Y)) = X := fun X Y => propext ⟨fun q => q.1 z, fun q => bt z q⟩
      simp only [e]
      exact q_full h _ false (fun a b => (a = b → w_L_law_1205 L xs k18 0 62 (nI (6 * i)) M) ∧ (¬ a = b → False)) (fun v => ⟨fun _ => here, fun q => q rfl⟩)
    · refine bf z ?_
      have e : ∀ X Y : Prop, ((xs (nI (6 * i) + 2).toNatClampNeg = 0 → X) ∧ (¬ xs (nI (6 * i) + 2).toNatClampNeg = 0 → Y)) = Y := fun X Y => propext ⟨fun q => q.2 z, fun q => bf z q⟩
      simp only [e]
      exact q_full h _ true (fun a b => (a = b → w_L_law_1205 L xs k18 0 62 (nI (6 * i)) M) ∧ (¬ a = b → False)) (fun v => ⟨fun _ => here, fun q => q rfl⟩)
  · simp only [w_L_law_895, v1, v2, true_and]
    exact law_ag (q_both h _ _) here
  · simp only [w_L_law_928, v1, v2, true_and]
    exact law_ag (q_split h _ _) here
  · simp only [w_L_law_961, v1, v2, v3, true_and]
    exact law_ag (q_most h _ _ _) here
  · simp only [w_L_law_1004, v1, v2, v3, true_and]
    exact law_ag (q_three h _ _ _) here
  · simp only [w_L_law_1047, v1, true_and]
    exact q_fewest h _ (fun a b M' => (a = b → w_L_law_1205 L xs k18 0 62 (nI (6 * i)) M') ∧ (¬ a = b → False)) sk
  · simp only [w_L_law_1070, v1, v2, true_and]
    exact q_dealt h _ _ (fun a b M' => (a = b → w_L_law_1205 L xs k18 0 62 (nI (6 * i)) M') ∧ (¬ a = b → False)) sk
  · simp only [w_L_law_1103, v1, true_and]
    exact q_crowd h _ (fun a b M' => (a = b → w_L_law_1205 L xs k18 0 62 (nI (6 * i)) M') ∧ (¬ a = b → False)) sk
  · simp only [w_L_law_1126, v1, true_and]
    exact q_pack h _ (fun a b M' => (a = b → w_L_law_1205 L xs k18 0 62 (nI (6 * i)) M') ∧ (¬ a = b → False)) sk
  · simp only [w_L_law_1149, v1, v2, true_and]
    exact law_ag (q_same h _ _) here
  · simp only [w_L_law_1182, v1, true_and]
    exact law_ag (q_count h _) here
theorem sub6 {L : Nat} (h : 6 ≤ L) : Int32.ofNat L - (6 : Int32) = nI (L - 6) := nI_subN (b := 6) h
theorem sub6n : ∀ L, L < 6 → Int32.ofNat L - (6 : Int32) < nI 0 := by decide +kernel
theorem pure_run (L : Nat) (xs : Nat → Int32) (hL : L ≤ 3072) : w_L_law L xs pm_0 := by
  unfold w_L_law
  intro M1 e1
  have d1 : M1 = dk0 := by rw [e1]; rfl
  subst d1
  refine run_desk ?_
  intro M5 e5
  have d5 : M5 = mk0 := by rw [e5]; rfl
  subst d5
  rw [z_dz]
  refine run_model ⟨L / 6 - 0 + 1, by omega, ?_⟩
  refine lp (fun k (M : pm_M) i => w_L_law_18 L xs 0 62 k (nI (6 * i)) M) (L / 6) (fun _ M => IV M) ?_ ?_ 0 (mb 3) (Nat.zero_le _) mb_iv
  · intro k i M hi hM hk
    show w_L_law_18 L xs 0 62 (k + 1) (nI (6 * i)) M
    unfold w_L_law_18
    rw [sub6 (by omega)]
    exact bf (nI_nlt (by omega) (by omega)) ⟨vp_in_nI (by omega) (by omega), law_step hL (by omega) hM hk⟩
  · intro k M hM
    show w_L_law_18 L xs 0 62 (k + 1) (nI (6 * (L / 6))) M
    unfold w_L_law_18
    by_cases q : 6 ≤ L
    · rw [sub6 q]
      exact bt (nI_lt (by omega) (by omega)) trivial
    · have e : L / 6 = 0 := by omega
      rw [e]
      exact bt (sub6n L (by omega)) trivial
