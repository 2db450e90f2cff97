/-! the constructors run -/
theorem mb_ref : ((List.range 83).all fun a => (List.range 26).all fun k => match sr a k with | none => true | some b => mR (mb 3) a k == some b) = true := by decide +kernel
theorem mb_len : ((List.range 83).all fun a => mN (mb 3) a == sn a) = true := by decide +kernel
theorem mb_n : mZ (mb 3) = 83 ∧ mT (mb 3) 6 = 6 ∧ mT (mb 3) 9 = 0 ∧ mT (mb 3) 12 = 2 ∧ mT (mb 3) 14 = 7 := by decide +kernel
theorem mb_i : mI (mb 3) 0 9 = nI 8 ∧ mI (mb 3) 0 10 = nI (2 ^ 8 - 1) ∧ mI (mb 3) 0 11 = nI 0 ∧ mI (mb 3) 62 0 = nI 8 ∧ mI (mb 3) 62 1 = nI (2 ^ 8 - 1) ∧ mI (mb 3) 62 3 = nI 0 := by decide +kernel
theorem mb_w : ∀ i, i < 12 → mI (mb 3) 3 i = nI 1 ∧ mI (mb 3) 63 i = nI 1 := by decide +kernel
theorem mb_s : ∀ k, k < 10 → mI (mb 3) (42 + 2 * k) 1 = -1 ∧ mI (mb 3) 71 k = 0 := by decide +kernel
theorem mb_b : mI (mb 3) 70 0 = mI (mb 3) 6 3 ∧ mI (mb 3) 70 1 = mI (mb 3) 6 4 ∧ mI (mb 3) 70 2 = mI (mb 3) 6 5 := by decide +kernel
theorem mb_r : ∀ i, i < 24 → mR (mb 3) 2 i = none := by decide +kernel
theorem sr_lt {a k b : Nat} (h : sr a k = some b) : a < 83 ∧ k < 26 := by
  by_cases ha : a < 83
  · refine ⟨ha, ?_⟩
    by_cases hk : k < 26
    · exact hk
    · exfalso
      have : sr a k = none := by
        unfold sr
        by_cases c0 : a = 0
        · rw [if_pos c0, if_neg (by omega), if_neg (by omega), if_neg (by omega), if_neg (by omega), if_neg (by omega), if_neg (by omega), if_neg (by omega), if_neg (by omega), if_neg (by omega)]
        rw [if_neg c0]
        by_cases c1 : a = 1
        · rw [if_pos c1, if_neg (by omega)]
        rw [if_neg c1]
        by_cases c6 : a = 6
        · rw [if_pos c6, if_neg (by omega), if_neg (by omega)]
        rw [if_neg c6]
        by_cases c9 : a = 9
        · rw [if_pos c9, if_neg (by omega), if_neg (by omega)]
        rw [if_neg c9]
        by_cases c12 : a = 12
        · rw [if_pos c12, if_neg (by omega)]
        rw [if_neg c12]
        by_cases c14 : a = 14
        · rw [if_pos c14, if_neg (by omega), if_neg (by omega), if_neg (by omega)]
        rw [if_neg c14]
        by_cases c15 : a = 15
        · rw [if_pos c15, if_neg (by omega)]
        rw [if_neg c15]
        by_cases c28 : a = 28
        · rw [if_pos c28, if_neg (by omega)]
        rw [if_neg c28]
        by_cases c42 : 42 ≤ a ∧ a < 62 ∧ a % 2 = 0
        · rw [if_pos c42, if_neg (by omega)]
        rw [if_neg c42]
        by_cases c62 : a = 62
        · rw [if_pos c62, if_neg (by omega), if_neg (by omega), if_neg (by omega)]
        rw [if_neg c62]
      rw [this] at h
      cases h
  · exfalso
    have : sr a k = none := by
      unfold sr
      rw [if_neg (by omega), if_neg (by omega), if_neg (by omega), if_neg (by omega), if_neg (by omega), if_neg (by omega), if_neg (by omega), if_neg (by omega), if_neg (by omega), if_neg (by omega)]
    rw [this] at h
    cases h
theorem mb_lay : lay (mb 3) := by
  refine ⟨by rw [mb_n.1]; decide, fun a k b h => ?_, fun a ha => ?_, mb_n.2.1, mb_n.2.2.1, mb_n.2.2.2.1, mb_n.2.2.2.2⟩
  · obtain ⟨h1, h2⟩ := sr_lt h
    have q := List.all_eq_true.mp (List.all_eq_true.mp mb_ref a (List.mem_range.mpr h1)) k (List.mem_range.mpr h2)
    rw [h] at q
    exact eq_of_beq q
  · exact eq_of_beq (List.all_eq_true.mp mb_len a (List.mem_range.mpr ha))
theorem mb_iv : IV (mb 3) := by
  refine ⟨8, 0, fun _ => 1, fun _ _ => true, 0, fun _ => 0, fun _ => 0, mb_lay, ⟨⟨by decide, by decide, by decide⟩, mb_i.1, mb_i.2.1, mb_i.2.2.1, mb_i.2.2.2.1, mb_i.2.2.2.2.1, mb_i.2.2.2.2.2⟩, fun i hi => ⟨show (1 : Nat) ≤ 1000000 by decide, (mb_w i hi).1, (mb_w i hi).2⟩, fun k hk => Or.inl (mb_s k hk), mb_b, ⟨by decide, fun i hi => absurd hi (Nat.not_lt_zero i), fun i _ hi => mb_r i hi, fun i j hi => absurd hi (Nat.not_lt_zero i), fun i j hi => absurd hi (Nat.not_lt_zero i)⟩, by decide, fun i hi => absurd hi (Nat.not_lt_zero i)⟩
theorem run_anew {Post : pm_M → Prop} (k : Post dz) : w_X9_startAnew 0 8 (ds 10) Post := by
  unfold w_X9_startAnew
  intro M1 e1 M2 e2 M3 e3
  have d : M3 = da 0 := by rw [e3, e2, e1]; rfl
  subst d
  refine ⟨_, lp (fun k' (N : pm_M) i => w_X9_startAnew_21 Post 0 k' (nI i) N) 12 (fun i N => N = da i) ?_ ?_ 0 (da 0) (Nat.zero_le _) rfl⟩
  · intro k' i N hi hN hk'
    subst hN
    show w_X9_startAnew_21 Post 0 (k' + 1) (nI i) (da i)
    obtain ⟨a1, a2, a3⟩ := da_ok i (by omega)
    unfold w_X9_startAnew_21
    refine ⟨3, a1, ?_⟩
    rw [a2]
    refine bf (nI_ge hi (by decide)) ⟨vp_in_nI hi (by decide), fun M6 e6 x7 e7 => ?_⟩
    rw [e7, nI_1]
    refine hk' M6 ?_
    rw [e6, nI_clamp (by omega)]
    rfl
  · intro k' N hN
    subst hN
    show w_X9_startAnew_21 Post 0 (k' + 1) (nI 12) (da 12)
    obtain ⟨a1, a2, a3⟩ := da_ok 12 (by decide)
    unfold w_X9_startAnew_21 w_X7_forgetBreach w_X7_noteBreach
    refine ⟨3, a1, ?_⟩
    rw [a2]
    refine bt (nI_le (Nat.le_refl _) (by decide)) ⟨6, a3, fun N1 f1 N2 f2 N3 f3 => ?_⟩
    have d : N3 = dz := by rw [f3, f2, f1]; rfl
    rw [d]
    exact k
theorem run_desk {Post : pm_M → Prop} (k : Post dz) : w_X9_init 0 dk0 Post := by
  unfold w_X9_init
  intro M1 e1 M3 e3
  have d1 : M3 = dk1 := by rw [e3, e1]; rfl
  subst d1
  intro M4 e4 M6 e6
  have d2 : M6 = dk2 := by rw [e6, e4]; rfl
  subst d2
  intro M7 e7 M9 e9
  have d3 : M9 = dk3 := by rw [e9, e7]; rfl
  subst d3
  intro M10 e10 M12 e12
  have d4 : M12 = dk4 := by rw [e12, e10]; rfl
  subst d4
  intro M13 e13
  have d4b : M13 = dk4b := by rw [e13]; rfl
  subst d4b
  unfold w_X4_init
  intro M15 e15
  have d5 : M15 = dk5 := by rw [e15]; rfl
  subst d5
  intro M16 e16
  have d6 : M16 = dk6 := by rw [e16]; rfl
  subst d6
  unfold w_X7_init
  intro A1 a1 A3 a3
  have d7 : A3 = dk7 := by rw [a3, a1]; rfl
  subst d7
  intro A4 a4 A6 a6
  have d8 : A6 = dk8 := by rw [a6, a4]; rfl
  subst d8
  intro M19 e19
  have d9 : M19 = dk9 := by rw [e19]; rfl
  subst d9
  intro M20 e20
  have d10 : M20 = dk10 := by rw [e20]; rfl
  subst d10
  unfold w_X0_init
  intro B1 b1 B3 b3
  have d11 : B3 = dk11 := by rw [b3, b1]; rfl
  subst d11
  intro B4 b4 B6 b6
  have d12 : B6 = dk12 := by rw [b6, b4]; rfl
  subst d12
  intro M23 e23
  have d13 : M23 = dk13 := by rw [e23]; rfl
  subst d13
  intro M24 e24
  have d14 : M24 = dk14 := by rw [e24]; rfl
  subst d14
  unfold w_X3_init
  intro C1 c1 C3 c3
  have d15 : C3 = dk15 := by rw [c3, c1]; rfl
  subst d15
  intro M27 e27
  have d16 : M27 = dk16 := by rw [e27]; rfl
  subst d16
  intro M28 e28
  have d17 : M28 = dk17 := by rw [e28]; rfl
  subst d17
  unfold w_X8_init
  intro D1 g1 D3 g3
  have d18 : D3 = dk18 := by rw [g3, g1]; rfl
  subst d18
  intro D4 g4 D6 g6
  have d19 : D6 = dk19 := by rw [g6, g4]; rfl
  subst d19
  intro D7 g7 D9 g9
  have d20 : D9 = dk20 := by rw [g9, g7]; rfl
  subst d20
  intro D10 g10
  have d21 : D10 = dk21 := by rw [g10]; rfl
  subst d21
  intro D11 g11
  have d22 : D11 = dk22 := by rw [g11]; rfl
  subst d22
  intro M31 e31
  have d23 : M31 = ds 0 := by rw [e31]; rfl
  subst d23
  refine ⟨11, Nat.le_refl _, ?_⟩
  refine lp (fun k' (N : pm_M) i => w_X9_init_95 Post 0 k' (nI i) N) 10 (fun i N => N = ds i) ?_ ?_ 0 (ds 0) (Nat.zero_le _) rfl
  · intro k' i N hi hN hk'
    subst hN
    show w_X9_init_95 Post 0 (k' + 1) (nI i) (ds i)
    obtain ⟨a1, a2⟩ := ds_ok i (by omega)
    unfold w_X9_init_95
    refine ⟨1, a1, ?_⟩
    rw [a2]
    refine bf (nI_ge hi (by decide)) (fun M4 e4 => ?_)
    unfold w_X6_init
    intro N1 f1 N3 f3 N4 f4
    have n1 : mN N4 1 = 10 := by
      rw [f4, mN_sI, f3, mN_sR, f1, mN_sN, e4, mN_sN, mZ_sN]
      have z : ∀ i, i < 11 → 1 < mZ (ds i) := by decide +kernel
      have := z i (by omega)
      rw [if_neg (by omega), if_neg (by omega)]
      exact a2
    refine ⟨by rw [n1]; exact vp_in_nI hi (by decide), fun M8 e8 x9 e9 => ?_⟩
    rw [e9, nI_1]
    refine hk' M8 ?_
    rw [e8, f4, f3, f1, e4, nI_clamp (by omega)]
    rfl
  · intro k' N hN
    subst hN
    show w_X9_init_95 Post 0 (k' + 1) (nI 10) (ds 10)
    obtain ⟨a1, a2⟩ := ds_ok 10 (by decide)
    unfold w_X9_init_95
    refine ⟨1, a1, ?_⟩
    rw [a2]
    exact bt (nI_le (Nat.le_refl _) (by decide)) (run_anew k)
theorem run_manew {Post : pm_M → Prop} (k : Post (mb 3)) : w_X10_anew 62 8 mk21 Post := by
  unfold w_X10_anew
  intro M1 e1 M2 e2 M3 e3
  have d : M3 = ma 0 := by rw [e3, e2, e1]; rfl
  subst d
  refine ⟨_, lp (fun k' (N : pm_M) i => w_X10_anew_21 Post 62 k' (nI i) N) 12 (fun i N => N = ma i) ?_ ?_ 0 (ma 0) (Nat.zero_le _) rfl⟩
  · intro k' i N hi hN hk'
    subst hN
    show w_X10_anew_21 Post 62 (k' + 1) (nI i) (ma i)
    obtain ⟨a1, a2⟩ := ma_ok i (by omega)
    unfold w_X10_anew_21
    refine bf (nI_ge (b := 12) hi (by decide)) ⟨63, a1, by rw [a2]; exact vp_in_nI hi (by decide), fun M6 e6 x7 e7 => ?_⟩
    rw [e7, nI_1]
    refine hk' M6 ?_
    rw [e6, nI_clamp (by omega)]
    rfl
  · intro k' N hN
    subst hN
    show w_X10_anew_21 Post 62 (k' + 1) (nI 12) (ma 12)
    unfold w_X10_anew_21
    refine bt (nI_le (a := 12) (Nat.le_refl _) (by decide)) ⟨_, lp (fun k' (N : pm_M) i => w_X10_anew_42 Post 62 k' (nI i) N) 3 (fun i N => N = mb i) ?_ ?_ 0 (mb 0) (Nat.zero_le _) rfl⟩
    · intro k' i N hi hN hk'
      subst hN
      show w_X10_anew_42 Post 62 (k' + 1) (nI i) (mb i)
      obtain ⟨a1, a2⟩ := mb_ok i (by omega)
      unfold w_X10_anew_42
      refine bf (nI_ge (b := 3) hi (by decide)) ⟨70, a1, by rw [a2]; exact vp_in_nI hi (by decide), fun M6 e6 x7 e7 => ?_⟩
      rw [e7, nI_1]
      refine hk' M6 ?_
      rw [e6, nI_clamp (by omega)]
      rfl
    · intro k' N hN
      subst hN
      show w_X10_anew_42 Post 62 (k' + 1) (nI 3) (mb 3)
      unfold w_X10_anew_42
      exact bt (nI_le (a := 3) (Nat.le_refl _) (by decide)) k
theorem run_model {Post : pm_M → Prop} (k : Post (mb 3)) : w_X10_init 62 mk0 Post := by
  unfold w_X10_init
  intro M1 e1 M2 e2
  have d1 : M2 = mk1 := by rw [e2, e1]; rfl
  subst d1
  intro P2 p2 Q2 q2
  have d2 : Q2 = mk2 := by rw [q2, p2]; rfl
  subst d2
  intro P3 p3 Q3 q3
  have d3 : Q3 = mk3 := by rw [q3, p3]; rfl
  subst d3
  intro P4 p4 Q4 q4
  have d4 : Q4 = mk4 := by rw [q4, p4]; rfl
  subst d4
  intro P5 p5 Q5 q5
  have d5 : Q5 = mk5 := by rw [q5, p5]; rfl
  subst d5
  intro P6 p6 Q6 q6
  have d6 : Q6 = mk6 := by rw [q6, p6]; rfl
  subst d6
  intro P7 p7 Q7 q7
  have d7 : Q7 = mk7 := by rw [q7, p7]; rfl
  subst d7
  intro P8 p8 Q8 q8
  have d8 : Q8 = mk8 := by rw [q8, p8]; rfl
  subst d8
  intro P9 p9 Q9 q9
  have d9 : Q9 = mk9 := by rw [q9, p9]; rfl
  subst d9
  intro P10 p10 Q10 q10
  have d10 : Q10 = mk10 := by rw [q10, p10]; rfl
  subst d10
  intro P11 p11 Q11 q11
  have d11 : Q11 = mk11 := by rw [q11, p11]; rfl
  subst d11
  intro P12 p12 Q12 q12
  have d12 : Q12 = mk12 := by rw [q12, p12]; rfl
  subst d12
  intro P13 p13 Q13 q13
  have d13 : Q13 = mk13 := by rw [q13, p13]; rfl
  subst d13
  intro P14 p14 Q14 q14
  have d14 : Q14 = mk14 := by rw [q14, p14]; rfl
  subst d14
  intro P15 p15 Q15 q15
  have d15 : Q15 = mk15 := by rw [q15, p15]; rfl
  subst d15
  intro P16 p16 Q16 q16
  have d16 : Q16 = mk16 := by rw [q16, p16]; rfl
  subst d16
  intro P17 p17 Q17 q17
  have d17 : Q17 = mk17 := by rw [q17, p17]; rfl
  subst d17
  intro P18 p18 Q18 q18
  have d18 : Q18 = mk18 := by rw [q18, p18]; rfl
  subst d18
  intro P19 p19 Q19 q19
  have d19 : Q19 = mk19 := by rw [q19, p19]; rfl
  subst d19
  intro P20 p20 Q20 q20
  have d20 : Q20 = mk20 := by rw [q20, p20]; rfl
  subst d20
  intro P21 p21 Q21 q21
  have d21 : Q21 = mk21 := by rw [q21, p21]; rfl
  subst d21
  exact run_manew k
