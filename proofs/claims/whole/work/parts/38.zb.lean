/-! rows: read by the model -/
def tb9 (r a k : Nat) : Prop := tb r a k ∨ a = 79
theorem tb9_mrd {r a k : Nat} (h : tb9 r a k) : mrd r a k := h.elim (fun z => Or.inr (Or.inl z)) (fun z => Or.inr (Or.inr ⟨by omega, by omega⟩))
theorem m_rows {n r : Nat} {A : Nat → Nat → Bool} {j sz : Nat} {X : Nat → Int64} {B : Nat → Bool} (h24 : r < 24) (hj : j < 10) (hB : ∀ u, u < 2 ^ n → (B u = true ↔ nr (vl X 0 : Int) (vl X 1) (fun i c => (rwR X i c : Int)) (bl n u))) : mRu n r A 5 j sz X (rwE X sz n) B := by
  intro M h hrm Post p0 p1
  have hp := p2_le h.2.1.2.1
  have hn := h.2.1
  have zz := h.1.1
  have h2 := Nat.two_pow_pos n
  refine m_frame (RK := fun N F => w_X10_readsRows 62 N F) h h24 hj (by decide) hrm (fun N F f => ⟨fun e => absurd e (by decide), fun e => absurd e (by decide), fun e => absurd e (by decide), fun e => absurd e (by decide), fun e => absurd e (by decide), fun _ => f, fun e => absurd rfl (e 5 (by decide))⟩) (fun N0 iN0 kN0 rN0 mN0 hN0 => ?_)
  unfold w_X10_readsRows
  generalize eF : (fun M_2 => w_X10_rule_178 Post 62 (nI 5) M_2) = F
  have zN0 := kN0.1
  have stage2 : ∀ (N : pm_M) (u : Nat), kp (mrd r) M N → mst N j 1 (sq sz (rw_ok X sz) 1) → (∀ s, s < 2 ^ n → mI N 64 (4096 * r + s) = bI false) → u ≤ 7 → (sq sz (rw_ok X sz) 1 = 0 → u = vl X 0) → w_X10_readsRows_45 F 62 (nI u) N := by
    intro N u kN cN tN u7 uv
    have iN := im_mrd h kN
    have zN := kN.1
    unfold w_X10_readsRows_45
    refine m_nx (lo := 1) (hi := 6) iN.1 (rm_mrd zz hrm kN) rw_lt cN rw_1 (by decide) (by decide) (fun wd M1 w6 k1 c1 wv => ?_)
    have k1' : kp (mrd r) M M1 := kp_tr kN (kp_mono k1 (fun _ _ => rdm_mrd))
    have t1 : ∀ s, s < 2 ^ n → mI M1 64 (4096 * r + s) = bI false := fun s hs => by rw [(k1.2.2 64 _ (by omega) (by unfold rdm; omega)).1]; exact tN s hs
    refine ⟨_, lp (fun k' (N : pm_M) i => w_X10_readsRows_56 F 62 (nI u) (nI wd) k' (nI i) N) n (fun i N => kp (mrd r) M N ∧ mst N j (2 + i * wd) (sq sz (rw_ok X sz) (2 + i * wd)) ∧ (∀ s, s < 2 ^ n → mI N 64 (4096 * r + s) = bI false) ∧ (sq sz (rw_ok X sz) (2 + i * wd) = 0 → ∀ i', i' < i → ∀ c', c' < wd → mI N 78 (6 * i' + c') = nI (vl X (2 + i' * wd + c')))) ?_ ?_ 0 M1 (Nat.zero_le _) ⟨k1', by rw [Nat.zero_mul]; exact c1, t1, fun _ i' hi' => absurd hi' (Nat.not_lt_zero i')⟩⟩
    · intro k' i N5 hi ⟨k5, c5, t5, d5⟩ hk'
      show w_X10_readsRows_56 F 62 (nI u) (nI wd) (k' + 1) (nI i) N5
      have i5 := im_mrd h k5
      simp only [w_X10_readsRows_56, i5.2.2.1]
      refine bf (nI_ge hi (by omega)) ⟨_, lp (fun k2 (N : pm_M) c' => w_X10_readsRows_67 F (w_X10_readsRows_56 F 62 (nI u) (nI wd) k') 62 (nI u) (nI wd) (nI i) k2 (nI c') N) wd (fun c' N => kp (mrd r) M N ∧ mst N j (2 + i * wd + c') (sq sz (rw_ok X sz) (2 + i * wd + c')) ∧ (∀ s, s < 2 ^ n → mI N 64 (4096 * r + s) = bI false) ∧ (sq sz (rw_ok X sz) (2 + i * wd + c') = 0 → (∀ i', i' < i → ∀ x, x < wd → mI N 78 (6 * i' + x) = nI (vl X (2 + i' * wd + x))) ∧ ∀ x, x < c' → mI N 78 (6 * i + x) = nI (vl X (2 + i * wd + x)))) ?_ ?_ 0 N5 (Nat.zero_le _) ⟨k5, c5, t5, fun q => ⟨d5 q, fun x hx => absurd hx (Nat.not_lt_zero x)⟩⟩⟩
      · intro k2 c' N6 hc ⟨k6, c6, t6, d6⟩ hk2
        show w_X10_readsRows_67 F (w_X10_readsRows_56 F 62 (nI u) (nI wd) k') 62 (nI u) (nI wd) (nI i) (k2 + 1) (nI c') N6
        have i6 := im_mrd h k6
        have z6 := k6.1
        simp only [w_X10_readsRows_67, ix_6, forall_eq, nI_1]
        refine bf (nI_ge hc (by omega)) ⟨78, lr_62_21 i6.1, ?_⟩
        have put : ∀ (x : Nat) (M7 : pm_M), kp rdm N6 M7 → mst M7 j (2 + i * wd + c' + 1) (sq sz (rw_ok X sz) (2 + i * wd + c' + 1)) → (sq sz (rw_ok X sz) (2 + i * wd + c' + 1) = 0 → x = vl X (2 + i * wd + c')) → vp_in (nI (6 * i + c')) (mN M7 78) ∧ (w_X10_readsRows_67 F (w_X10_readsRows_56 F 62 (nI u) (nI wd) k') 62 (nI u) (nI wd) (nI i) k2) (nI (c' + 1)) (sI M7 78 (nI (6 * i + c')).toNatClampNeg (nI x)) := by
          intro x M7 k7 c7 xv
          have k7' : kp (mrd r) M M7 := kp_tr k6 (kp_mono k7 (fun _ _ => rdm_mrd))
          have i7 := im_mrd h k7'
          refine ⟨by rw [ln_78 i7.1]; exact vp_in_nI (by omega) (by decide), ?_⟩
          rw [nI_clamp (by omega)]
          refine hk2 _ ⟨kp_sI k7' (mrd7 (by decide) (by decide)), mst_sI c7 (by decide), fun s hs => ?_, fun s0 => ⟨fun i' hi' y hy => ?_, fun y hy => ?_⟩⟩
          · rw [mI_sI, if_neg (by omega), (k7.2.2 64 _ (by omega) (by unfold rdm; omega)).1]; exact t6 s hs
          · rw [mI_sI, if_neg (by omega), (k7.2.2 78 _ (by omega) (by unfold rdm; omega)).1]
            exact (d6 (sq_down s0)).1 i' hi' y hy
          · rw [mI_sI]
            by_cases z : y = c'
            · subst z; rw [if_pos ⟨rfl, rfl⟩, xv s0]
            · rw [if_neg (by omega), (k7.2.2 78 _ (by omega) (by unfold rdm; omega)).1]
              exact (d6 (sq_down s0)).2 y (by omega)
        by_cases s0 : sq sz (rw_ok X sz) (2 + i * wd + c') = 0
        · have s1 : sq sz (rw_ok X sz) 1 = 0 := sq_le s0 (by omega)
          have ue := uv s1
          have pv := (rw_p s1).1
          rw [nI_sub1 (by omega), nI_l (by omega)]
          refine m_nx (lo := 0) (hi := u - 1) i6.1 (rm_mrd zz hrm k6) rw_lt c6 ?_ (by omega) (Nat.zero_le _) (fun x M7 x1 k7 c7 xv => put x M7 k7 c7 xv)
          rw [rw_2 (by omega), ← ue]
        · refine m_nxs (st := sq sz (rw_ok X sz) (2 + i * wd + c')) c6.2.1 s0 ?_
          have e1 := sq_stuck s0 (2 + i * wd + c' + 1) (by omega)
          have := put 0 N6 (kp_rf _ _) ⟨c6.1, by rw [e1]; exact c6.2.1, fun q => absurd (by rw [← e1]; exact q) s0⟩ (fun q => absurd (by rw [← e1]; exact q) s0)
          exact this
      · intro k2 N6 ⟨k6, c6, t6, d6⟩
        show w_X10_readsRows_67 F (w_X10_readsRows_56 F 62 (nI u) (nI wd) k') 62 (nI u) (nI wd) (nI i) (k2 + 1) (nI wd) N6
        simp only [w_X10_readsRows_67, forall_eq, nI_1]
        have eT : 2 + (i + 1) * wd = 2 + i * wd + wd := by rw [Nat.add_mul, Nat.one_mul]; omega
        refine bt (nI_le (Nat.le_refl _) (by omega)) (hk' N6 ⟨k6, by rw [eT]; exact c6, t6, fun s0 i' hi' x hx => ?_⟩)
        rw [eT] at s0
        by_cases z : i' = i
        · subst z; exact (d6 s0).2 x hx
        · exact (d6 s0).1 i' (by omega) x hx
    · intro k' N5 ⟨k5, c5, t5, d5⟩
      show w_X10_readsRows_56 F 62 (nI u) (nI wd) (k' + 1) (nI n) N5
      have i5 := im_mrd h k5
      have z5 := k5.1
      simp only [w_X10_readsRows_56, i5.2.2.1]
      refine bt (nI_le (Nat.le_refl _) (by omega)) ?_
      have same : sq sz (rw_ok X sz) (2 + n * wd) = rwE X sz n := by
        unfold rwE
        by_cases q : sq sz (rw_ok X sz) (1 + 1) = 0
        · rw [wv q]
        · rw [sq_stuck q (2 + n * wd) (by omega), sq_stuck q (2 + n * vl X 1) (by omega)]
      rw [same] at c5 d5
      by_cases s0 : rwE X sz n = 0
      · have we : wd = vl X 1 := wv (sq_le s0 (by omega))
        have sq1 : sq sz (rw_ok X sz) 1 = 0 := sq_le s0 (by omega)
        have ue := uv sq1
        subst we
        subst ue
        obtain ⟨pv, hpr⟩ := rw_p sq1
        have hm : mat n B := mat_rows (p := (vl X 0 : Int)) (w := vl X 1) (r := fun i c => (rwR X i c : Int)) hpr (by omega) hB
        have dd := d5 s0
        have rlt : ∀ i, i < n → ∀ c', c' < vl X 1 → rwR X i c' < vl X 0 := fun i hi c' hc => by
          have iw : i * vl X 1 + c' < n * vl X 1 := by
            have h1 : (i + 1) * vl X 1 ≤ n * vl X 1 := Nat.mul_le_mul_right _ (by omega)
            rw [Nat.add_mul, Nat.one_mul] at h1
            omega
          have ok1 := sq_ok _ s0 (2 + i * vl X 1 + c') (by omega)
          rw [rw_2 (by omega)] at ok1
          have := (bnd_vl ok1 (by omega) (by decide)).2.2.2
          unfold rwR
          omega
        refine ⟨_, lp (fun k' (N6 : pm_M) s => w_X10_readsRows_108 F 62 (nI (vl X 0)) (nI (vl X 1)) k' (nI s) N6) (2 ^ n) (fun s N6 => kp (tb9 r) N5 N6 ∧ ∀ t, t < 2 ^ n → mI N6 64 (4096 * r + t) = bI (decide (t < s) && B t)) ?_ ?_ 0 N5 (Nat.zero_le _) ⟨kp_rf _ _, fun t ht => by rw [t5 t ht, decide_eq_false (Nat.not_lt_zero t)]; rfl⟩⟩
        · intro k2 s N6 hs ⟨k6, t6⟩ hk2
          show w_X10_readsRows_108 F 62 (nI (vl X 0)) (nI (vl X 1)) (k2 + 1) (nI s) N6
          have k6m : kp (mrd r) M N6 := kp_tr k5 (kp_mono k6 (fun _ _ => tb9_mrd))
          have i6 := im_mrd h k6m
          have e17 : mI N6 62 17 = 0 := by rw [(k6.2.2 62 17 (by omega) (by unfold tb9 tb; omega)).1, c5.2.1]; exact s0
          have d78 : ∀ i, i < n → ∀ c', c' < vl X 1 → mI N6 78 (6 * i + c') = nI (rwR X i c') ∧ rwR X i c' < vl X 0 := fun i hi c' hc => by
            rw [(k6.2.2 78 _ (by omega) (by unfold tb9 tb; omega)).1]
            exact ⟨dd i hi c' hc, rlt i hi c' hc⟩
          simp only [w_X10_readsRows_108, w_X10_readsRows_138, i6.2.2.2.1, e17, forall_eq, nI_1]
          refine bf (nI_nlt (by omega) (by omega)) ⟨fun q => absurd trivial q, fun _ => ?_⟩
          have fin : ∀ (M' : pm_M) (b : Bool), kp p79 N6 M' → b = B s → ((bI b = 0 → w_X10_readsRows_108 F 62 (nI (vl X 0)) (nI (vl X 1)) k2 (nI (s + 1)) M') ∧ (¬ bI b = 0 → w_X10_allow 62 (nI s) M' (fun M_6 => w_X10_readsRows_108 F 62 (nI (vl X 0)) (nI (vl X 1)) k2 (nI (s + 1)) M_6))) := by
            intro M' b k7 eb
            have k67 : kp (tb9 r) N5 M' := kp_tr k6 (kp_mono k7 (fun a k z => Or.inr z))
            have i7 := im_mrd h (kp_tr k5 (kp_mono k67 (fun _ _ => tb9_mrd)))
            have t7 : ∀ t, t < 2 ^ n → mI M' 64 (4096 * r + t) = bI (decide (t < s) && B t) := fun t ht => by rw [(k7.2.2 64 _ (by have := k6.1; omega) (by unfold p79; omega)).1]; exact t6 t ht
            exact m_put i7 h24 hs t7 eb (fun q => hk2 M' ⟨k67, q⟩) (fun q => hk2 _ ⟨kp_sI k67 (Or.inl ⟨rfl, by omega⟩), q⟩)
          refine m_free (ρ := rwR X) (R := fun i c => (rwR X i c : Int)) hn.2.1 i6.1 i6.2.2.1 pv hpr w6 d78 (fun _ _ => rfl) hs (fun q M' k7 => ?_) (fun q M' k7 => ?_)
          · have := fin M' true k7 ((hB s hs).mpr q).symm
            exact this
          · have bf' : B s = false := by
              cases y : B s
              · rfl
              · exact absurd ((hB s hs).mp y) q
            have := fin M' false k7 bf'.symm
            exact this
        · intro k2 N6 ⟨k6, t6⟩
          show w_X10_readsRows_108 F 62 (nI (vl X 0)) (nI (vl X 1)) (k2 + 1) (nI (2 ^ n)) N6
          have k6m : kp (mrd r) M N6 := kp_tr k5 (kp_mono k6 (fun _ _ => tb9_mrd))
          have i6 := im_mrd h k6m
          simp only [w_X10_readsRows_108, w_X10_readsRows_144, i6.2.2.2.1]
          refine bt (nI_lt (by omega) (by omega)) ?_
          rw [← eF]
          refine m_178_ok h h24 hm.1 k6m ?_ (fun s hs => ?_) (fun M' hmp => p1 s0 M' hmp)
          · rw [(k6.2.2 62 17 (by omega) (by unfold tb9 tb; omega)).1, c5.2.1]; exact s0
          · rw [t6 s hs, decide_eq_true hs]; rfl
      · refine ⟨1, ?_⟩
        show w_X10_readsRows_108 F 62 (nI u) (nI wd) (0 + 1) (nI 0) N5
        have e17 := c5.2.1
        simp only [w_X10_readsRows_108, w_X10_readsRows_144, i5.2.2.2.1, e17]
        refine bf (nI_nlt (by omega) (by omega)) (bf' s0 ?_)
        rw [← eF]
        exact m_178_bad e17 s0 (p0 s0 N5 k5)
  refine m_nx0 (lo := 2) (hi := 7) iN0.1 rN0 mN0 (by decide) (by decide) (fun _ => by omega) (fun _ eb M1 k1 c1 => ?_) (fun M1 st' k1 c1 g1 _ => ?_)
  · have g := bnd_vl eb (by decide) (by decide)
    have kM1 : kp (mrd r) M M1 := kp_tr kN0 (kp_mono k1 (fun _ _ => rdm_mrd))
    have t1 : ∀ s, s < 2 ^ n → mI M1 64 (4096 * r + s) = bI false := fun s hs => by rw [(k1.2.2 64 _ (by omega) (by unfold rdm; omega)).1]; exact hN0 s hs
    rw [c1.2.1]
    refine bt' rfl ?_
    have good : ¬ vl X 0 = 4 → ¬ vl X 0 = 6 → w_X10_readsRows_45 F 62 (nI (vl X 0)) M1 := fun n4 n6 => by
      have sqe : sq sz (rw_ok X sz) 1 = 0 := by
        show (if (0 : Int32) = 0 then (if rw_ok X sz 0 = true then 0 else fs sz 0) else 0) = 0
        rw [if_pos rfl, if_pos]
        rw [rw_0, eb, decide_eq_true n4, decide_eq_true n6]; rfl
      exact stage2 M1 (vl X 0) kM1 (by rw [sqe]; exact c1) t1 g.2.2.2 (fun _ => rfl)
    have ne : ∀ b : Nat, b < 10 → ¬ nI (vl X 0) = nI b → vl X 0 ≠ b := fun b hb q z => q (by rw [z])
    refine ⟨fun q => good ?_ ?_, fun q2 => ⟨fun q => good ?_ ?_, fun q3 => ⟨fun q => good ?_ ?_, fun q5 => ⟨fun q => good ?_ ?_, fun q7 M9 e9 => ?_⟩⟩⟩⟩
    · have := (nI_eq (b := 2) (by omega) (by decide)).mp q; omega
    · have := (nI_eq (b := 2) (by omega) (by decide)).mp q; omega
    · have := (nI_eq (b := 3) (by omega) (by decide)).mp q; omega
    · have := (nI_eq (b := 3) (by omega) (by decide)).mp q; omega
    · have := (nI_eq (b := 5) (by omega) (by decide)).mp q; omega
    · have := (nI_eq (b := 5) (by omega) (by decide)).mp q; omega
    · have := (nI_eq (b := 7) (by omega) (by decide)).mp q; omega
    · have := (nI_eq (b := 7) (by omega) (by decide)).mp q; omega
    · have m2 := ne 2 (by decide) q2
      have m3 := ne 3 (by decide) q3
      have m5 := ne 5 (by decide) q5
      have m7 := ne 7 (by decide) q7
      have okf : rw_ok X sz 0 = false := by
        rw [rw_0, eb, Bool.true_and]
        have : vl X 0 = 4 ∨ vl X 0 = 6 := by omega
        rcases this with q | q
        · rw [decide_eq_false (fun z => z q)]; rfl
        · rw [decide_eq_false (show ¬ ¬ vl X 0 = 6 from fun z => z q), Bool.and_false]
      have sqe : sq sz (rw_ok X sz) 1 = -4 := by
        show (if (0 : Int32) = 0 then (if rw_ok X sz 0 = true then 0 else fs sz 0) else 0) = -4
        rw [if_pos rfl, okf, if_neg (by decide)]
        unfold fs
        rw [if_pos g.1]
      have n0 : ¬ sq sz (rw_ok X sz) 1 = 0 := by rw [sqe]; decide
      have z1 := kM1.1
      exact stage2 M9 (vl X 0) (by rw [e9]; exact kp_sI kM1 (Or.inl ⟨rfl, by decide, by decide⟩)) ⟨by rw [e9, mI_sI, if_neg (by omega)]; exact c1.1, by rw [e9, mI_sI, if_pos ⟨rfl, rfl⟩, sqe], fun z => absurd z n0⟩ (fun s hs => by rw [e9, mI_sI, if_neg (by omega)]; exact t1 s hs) g.2.2.2 (fun z => absurd z n0)
  · obtain ⟨eb, est⟩ := g1 rfl
    have kM1 : kp (mrd r) M M1 := kp_tr kN0 (kp_mono k1 (fun _ _ => rdm_mrd))
    have t1 : ∀ s, s < 2 ^ n → mI M1 64 (4096 * r + s) = bI false := fun s hs => by rw [(k1.2.2 64 _ (by omega) (by unfold rdm; omega)).1]; exact hN0 s hs
    have sqe : sq sz (rw_ok X sz) 1 = st' := by
      show (if (0 : Int32) = 0 then (if rw_ok X sz 0 = true then 0 else fs sz 0) else 0) = st'
      rw [if_pos rfl, if_neg (by rw [rw_0, eb]; intro z; cases z), est]
    have ne : ¬ st' = 0 := by rw [est]; exact fs_ne _ _
    rw [c1.2.1]
    refine bf' ne ?_
    exact stage2 M1 0 kM1 (by rw [sqe]; exact c1) t1 (by decide) (fun z => absurd (by rw [← sqe]; exact z) ne)
