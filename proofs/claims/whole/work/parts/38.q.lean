/-! parts: the model -/
theorem beq_of {b c : Bool} (h : b = true ↔ c = true) : b = c := by
  cases b <;> cases c
  · rfl
  · exact absurd (h.mpr rfl) (by decide)
  · exact absurd (h.mp rfl) (by decide)
  · rfl
/-- the table, one set further -/
theorem tab_s {N N' : pm_M} {r s : Nat} {B : Nat → Bool} {m : Nat} (h : ∀ t, t < m → mI N 64 (4096 * r + t) = bI (decide (t < s) && B t)) (h' : ∀ t, t ≠ s → mI N' 64 (4096 * r + t) = mI N 64 (4096 * r + t)) (hs : mI N' 64 (4096 * r + s) = bI (B s)) : ∀ t, t < m → mI N' 64 (4096 * r + t) = bI (decide (t < s + 1) && B t) := fun t ht => by
  by_cases z : t = s
  · subst z
    rw [hs, decide_eq_true (Nat.lt_succ_self t), Bool.true_and]
  · rw [h' t z, h t ht, show decide (t < s) = decide (t < s + 1) by apply decide_eq_decide.mpr; omega]
/-- what is done at the end with what was found of a set -/
theorem m_put {N : pm_M} {n r s : Nat} {A : Nat → Nat → Bool} {B : Nat → Bool} {b : Bool} (h : im N n r A) (hr : r < 24) (hs : s < 2 ^ n) (hN : ∀ t, t < 2 ^ n → mI N 64 (4096 * r + t) = bI (decide (t < s) && B t)) (eb : b = B s) {X1 : Prop} {X2 : pm_M → Prop} (k1 : (∀ t, t < 2 ^ n → mI N 64 (4096 * r + t) = bI (decide (t < s + 1) && B t)) → X1) (k2 : (∀ t, t < 2 ^ n → mI (sI N 64 (4096 * r + s) (bI true)) 64 (4096 * r + t) = bI (decide (t < s + 1) && B t)) → X2 (sI N 64 (4096 * r + s) (bI true))) : (bI b = 0 → X1) ∧ (¬ bI b = 0 → w_X10_allow 62 (nI s) N X2) := by
  refine b0 (fun e => m_allow h hr hs (k2 (tab_s hN (fun t ht => ?_) ?_))) (fun e => k1 (tab_s hN (fun t ht => rfl) ?_))
  · rw [mI_sI, if_neg (by omega)]
  · rw [mI_sI, if_pos ⟨rfl, rfl⟩, ← eb, e]
  · rw [hN s hs, decide_eq_false (Nat.lt_irrefl s), ← eb, e]; rfl
theorem m_parts {n r : Nat} {A : Nat → Nat → Bool} {j sz : Nat} {X : Nat → Int64} (h24 : r < 24) (hj : j < 10) : mRu n r A 2 j sz X (sq sz (pr_ok X sz n) (n + (tp X n + 1))) (prB X n) := by
  intro M h hrm Post p0 p1
  have hp := p2_le h.2.1.2.1
  have hn := h.2.1
  have zz := h.1.1
  have h2 := Nat.two_pow_pos n
  refine m_frame (RK := fun N F => w_X10_readsParts 62 N F) h h24 hj (by decide) hrm (fun N F f => ⟨fun e => absurd e (by decide), fun e => absurd e (by decide), fun _ => f, fun e => absurd e (by decide), fun e => absurd e (by decide), fun e => absurd e (by decide), fun e => absurd rfl (e 2 (by decide))⟩) (fun N iN kN rN mN' hN => ?_)
  unfold w_X10_readsParts
  generalize eF : (fun M_2 => w_X10_rule_178 Post 62 (nI 2) M_2) = F
  refine ⟨_, lp (fun k' (t : pm_M × Nat) i => w_X10_readsParts_4 F 62 k' (nI t.2) (nI i) t.1) n (fun i t => kp (mrd r) M t.1 ∧ mst t.1 j i (sq sz (pr_ok X sz n) i) ∧ (∀ s, s < 2 ^ n → mI t.1 64 (4096 * r + s) = bI false) ∧ t.2 ≤ 11 ∧ (sq sz (pr_ok X sz n) i = 0 → t.2 = tp X i ∧ ∀ t', t' < i → mI t.1 75 t' = nI (vl X t'))) ?_ ?_ 0 (N, 0) (Nat.zero_le _) ⟨kN, mN', hN, Nat.zero_le _, fun _ => ⟨rfl, fun t ht => absurd ht (Nat.not_lt_zero t)⟩⟩⟩
  · rintro k' i ⟨N1, v1⟩ hi ⟨k1, m1, t1, v11, d1⟩ hk'
    have k1' : kp (mrd r) M N1 := k1
    have m1' : mst N1 j i (sq sz (pr_ok X sz n) i) := m1
    have t1' : ∀ s, s < 2 ^ n → mI N1 64 (4096 * r + s) = bI false := t1
    have v11' : v1 ≤ 11 := v11
    have d1' : sq sz (pr_ok X sz n) i = 0 → v1 = tp X i ∧ ∀ t', t' < i → mI N1 75 t' = nI (vl X t') := d1
    show w_X10_readsParts_4 F 62 (k' + 1) (nI v1) (nI i) N1
    have i1 := im_mrd h k1'
    simp only [w_X10_readsParts_4, i1.2.2.1, forall_eq, nI_1]
    refine bf (nI_ge hi (by omega)) ⟨75, lr_62_18 i1.1, m_nx (lo := 0) (hi := 11) i1.1 (rm_mrd zz hrm k1') okb_lt m1' (pr_lo hi) (by decide) (by decide) (fun u M4 u1 k4 c4 uv => ?_)⟩
    have z1 := k1'.1
    have k4' : kp (mrd r) M M4 := kp_tr k1' (kp_mono k4 (fun _ _ => rdm_mrd))
    have i4 := im_mrd h k4'
    refine ⟨by rw [ln_75 i4.1]; exact vp_in_nI (by omega) (by decide), ?_⟩
    rw [nI_clamp (by omega)]
    have k5 : kp (mrd r) M (sI M4 75 i (nI u)) := kp_sI k4' (mrd7 (by decide) (by decide))
    have i5 := im_mrd h k5
    refine ⟨75, lr_62_18 i5.1, by rw [ln_75 i5.1]; exact vp_in_nI (by omega) (by decide), ?_⟩
    rw [mI_sI, if_pos ⟨rfl, rfl⟩]
    refine w_max (by omega) (by omega) (hk' (sI M4 75 i (nI u), max v1 u) ⟨k5, mst_sI c4 (by decide), fun s hs => ?_, ?_, fun s0 => ⟨?_, fun t ht => ?_⟩⟩)
    · show mI (sI M4 75 i (nI u)) 64 (4096 * r + s) = bI false
      rw [mI_sI, if_neg (by omega), (k4.2.2 64 _ (by omega) (by unfold rdm; omega)).1]; exact t1' s hs
    · show max v1 u ≤ 11
      omega
    · show max v1 u = max (tp X i) (vl X i)
      rw [(d1' (sq_down s0)).1, uv s0]
    · show mI (sI M4 75 i (nI u)) 75 t = nI (vl X t)
      rw [mI_sI]
      by_cases z : t = i
      · subst z; rw [if_pos ⟨rfl, rfl⟩, uv s0]
      · rw [if_neg (by omega), (k4.2.2 75 t (by omega) (by unfold rdm; omega)).1]
        exact (d1' (sq_down s0)).2 t (by omega)
  · rintro k' ⟨N1, v1⟩ ⟨k1, m1, t1, v11, d1⟩
    have k1' : kp (mrd r) M N1 := k1
    have m1' : mst N1 j n (sq sz (pr_ok X sz n) n) := m1
    have t1' : ∀ s, s < 2 ^ n → mI N1 64 (4096 * r + s) = bI false := t1
    have v11' : v1 ≤ 11 := v11
    have d1' : sq sz (pr_ok X sz n) n = 0 → v1 = tp X n ∧ ∀ t', t' < n → mI N1 75 t' = nI (vl X t') := d1
    show w_X10_readsParts_4 F 62 (k' + 1) (nI v1) (nI n) N1
    have i1 := im_mrd h k1'
    simp only [w_X10_readsParts_4, i1.2.2.1]
    refine bt (nI_le (Nat.le_refl _) (by omega)) ⟨_, lp (fun k' (N2 : pm_M) i => w_X10_readsParts_45 F 62 (nI v1) k' (nI i) N2) (v1 + 1) (fun i N2 => kp (mrd r) M N2 ∧ mst N2 j (n + i) (sq sz (pr_ok X sz n) (n + i)) ∧ (∀ s, s < 2 ^ n → mI N2 64 (4096 * r + s) = bI false) ∧ (sq sz (pr_ok X sz n) (n + i) = 0 → (∀ t', t' < n → mI N2 75 t' = nI (vl X t')) ∧ ∀ t', t' < i → mI N2 76 t' = nI (vl X (n + t')))) ?_ ?_ 0 N1 (Nat.zero_le _) ⟨k1', m1', t1', fun q => ⟨(d1' q).2, fun t ht => absurd ht (Nat.not_lt_zero t)⟩⟩⟩
    · intro k2 i N2 hi ⟨k2', m2, t2, d2⟩ hk2
      show w_X10_readsParts_45 F 62 (nI v1) (k2 + 1) (nI i) N2
      have i2 := im_mrd h k2'
      simp only [w_X10_readsParts_45, forall_eq, nI_1]
      refine bf (nI_nlt (by omega) (by omega)) ⟨76, lr_62_19 i2.1, m_nx (lo := 0) (hi := 12) i2.1 (rm_mrd zz hrm k2') okb_lt m2 (pr_hi (by omega)) (by decide) (by decide) (fun u M4 u1 k4 c4 uv => ?_)⟩
      have z1 := k2'.1
      have k4' : kp (mrd r) M M4 := kp_tr k2' (kp_mono k4 (fun _ _ => rdm_mrd))
      have i4 := im_mrd h k4'
      refine ⟨by rw [ln_76 i4.1]; exact vp_in_nI (by omega) (by decide), ?_⟩
      rw [nI_clamp (by omega)]
      refine hk2 _ ⟨kp_sI k4' (mrd7 (by decide) (by decide)), mst_sI c4 (by decide), fun s hs => ?_, fun s0 => ⟨fun t ht => ?_, fun t ht => ?_⟩⟩
      · rw [mI_sI, if_neg (by omega), (k4.2.2 64 _ (by omega) (by unfold rdm; omega)).1]; exact t2 s hs
      · rw [mI_sI, if_neg (by omega), (k4.2.2 75 t (by omega) (by unfold rdm; omega)).1]
        exact (d2 (sq_down s0)).1 t ht
      · rw [mI_sI]
        by_cases z : t = i
        · subst z; rw [if_pos ⟨rfl, rfl⟩, uv s0]
        · rw [if_neg (by omega), (k4.2.2 76 t (by omega) (by unfold rdm; omega)).1]
          exact (d2 (sq_down s0)).2 t (by omega)
    · intro k2 N2 ⟨k2', m2, t2, d2⟩
      show w_X10_readsParts_45 F 62 (nI v1) (k2 + 1) (nI (v1 + 1)) N2
      have i2 := im_mrd h k2'
      have z2 := k2'.1
      simp only [w_X10_readsParts_45]
      refine bt (nI_lt (by omega) (by omega)) ?_
      have same : sq sz (pr_ok X sz n) (n + (v1 + 1)) = sq sz (pr_ok X sz n) (n + (tp X n + 1)) := by
        by_cases q : sq sz (pr_ok X sz n) n = 0
        · rw [(d1' q).1]
        · rw [sq_stuck q (n + (v1 + 1)) (by omega), sq_stuck q (n + (tp X n + 1)) (by omega)]
      rw [same] at m2 d2
      by_cases s0 : sq sz (pr_ok X sz n) (n + (tp X n + 1)) = 0
      · have ve : v1 = tp X n := (d1' (sq_le s0 (by omega))).1
        obtain ⟨pb1, pb2, pb3⟩ := pr_b s0
        obtain ⟨da, db⟩ := d2 s0
        refine ⟨_, lp (fun k' (N3 : pm_M) s => w_X10_readsParts_72 F 62 (nI v1) k' (nI s) N3) (2 ^ n) (fun s N3 => kp (tb r) N2 N3 ∧ ∀ t, t < 2 ^ n → mI N3 64 (4096 * r + t) = bI (decide (t < s) && prB X n t)) ?_ ?_ 0 N2 (Nat.zero_le _) ⟨kp_rf _ _, fun t ht => by rw [t2 t ht, decide_eq_false (Nat.not_lt_zero t)]; rfl⟩⟩
        · intro k3 s N3 hs ⟨k3', t3⟩ hk3
          show w_X10_readsParts_72 F 62 (nI v1) (k3 + 1) (nI s) N3
          have k3m : kp (mrd r) M N3 := kp_tr k2' (kp_mono k3' (fun _ _ z => Or.inr (Or.inl z)))
          have i3 := im_mrd h k3m
          have e17 : mI N3 62 17 = 0 := by rw [(k3'.2.2 62 17 (by omega) (by unfold tb; omega)).1, m2.2.1]; exact s0
          have d75 : ∀ t, t < n → mI N3 75 t = nI (vl X t) := fun t ht => by rw [(k3'.2.2 75 t (by omega) (by unfold tb; omega)).1]; exact da t ht
          have d76 : ∀ t, t < v1 + 1 → mI N3 76 t = nI (vl X (n + t)) := fun t ht => by rw [(k3'.2.2 76 t (by omega) (by unfold tb; omega)).1]; exact db t ht
          simp only [w_X10_readsParts_72, i3.2.2.2.1, e17]
          refine bf (nI_nlt (by omega) (by omega)) ⟨fun q => absurd trivial q, fun _ => ⟨_, lp (fun k4 (b : Bool) i => w_X10_readsParts_92 F (w_X10_readsParts_72 F 62 (nI v1) k3) 62 (nI v1) (nI s) N3 k4 (bI b) (nI i)) (v1 + 1) (fun i b => b = true ↔ ∀ t, t < i → bc (s &&& pS X t n) ≤ vl X (n + t)) ?_ ?_ 0 true (Nat.zero_le _) ⟨fun _ t ht => absurd ht (Nat.not_lt_zero t), fun _ => rfl⟩⟩⟩
          · intro k4 k b hk hb hk4
            show w_X10_readsParts_92 F (w_X10_readsParts_72 F 62 (nI v1) k3) 62 (nI v1) (nI s) N3 (k4 + 1) (bI b) (nI k)
            have vk := pb2 k (by omega)
            have pl : s &&& pS X k n < 2 ^ n := Nat.lt_of_le_of_lt Nat.and_le_left hs
            simp only [w_X10_readsParts_92]
            refine bf (nI_nlt (by omega) (by omega)) ⟨_, lp (fun k5 (v : Nat) i => w_X10_readsParts_104 F (w_X10_readsParts_72 F 62 (nI v1) k3) (w_X10_readsParts_92 F (w_X10_readsParts_72 F 62 (nI v1) k3) 62 (nI v1) (nI s) N3 k4) 62 (nI v1) (nI s) (bI b) (nI k) N3 k5 (nI v) (nI i)) n (fun i v => v = bcn i (s &&& pS X k n)) ?_ ?_ 0 0 (Nat.zero_le _) rfl⟩
            · intro k5 i v hi hv hk5
              show w_X10_readsParts_104 F (w_X10_readsParts_72 F 62 (nI v1) k3) (w_X10_readsParts_92 F (w_X10_readsParts_72 F 62 (nI v1) k3) 62 (nI v1) (nI s) N3 k4) 62 (nI v1) (nI s) (bI b) (nI k) N3 (k5 + 1) (nI v) (nI i)
              have vi := pb1 i hi
              have bitk : (s &&& pS X k n).testBit i = true ↔ s.testBit i = true ∧ vl X i = k := by
                rw [Nat.testBit_and, Bool.and_eq_true, pS_bit]
                exact ⟨fun z => ⟨z.1, z.2.2⟩, fun z => ⟨z.1, hi, z.2⟩⟩
              simp only [w_X10_readsParts_104, w_X10_readsParts_141, w_X10_readsParts_142, i3.2.2.1, forall_eq, nI_1, nI_bit (show s < 2 ^ 31 by omega) (show i < 31 by omega)]
              have zero : ¬ (s.testBit i = true ∧ vl X i = k) → w_X10_readsParts_104 F (w_X10_readsParts_72 F 62 (nI v1) k3) (w_X10_readsParts_92 F (w_X10_readsParts_72 F 62 (nI v1) k3) 62 (nI v1) (nI s) N3 k4) 62 (nI v1) (nI s) (bI b) (nI k) N3 k5 (nI v + 0) (nI (i + 1)) := fun q => by
                rw [show (0 : Int32) = nI 0 from rfl, nI_add]
                exact hk5 _ (by rw [bcn_s, if_neg (by rw [bitk]; exact q), hv])
              refine bf (nI_ge hi (by omega)) (b1' (fun e => ⟨75, lr_62_18 i3.1, by rw [ln_75 i3.1]; exact vp_in_nI (by omega) (by decide), ?_⟩) (fun e => zero (fun q => by rw [e] at q; cases q.1)))
              rw [nI_clamp (by omega), d75 i hi, nI_eq (by omega) (by omega)]
              refine ⟨fun q => zero (fun z => q z.2), fun q => ?_⟩
              exact hk5 _ (by rw [bcn_s, if_pos (bitk.mpr ⟨e, q⟩), hv])
            · intro k5 v hv
              show w_X10_readsParts_104 F (w_X10_readsParts_72 F 62 (nI v1) k3) (w_X10_readsParts_92 F (w_X10_readsParts_72 F 62 (nI v1) k3) 62 (nI v1) (nI s) N3 k4) 62 (nI v1) (nI s) (bI b) (nI k) N3 (k5 + 1) (nI v) (nI n)
              have ve2 : v = bc (s &&& pS X k n) := by rw [hv, bcn_n (by omega) pl]
              have b16 := bc_16 (s &&& pS X k n)
              simp only [w_X10_readsParts_104, w_X10_readsParts_171, w_X10_readsParts_172, i3.2.2.1, forall_eq, nI_1]
              have nxt : ∀ b' : Bool, (b' = true ↔ b = true ∧ bc (s &&& pS X k n) ≤ vl X (n + k)) → w_X10_readsParts_92 F (w_X10_readsParts_72 F 62 (nI v1) k3) 62 (nI v1) (nI s) N3 k4 (bI b') (nI (k + 1)) := fun b' hb' => hk4 b' (by
                rw [hb', hb]
                constructor
                · rintro ⟨g1, g2⟩ t ht
                  by_cases z : t = k
                  · subst z; exact g2
                  · exact g1 t (by omega)
                · intro g
                  exact ⟨fun t ht => g t (by omega), g k (by omega)⟩)
              refine bt (nI_le (Nat.le_refl _) (by omega)) (b0 (fun e => ⟨76, lr_62_19 i3.1, by rw [ln_76 i3.1]; exact vp_in_nI (by omega) (by decide), ?_⟩) (fun e => nxt false ⟨fun z => (by cases z), fun z => by rw [e] at z; cases z.1⟩))
              rw [nI_clamp (by omega), d76 k hk, nI_ltI (by omega) (by omega)]
              exact ⟨fun q => nxt false ⟨fun z => (by cases z), fun z => by have := z.2; omega⟩, fun q => nxt true ⟨fun _ => ⟨e, by omega⟩, fun _ => rfl⟩⟩
          · intro k4 b hb
            show w_X10_readsParts_92 F (w_X10_readsParts_72 F 62 (nI v1) k3) 62 (nI v1) (nI s) N3 (k4 + 1) (bI b) (nI (v1 + 1))
            simp only [w_X10_readsParts_92, w_X10_readsParts_188, forall_eq, nI_1]
            refine bt (nI_lt (by omega) (by omega)) (m_put i3 h24 hs t3 (B := prB X n) ?_ (fun q => hk3 N3 ⟨k3', q⟩) (fun q => hk3 _ ⟨kp_sI k3' ⟨rfl, by omega⟩, q⟩))
            apply beq_of
            rw [hb, ve]
            unfold prB
            rw [bB_iff]
        · intro k3 N3 ⟨k3', t3⟩
          show w_X10_readsParts_72 F 62 (nI v1) (k3 + 1) (nI (2 ^ n)) N3
          have k3m : kp (mrd r) M N3 := kp_tr k2' (kp_mono k3' (fun _ _ z => Or.inr (Or.inl z)))
          have i3 := im_mrd h k3m
          simp only [w_X10_readsParts_72, w_X10_readsParts_194, i3.2.2.2.1]
          refine bt (nI_lt (by omega) (by omega)) ?_
          rw [← eF]
          refine m_178_ok h h24 ?_ k3m ?_ (fun s hs => ?_) (fun M' hm => p1 s0 M' hm)
          · exact (bB_mat (n := n) (by omega) (pS_lam X n _)).1
          · rw [(k3'.2.2 62 17 (by omega) (by unfold tb; omega)).1, m2.2.1]; exact s0
          · rw [t3 s hs, decide_eq_true hs]; rfl
      · refine ⟨1, ?_⟩
        show w_X10_readsParts_72 F 62 (nI v1) (0 + 1) (nI 0) N2
        have e17 := m2.2.1
        simp only [w_X10_readsParts_72, w_X10_readsParts_194, i2.2.2.2.1, e17]
        refine bf (nI_nlt (by omega) (by omega)) (bf' s0 ?_)
        rw [← eF]
        exact m_178_bad e17 s0 (p0 s0 N2 k2')
