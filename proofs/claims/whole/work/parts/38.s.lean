/-! nested: the model -/
def rd7 (a k : Nat) : Prop := a = 62 ∧ k = 17
theorem rd7_mrd {r a k : Nat} (h : rd7 a k) : mrd r a k := Or.inl ⟨h.1, by have := h.2; omega, by have := h.2; omega⟩
theorem m_nested {n r : Nat} {A : Nat → Nat → Bool} {j sz : Nat} {X : Nat → Int64} {E : Int32} (h24 : r < 24) (hj : j < 10) (e1 : ¬ nE0 X sz n = 0 → E = nE0 X sz n) (e2 : nE0 X sz n = 0 → lam (vl X 0) (nS X) → E = 0) (e3 : nE0 X sz n = 0 → ¬ lam (vl X 0) (nS X) → E = -7) : mRu n r A 3 j sz X E (bB (vl X 0) (nS X) (nC X)) := by
  intro M h hrm Post p0 p1
  have hp := p2_le h.2.1.2.1
  have hn := h.2.1
  have zz := h.1.1
  have h2 := Nat.two_pow_pos n
  refine m_frame (RK := fun N F => w_X10_readsNested 62 N F) h h24 hj (by decide) hrm (fun N F f => ⟨fun e => absurd e (by decide), fun e => absurd e (by decide), fun e => absurd e (by decide), fun _ => f, fun e => absurd e (by decide), fun e => absurd e (by decide), fun e => absurd rfl (e 3 (by decide))⟩) (fun N iN kN rN mN' hN => ?_)
  unfold w_X10_readsNested
  generalize eF : (fun M_2 => w_X10_rule_178 Post 62 (nI 3) M_2) = F
  refine m_nx (lo := 0) (hi := 40) iN.1 rN okb_lt (ok := ns_ok X sz n) (T := 0) mN' ns_0 (by decide) (by decide) (fun u M1 u1 k1 c1 uv => ?_)
  have kM1 : kp (mrd r) M M1 := kp_tr kN (kp_mono k1 (fun _ _ => rdm_mrd))
  have zN0 := kN.1
  have bad : ∀ N : pm_M, ∀ u : Nat, kp (mrd r) M N → ¬ E = 0 → mI N 62 17 = E → w_X10_readsNested_133 F 62 (nI u) N := by
    intro N u kN' e0 e17
    have iN' := im_mrd h kN'
    unfold w_X10_readsNested_133
    refine ⟨1, ?_⟩
    show w_X10_readsNested_135 F 62 (nI u) (0 + 1) (nI 0) N
    simp only [w_X10_readsNested_135, w_X10_readsNested_214, iN'.2.2.2.1, e17]
    refine bf (nI_nlt (by omega) (by omega)) (bf' e0 ?_)
    rw [← eF]
    exact m_178_bad e17 e0 (p0 e0 N kN')
  refine ⟨_, lp (fun k' (N : pm_M) i => w_X10_readsNested_11 F 62 (nI u) k' (nI i) N) u (fun i N => kp (mrd r) M N ∧ mst N j (2 * i + 1) (sq sz (ns_ok X sz n) (2 * i + 1)) ∧ (∀ s, s < 2 ^ n → mI N 64 (4096 * r + s) = bI false) ∧ (sq sz (ns_ok X sz n) (2 * i + 1) = 0 → ∀ t, t < i → mI N 75 t = nI (nS X t) ∧ mI N 76 t = nI (nC X t))) ?_ ?_ 0 M1 (Nat.zero_le _) ⟨kM1, c1, fun s hs => by rw [(k1.2.2 64 _ (by omega) (by unfold rdm; omega)).1]; exact hN s hs, fun _ t ht => absurd ht (Nat.not_lt_zero t)⟩⟩
  · intro k' i N1 hi ⟨kN1, cN1, tN1, dN1⟩ hk'
    show w_X10_readsNested_11 F 62 (nI u) (k' + 1) (nI i) N1
    have i1 := im_mrd h kN1
    have hsz := hrm.2.1
    simp only [w_X10_readsNested_11, i1.2.2.2.1, nI_l (show 2 ^ n - 1 < 2 ^ 31 by omega), forall_eq, nI_1]
    refine bf (nI_ge hi (by omega)) ⟨75, lr_62_18 i1.1, m_nx (lo := 0) (hi := 2 ^ n - 1) i1.1 (rm_mrd zz hrm kN1) okb_lt cN1 ns_1 (by omega) (Nat.zero_le _) (fun x M5 x1 k5 c5 xv => ?_)⟩
    have zN := kN1.1
    have k5' : kp (mrd r) M M5 := kp_tr kN1 (kp_mono k5 (fun _ _ => rdm_mrd))
    have i5 := im_mrd h k5'
    refine ⟨by rw [ln_75 i5.1]; exact vp_in_nI (by omega) (by decide), ?_⟩
    rw [nI_clamp (by omega)]
    have k6 : kp (mrd r) M (sI M5 75 i (nI x)) := kp_sI k5' (mrd7 (by decide) (by decide))
    have i6 := im_mrd h k6
    refine ⟨76, lr_62_19 i6.1, m_nx (lo := 0) (hi := 12) i6.1 (rm_mrd zz hrm k6) okb_lt (mst_sI c5 (by decide)) ns_2 (by decide) (by decide) (fun y M7 y1 k7 c7 yv => ?_)⟩
    have z5 := k5'.1
    have z6 : mZ (sI M5 75 i (nI x)) = mZ M5 := rfl
    have k7' : kp (mrd r) M M7 := kp_tr k6 (kp_mono k7 (fun _ _ => rdm_mrd))
    have i7 := im_mrd h k7'
    refine ⟨by rw [ln_76 i7.1]; exact vp_in_nI (by omega) (by decide), ?_⟩
    refine hk' _ ⟨kp_sI k7' (mrd7 (by decide) (by decide)), mst_sI c7 (by decide), fun s hs => ?_, fun s0 t ht => ?_⟩
    · rw [mI_sI, if_neg (by omega), (k7.2.2 64 _ (by omega) (by unfold rdm; omega)).1, mI_sI, if_neg (by omega), (k5.2.2 64 _ (by omega) (by unfold rdm; omega)).1]; exact tN1 s hs
    · have s2 : sq sz (ns_ok X sz n) (2 * i + 1 + 1 + 1) = 0 := s0
      rw [mI_sI, if_neg (by omega), (k7.2.2 75 t (by omega) (by unfold rdm; omega)).1, mI_sI, mI_sI]
      by_cases z : t = i
      · subst z
        rw [if_pos ⟨rfl, rfl⟩, if_pos ⟨rfl, rfl⟩, xv (sq_down s2), yv s2]
        exact ⟨rfl, rfl⟩
      · rw [if_neg (by omega), if_neg (by omega), (k5.2.2 75 t (by omega) (by unfold rdm; omega)).1, (k7.2.2 76 t (by omega) (by unfold rdm; omega)).1, mI_sI, if_neg (by omega), (k5.2.2 76 t (by omega) (by unfold rdm; omega)).1]
        exact dN1 (sq_down (sq_down s2)) t (by omega)
  · intro k' N1 ⟨kN1, cN1, tN1, dN1⟩
    show w_X10_readsNested_11 F 62 (nI u) (k' + 1) (nI u) N1
    have i1 := im_mrd h kN1
    have z1 := kN1.1
    simp only [w_X10_readsNested_11]
    refine bt (nI_le (Nat.le_refl _) (by omega)) ?_
    have same : sq sz (ns_ok X sz n) (2 * u + 1) = nE0 X sz n := by
      unfold nE0
      by_cases q : sq sz (ns_ok X sz n) (0 + 1) = 0
      · rw [uv q]
      · rw [sq_stuck q (2 * u + 1) (by omega), sq_stuck q (2 * vl X 0 + 1) (by omega)]
    rw [same] at cN1 dN1
    by_cases s0 : nE0 X sz n = 0
    · have ue : u = vl X 0 := uv (sq_le s0 (by omega))
      subst ue
      obtain ⟨b1, b2⟩ := ns_b hn.2.1 s0
      have dd := dN1 s0
      have e17 : mI N1 62 17 = 0 := by rw [cN1.2.1]; exact s0
      have v75 : ∀ N, lay N → ∀ i, i < vl X 0 → vp_in (nI i) (mN N 75) := fun N hl i hi => by rw [ln_75 hl]; exact vp_in_nI (by omega) (by decide)
      have row : ∀ (k54 : Int32 → pm_M → Prop) (i : Nat), i < vl X 0 → (∀ N, kp rd7 N1 N → ((mI N 62 17 = 0 ∧ ∀ j', j' < i → nz (nS X) i j') ∨ (mI N 62 17 = -7 ∧ ∃ j', j' < i ∧ ¬ nz (nS X) i j')) → k54 (nI (i + 1)) N) → ∀ N0, kp rd7 N1 N0 → mI N0 62 17 = 0 → ∃ n_4 : Nat, w_X10_readsNested_68 F k54 62 (nI (vl X 0)) (nI i) n_4 0 N0 := by
        intro k54 i hi g N0 kN0 e0
        refine ⟨_, lp (fun k2 (N : pm_M) j => w_X10_readsNested_68 F k54 62 (nI (vl X 0)) (nI i) k2 (nI j) N) i (fun j N => kp rd7 N1 N ∧ ((mI N 62 17 = 0 ∧ ∀ j', j' < j → nz (nS X) i j') ∨ (mI N 62 17 = -7 ∧ ∃ j', j' < j ∧ ¬ nz (nS X) i j'))) ?_ ?_ 0 N0 (Nat.zero_le _) ⟨kN0, Or.inl ⟨e0, fun j' hj' => absurd hj' (Nat.not_lt_zero j')⟩⟩⟩
        · intro k2 j N hj ⟨k3, st⟩ hk2
          show w_X10_readsNested_68 F k54 62 (nI (vl X 0)) (nI i) (k2 + 1) (nI j) N
          have iN' := im_mrd h (kp_tr kN1 (kp_mono k3 (fun _ _ => rd7_mrd)))
          have d75 : ∀ t, t < vl X 0 → mI N 75 t = nI (nS X t) := fun t ht => by rw [(k3.2.2 75 t (by omega) (by unfold rd7; omega)).1]; exact (dd t ht).1
          have si := (b2 i hi).1
          have sj := (b2 j (by omega)).1
          have ale : nS X i &&& nS X j ≤ nS X i := Nat.and_le_left
          have va := v75 N iN'.1 i hi
          have vb := v75 N iN'.1 j (by omega)
          have good : nz (nS X) i j → w_X10_readsNested_68 F k54 62 (nI (vl X 0)) (nI i) k2 (nI (j + 1)) N := fun q => hk2 N ⟨k3, by
            rcases st with st | st
            · refine Or.inl ⟨st.1, fun j' hj' => ?_⟩
              by_cases z : j' = j
              · subst z; exact q
              · exact st.2 j' (by omega)
            · obtain ⟨s1, j', s2, s3⟩ := st
              exact Or.inr ⟨s1, j', by omega, s3⟩⟩
          simp only [w_X10_readsNested_68, w_X10_readsNested_121, forall_eq, nI_1]
          refine bf (nI_ge hj (by omega)) ⟨75, lr_62_18 iN'.1, va, vb, ?_⟩
          rw [nI_clamp (by omega), nI_clamp (by omega), d75 i hi, d75 j (by omega), nI_and, nI_z (by omega), nI_eq (by omega) (by omega), nI_eq (by omega) (by omega)]
          refine ⟨fun q => good (Or.inl q), fun q => ⟨va, fun q2 => good (Or.inr (Or.inl q2)), fun q2 => ⟨vb, fun q3 => good (Or.inr (Or.inr q3)), fun q3 => ?_⟩⟩⟩
          refine hk2 _ ⟨kp_sI k3 ⟨rfl, rfl⟩, Or.inr ⟨by rw [mI_sI, if_pos ⟨rfl, rfl⟩], j, by omega, ?_⟩⟩
          rintro (z | z | z)
          · exact q z
          · exact q2 z
          · exact q3 z
        · intro k2 N ⟨k3, st⟩
          show w_X10_readsNested_68 F k54 62 (nI (vl X 0)) (nI i) (k2 + 1) (nI i) N
          simp only [w_X10_readsNested_68, forall_eq, nI_1]
          exact bt (nI_le (Nat.le_refl _) (by omega)) (g N k3 st)
      by_cases hl : lam (vl X 0) (nS X)
      · have E0 := e2 s0 hl
        have hlz := lam_iff.mp hl
        refine ⟨_, lp (fun k2 (N : pm_M) i => w_X10_readsNested_54 F 62 (nI (vl X 0)) k2 (nI i) N) (vl X 0) (fun i N => kp rd7 N1 N ∧ mI N 62 17 = 0) ?_ ?_ 0 N1 (Nat.zero_le _) ⟨kp_rf _ _, e17⟩⟩
        · intro k2 i N hi ⟨k3, st⟩ hk2
          show w_X10_readsNested_54 F 62 (nI (vl X 0)) (k2 + 1) (nI i) N
          simp only [w_X10_readsNested_54, st]
          refine bf (nI_ge hi (by omega)) ⟨fun q => absurd trivial q, fun _ => row _ i hi (fun N' k4 st' => ?_) N k3 st⟩
          rcases st' with st' | st'
          · exact hk2 N' ⟨k4, st'.1⟩
          · obtain ⟨-, j', j1, j2⟩ := st'
            exact absurd (hlz i j' hi j1) j2
        · intro k2 N2 ⟨k2', e17'⟩
          show w_X10_readsNested_54 F 62 (nI (vl X 0)) (k2 + 1) (nI (vl X 0)) N2
          have kN2 : kp (mrd r) M N2 := kp_tr kN1 (kp_mono k2' (fun _ _ => rd7_mrd))
          have i2 := im_mrd h kN2
          have z2 := kN2.1
          simp only [w_X10_readsNested_54, w_X10_readsNested_133]
          refine bt (nI_le (Nat.le_refl _) (by omega)) ⟨_, lp (fun k' (N3 : pm_M) s => w_X10_readsNested_135 F 62 (nI (vl X 0)) k' (nI s) N3) (2 ^ n) (fun s N3 => kp (tb r) N2 N3 ∧ ∀ t, t < 2 ^ n → mI N3 64 (4096 * r + t) = bI (decide (t < s) && bB (vl X 0) (nS X) (nC X) t)) ?_ ?_ 0 N2 (Nat.zero_le _) ⟨kp_rf _ _, fun t ht => by rw [(k2'.2.2 64 _ (by omega) (by unfold rd7; omega)).1, tN1 t ht, decide_eq_false (Nat.not_lt_zero t)]; rfl⟩⟩
          · intro k3 s N3 hs ⟨k3', t3⟩ hk3
            show w_X10_readsNested_135 F 62 (nI (vl X 0)) (k3 + 1) (nI s) N3
            have k3m : kp (mrd r) M N3 := kp_tr kN2 (kp_mono k3' (fun _ _ z => Or.inr (Or.inl z)))
            have i3 := im_mrd h k3m
            have f17 : mI N3 62 17 = 0 := by rw [(k3'.2.2 62 17 (by omega) (by unfold tb; omega)).1]; exact e17'
            have d75 : ∀ t, t < vl X 0 → mI N3 75 t = nI (nS X t) ∧ mI N3 76 t = nI (nC X t) := fun t ht => by
              rw [(k3'.2.2 75 t (by omega) (by unfold tb; omega)).1, (k3'.2.2 76 t (by omega) (by unfold tb; omega)).1, (k2'.2.2 75 t (by omega) (by unfold rd7; omega)).1, (k2'.2.2 76 t (by omega) (by unfold rd7; omega)).1]
              exact dd t ht
            simp only [w_X10_readsNested_135, i3.2.2.2.1, f17]
            refine bf (nI_nlt (by omega) (by omega)) ⟨fun q => absurd trivial q, fun _ => ⟨_, lp (fun k4 (b : Bool) i => w_X10_readsNested_155 F (w_X10_readsNested_135 F 62 (nI (vl X 0)) k3) 62 (nI (vl X 0)) (nI s) N3 k4 (bI b) (nI i)) (vl X 0) (fun i b => b = true ↔ ∀ t, t < i → bc (s &&& nS X t) ≤ nC X t) ?_ ?_ 0 true (Nat.zero_le _) ⟨fun _ t ht => absurd ht (Nat.not_lt_zero t), fun _ => rfl⟩⟩⟩
            · intro k4 k b hk hb hk4
              show w_X10_readsNested_155 F (w_X10_readsNested_135 F 62 (nI (vl X 0)) k3) 62 (nI (vl X 0)) (nI s) N3 (k4 + 1) (bI b) (nI k)
              have vk := (b2 k hk).2
              have ale : s &&& nS X k ≤ s := Nat.and_le_left
              have b16 := bc_16 (s &&& nS X k)
              simp only [w_X10_readsNested_155, w_X10_readsNested_191, w_X10_readsNested_192, forall_eq, nI_1]
              have nxt : ∀ b' : Bool, (b' = true ↔ b = true ∧ bc (s &&& nS X k) ≤ nC X k) → w_X10_readsNested_155 F (w_X10_readsNested_135 F 62 (nI (vl X 0)) k3) 62 (nI (vl X 0)) (nI s) N3 k4 (bI b') (nI (k + 1)) := fun b' hb' => hk4 b' (by
                rw [hb', hb]
                constructor
                · rintro ⟨g1, g2⟩ t ht
                  by_cases z : t = k
                  · subst z; exact g2
                  · exact g1 t (by omega)
                · intro g
                  exact ⟨fun t ht => g t (by omega), g k (by omega)⟩)
              refine bf (nI_ge hk (by omega)) (b0 (fun e => ⟨75, lr_62_18 i3.1, v75 N3 i3.1 k hk, ?_⟩) (fun e => nxt false ⟨fun z => (by cases z), fun z => by rw [e] at z; cases z.1⟩))
              rw [nI_clamp (by omega), (d75 k hk).1, nI_and]
              refine m_bits (by omega) ⟨76, lr_62_19 i3.1, by rw [ln_76 i3.1]; exact vp_in_nI (by omega) (by decide), ?_⟩
              rw [(d75 k hk).2, nI_ltI (by omega) (by omega)]
              exact ⟨fun q => nxt false ⟨fun z => (by cases z), fun z => by have := z.2; omega⟩, fun q => nxt true ⟨fun _ => ⟨e, by omega⟩, fun _ => rfl⟩⟩
            · intro k4 b hb
              show w_X10_readsNested_155 F (w_X10_readsNested_135 F 62 (nI (vl X 0)) k3) 62 (nI (vl X 0)) (nI s) N3 (k4 + 1) (bI b) (nI (vl X 0))
              simp only [w_X10_readsNested_155, w_X10_readsNested_208, forall_eq, nI_1]
              refine bt (nI_le (Nat.le_refl _) (by omega)) (m_put i3 h24 hs t3 (B := bB (vl X 0) (nS X) (nC X)) ?_ (fun q => hk3 N3 ⟨k3', q⟩) (fun q => hk3 _ ⟨kp_sI k3' ⟨rfl, by omega⟩, q⟩))
              apply beq_of
              rw [hb, bB_iff]
          · intro k3 N3 ⟨k3', t3⟩
            show w_X10_readsNested_135 F 62 (nI (vl X 0)) (k3 + 1) (nI (2 ^ n)) N3
            have k3m : kp (mrd r) M N3 := kp_tr kN2 (kp_mono k3' (fun _ _ z => Or.inr (Or.inl z)))
            have i3 := im_mrd h k3m
            simp only [w_X10_readsNested_135, w_X10_readsNested_214, i3.2.2.2.1]
            refine bt (nI_lt (by omega) (by omega)) ?_
            rw [← eF]
            refine m_178_ok h h24 ?_ k3m ?_ (fun s hs => ?_) (fun M' hm => p1 E0 M' hm)
            · exact (bB_mat (n := n) (by omega) hl).1
            · rw [(k3'.2.2 62 17 (by omega) (by unfold tb; omega)).1]; exact e17'
            · rw [t3 s hs, decide_eq_true hs]; rfl
      · obtain ⟨i, j0, hi, hj0, bd, g1, g2⟩ := bad_ex hl
        have E7 := e3 s0 hl
        have En : ¬ E = 0 := by rw [E7]; decide
        refine ⟨_, lp (fun k2 (N : pm_M) i => w_X10_readsNested_54 F 62 (nI (vl X 0)) k2 (nI i) N) (i + 1) (fun i' N => kp rd7 N1 N ∧ (i' ≤ i → mI N 62 17 = 0) ∧ (i' = i + 1 → mI N 62 17 = -7)) ?_ ?_ 0 N1 (Nat.zero_le _) ⟨kp_rf _ _, fun _ => e17, fun q => absurd q (by omega)⟩⟩
        · intro k2 i' N hi' ⟨k3, st, _⟩ hk2
          show w_X10_readsNested_54 F 62 (nI (vl X 0)) (k2 + 1) (nI i') N
          have st0 := st (by omega)
          simp only [w_X10_readsNested_54, st0]
          refine bf (nI_ge (by omega) (by omega)) ⟨fun q => absurd trivial q, fun _ => row _ i' (by omega) (fun N' k4 st' => ?_) N k3 st0⟩
          by_cases z : i' = i
          · subst z
            rcases st' with st' | st'
            · exact absurd (st'.2 j0 hj0) bd
            · exact hk2 N' ⟨k4, fun q => absurd q (by omega), fun _ => st'.1⟩
          · rcases st' with st' | st'
            · exact hk2 N' ⟨k4, fun _ => st'.1, fun q => absurd q (by omega)⟩
            · obtain ⟨-, j', j1, j2⟩ := st'
              exact absurd (g1 i' (by omega) j' j1) j2
        · intro k2 N ⟨k3, _, st⟩
          show w_X10_readsNested_54 F 62 (nI (vl X 0)) (k2 + 1) (nI (i + 1)) N
          have e7 := st rfl
          have bb := bad N (vl X 0) (kp_tr kN1 (kp_mono k3 (fun _ _ => rd7_mrd))) En (by rw [e7, E7])
          simp only [w_X10_readsNested_54, e7]
          by_cases q : i + 1 = vl X 0
          · rw [q]
            exact bt (nI_le (Nat.le_refl _) (by omega)) bb
          · exact bf (nI_ge (by omega) (by omega)) (bf' (by decide) bb)
    · have Ee := e1 s0
      have En : ¬ E = 0 := by rw [Ee]; exact s0
      have bb := bad N1 u kN1 En (by rw [cN1.2.1, Ee])
      refine ⟨1, ?_⟩
      show w_X10_readsNested_54 F 62 (nI u) (0 + 1) (nI 0) N1
      simp only [w_X10_readsNested_54, cN1.2.1]
      by_cases q : u = 0
      · rw [q] at bb ⊢
        exact bt (nI_le (a := 0) (b := 0) (by decide) (by decide)) bb
      · exact bf (nI_ge (by omega) (by omega)) (bf' s0 bb)
