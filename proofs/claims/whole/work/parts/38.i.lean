/-! rules made of rules: the model, and asked -/
theorem tb_step {M N : pm_M} {r s : Nat} {B : Nat → Bool} {b : Bool} (hk : kp (tb r) M N) (h : ∀ t, t < s → mI N 64 (4096 * r + t) = bI (B t)) (e : b = B s) : kp (tb r) M (sI N 64 (4096 * r + s) (bI b)) ∧ ∀ t, t < s + 1 → mI (sI N 64 (4096 * r + s) (bI b)) 64 (4096 * r + t) = bI (B t) := by
  refine ⟨kp_sI hk ⟨rfl, by omega⟩, fun t ht => ?_⟩
  rw [mI_sI]
  by_cases z : t = s
  · subst z; rw [if_pos ⟨rfl, rfl⟩, e]
  · rw [if_neg (by omega)]; exact h t (by omega)
/-- what the model leaves behind -/
def mpo (M M' : pm_M) (n r : Nat) (B : Nat → Bool) (kd f s0 d : Int32) : Prop := kp (mad r) M M' ∧ (∀ s, s < 2 ^ n → mI M' 64 (4096 * r + s) = bI (B s) ∧ mI M' 65 (4096 * r + s) = nI (rk B s)) ∧ mI M' 66 r = kd ∧ mI M' 67 r = f ∧ mI M' 68 r = s0 ∧ mI M' 69 r = d ∧ mI M' 62 3 = nI (r + 1)
theorem iv_mpo {M M1 M2 : pm_M} {n r : Nat} {w : Nat → Nat} {A : Nat → Nat → Bool} {c : Nat} {Q P : Nat → Nat} {B : Nat → Bool} {kd f s : Int32} {d : Nat} (h : iv M n r w A c Q P) (hr : r < 24) (hm : mat n B) (hc : cad M M1 n r c Q P B kd f s (nI d)) (hd : 1 ≤ d ∧ d ≤ 3) (h2 : mpo M1 M2 n r B kd f s (nI d)) : IV M2 :=
  iv_add h hr hm hc h2.1 h2.2.1 h2.2.2.1 h2.2.2.2.1 h2.2.2.2.2.1 h2.2.2.2.2.2.1 ⟨d, hd.1, hd.2, rfl⟩ h2.2.2.2.2.2.2
section
variable {M : pm_M} {n r : Nat} {A : Nat → Nat → Bool}
/-- from a table full of B on -/
theorem m_end {N : pm_M} {B : Nat → Bool} (h : im M n r A) (hr : r < 24) (h0 : B 0 = true) (hk : kp (tb r) M N) (hA : ∀ s, s < 2 ^ n → mI N 64 (4096 * r + s) = bI (B s)) {kd f s0 d : Int32} {Post : Int32 → pm_M → Prop} (kk : ∀ M', mpo M M' n r B kd f s0 d → Post (nI r) M') : w_X10_made 62 kd f s0 d N Post :=
  m_made (im_tb h hk) hr h0 hA (fun M' k1 k2 k3 k4 k5 k6 k7 => kk M' ⟨kp_tr (kp_mono hk (fun _ _ => tb_mad)) k1, k2, k3, k4, k5, k6, k7⟩)
theorem tb_69 {N : pm_M} (h : im M n r A) (hk : kp (tb r) M N) (i : Nat) : mI N 69 i = mI M 69 i := (hk.2.2 69 i (by have := h.1.1; omega) (by unfold tb; omega)).1
theorem m_less {i t d : Nat} (h : im M n r A) (hr : r < 24) (hi : i < r) (ht : t < 2 ^ n) (ed : mI M 69 i = nI d) (h0 : x2v 7 n (A i) (A i) t 0 = true) {Post : Int32 → pm_M → Prop} (kk : ∀ M', mpo M M' n r (x2v 7 n (A i) (A i) t) 7 (nI i) (-1) (nI (d + 1)) → Post (nI r) M') : ∃ n_5 : Nat, w_X10_less_16 Post 62 (nI i) (nI t) n_5 0 M := by
  have hp := p2_le h.2.1.2.1
  have hn := h.2.1
  refine ⟨_, lp (fun k' (N : pm_M) s => w_X10_less_16 Post 62 (nI i) (nI t) k' (nI s) N) (2 ^ n) (fun s N => kp (tb r) M N ∧ ∀ t', t' < s → mI N 64 (4096 * r + t') = bI (x2v 7 n (A i) (A i) t t')) ?_ ?_ 0 M (Nat.zero_le _) ⟨kp_rf _ _, fun t' ht' => absurd ht' (Nat.not_lt_zero t')⟩⟩
  · intro k' s N hs ⟨kN, hN⟩ hk'
    show w_X10_less_16 Post 62 (nI i) (nI t) (k' + 1) (nI s) N
    have iN := im_tb h kN
    have ale : s &&& t ≤ s := Nat.and_le_left
    have xv : x2v 7 n (A i) (A i) t s = (decide (s &&& t = 0) && A i s) := by
      unfold x2v
      rw [if_pos rfl]
      congr 1
      cases e : A i s with
      | true => exact decide_eq_true ((rk_iff (by omega) (h.2.2.2.2.2 i hi).1.1 hs).mp e)
      | false => exact decide_eq_false (fun q => by rw [(rk_iff (by omega) (h.2.2.2.2.2 i hi).1.1 hs).mpr q] at e; cases e)
    have put : ∀ b : Bool, b = x2v 7 n (A i) (A i) t s → w_X10_less_50 Post (w_X10_less_16 Post 62 (nI i) (nI t) k') 62 (nI i) (nI t) (nI s) 62 (nI s) (bI b) N := by
      intro b eb
      unfold w_X10_less_50
      refine m_tab iN hr hs ?_
      rw [nI_1]
      intro x2 e2
      rw [e2]
      exact hk' _ (tb_step kN hN eb)
    simp only [w_X10_less_16, w_X10_less_49, iN.2.2.2.1, nI_and]
    refine bf (nI_nlt (by omega) (by omega)) ?_
    rw [nI_z (by omega)]
    by_cases z : s &&& t = 0
    · refine bt' z (mm_all iN hi hs (b0 (fun e => put true (by rw [xv, decide_eq_true z, e]; rfl)) (fun e => put false (by rw [xv, e, Bool.and_false]))))
    · exact bf' z (put false (by rw [xv, decide_eq_false z, Bool.false_and]))
  · intro k' N ⟨kN, hN⟩
    show w_X10_less_16 Post 62 (nI i) (nI t) (k' + 1) (nI (2 ^ n)) N
    have iN := im_tb h kN
    have h2 := Nat.two_pow_pos n
    simp only [w_X10_less_16, iN.2.2.2.1]
    refine bt (nI_lt (by omega) (by omega)) ⟨69, lr_62_9 iN.1, by rw [ln_69 iN.1]; exact vp_in_nI (by omega) (by decide), ?_⟩
    rw [nI_clamp (by omega), tb_69 h kN, ed, nI_1]
    exact m_end h hr h0 kN hN kk
theorem m_take {i t d : Nat} (h : im M n r A) (hr : r < 24) (hi : i < r) (ht : t < 2 ^ n) (ed : mI M 69 i = nI d) (h0 : x2v 8 n (A i) (A i) t 0 = true) {Post : Int32 → pm_M → Prop} (kk : ∀ M', mpo M M' n r (x2v 8 n (A i) (A i) t) 8 (nI i) (-1) (nI (d + 1)) → Post (nI r) M') : ∃ n_5 : Nat, w_X10_take_16 Post 62 (nI i) (nI t) n_5 0 M := by
  have hp := p2_le h.2.1.2.1
  have hn := h.2.1
  refine ⟨_, lp (fun k' (N : pm_M) s => w_X10_take_16 Post 62 (nI i) (nI t) k' (nI s) N) (2 ^ n) (fun s N => kp (tb r) M N ∧ ∀ t', t' < s → mI N 64 (4096 * r + t') = bI (x2v 8 n (A i) (A i) t t')) ?_ ?_ 0 M (Nat.zero_le _) ⟨kp_rf _ _, fun t' ht' => absurd ht' (Nat.not_lt_zero t')⟩⟩
  · intro k' s N hs ⟨kN, hN⟩ hk'
    show w_X10_take_16 Post 62 (nI i) (nI t) (k' + 1) (nI s) N
    have iN := im_tb h kN
    have ale : s &&& t ≤ s := Nat.and_le_left
    have xv : x2v 8 n (A i) (A i) t s = (decide (s &&& t = 0) && decide (rk (A i) (s ||| t) = rk (A i) t + bc s)) := by
      unfold x2v
      rw [if_neg (by decide), if_pos rfl]
    have put : ∀ b : Bool, b = x2v 8 n (A i) (A i) t s → w_X10_take_64 Post (w_X10_take_16 Post 62 (nI i) (nI t) k') 62 (nI i) (nI t) (nI s) 62 (nI s) (bI b) N := by
      intro b eb
      unfold w_X10_take_64
      refine m_tab iN hr hs ?_
      rw [nI_1]
      intro x2 e2
      rw [e2]
      exact hk' _ (tb_step kN hN eb)
    simp only [w_X10_take_16, w_X10_take_63, iN.2.2.2.1, nI_and, nI_or]
    refine bf (nI_nlt (by omega) (by omega)) ?_
    rw [nI_z (by omega)]
    by_cases z : s &&& t = 0
    · refine bt' z (mm_rnk iN hi (or_lt hs ht) (mm_rnk iN hi ht (m_bits (by omega) ?_)))
      have b1 := mm_sm h (s := s ||| t) hi
      have b2 := mm_sm h (s := t) hi
      have b3 := bc_16 s
      rw [nI_add, nI_eq (by omega) (by omega)]
      by_cases y : rk (A i) (s ||| t) = rk (A i) t + bc s
      · exact bt' y (put true (by rw [xv, decide_eq_true z, decide_eq_true y]; rfl))
      · exact bf' y (put false (by rw [xv, decide_eq_false y, Bool.and_false]))
    · exact bf' z (put false (by rw [xv, decide_eq_false z, Bool.false_and]))
  · intro k' N ⟨kN, hN⟩
    show w_X10_take_16 Post 62 (nI i) (nI t) (k' + 1) (nI (2 ^ n)) N
    have iN := im_tb h kN
    have h2 := Nat.two_pow_pos n
    simp only [w_X10_take_16, iN.2.2.2.1]
    refine bt (nI_lt (by omega) (by omega)) ⟨69, lr_62_9 iN.1, by rw [ln_69 iN.1]; exact vp_in_nI (by omega) (by decide), ?_⟩
    rw [nI_clamp (by omega), tb_69 h kN, ed, nI_1]
    exact m_end h hr h0 kN hN kk
theorem m_turn {i d : Nat} (h : im M n r A) (hr : r < 24) (hi : i < r) (ed : mI M 69 i = nI d) (h0 : x2v 9 n (A i) (A i) 0 0 = true) {Post : Int32 → pm_M → Prop} (kk : ∀ M', mpo M M' n r (x2v 9 n (A i) (A i) 0) 9 (nI i) (-1) (nI (d + 1)) → Post (nI r) M') : ∃ n_5 : Nat, w_X10_turn_15 Post 62 (nI i) n_5 0 M := by
  have hp := p2_le h.2.1.2.1
  have hn := h.2.1
  have h2 := Nat.two_pow_pos n
  refine ⟨_, lp (fun k' (N : pm_M) s => w_X10_turn_15 Post 62 (nI i) k' (nI s) N) (2 ^ n) (fun s N => kp (tb r) M N ∧ ∀ t', t' < s → mI N 64 (4096 * r + t') = bI (x2v 9 n (A i) (A i) 0 t')) ?_ ?_ 0 M (Nat.zero_le _) ⟨kp_rf _ _, fun t' ht' => absurd ht' (Nat.not_lt_zero t')⟩⟩
  · intro k' s N hs ⟨kN, hN⟩ hk'
    show w_X10_turn_15 Post 62 (nI i) (k' + 1) (nI s) N
    have iN := im_tb h kN
    have xv : x2v 9 n (A i) (A i) 0 s = decide (rk (A i) (df (2 ^ n - 1) s) = rk (A i) (2 ^ n - 1)) := by
      unfold x2v
      rw [if_neg (by decide), if_neg (by decide), if_pos rfl]
    have put : ∀ b : Bool, b = x2v 9 n (A i) (A i) 0 s → w_X10_turn_55 Post (w_X10_turn_15 Post 62 (nI i) k') 62 (nI i) (nI s) 62 (nI s) (bI b) N := by
      intro b eb
      unfold w_X10_turn_55
      refine m_tab iN hr hs ?_
      rw [nI_1]
      intro x2 e2
      rw [e2]
      exact hk' _ (tb_step kN hN eb)
    simp only [w_X10_turn_15, iN.2.2.2.1, nI_inv]
    refine bf (nI_nlt (by omega) (by omega)) (mm_rnk iN hi (sb_lt (sb_df _ _) (by omega)) (mm_rnk iN hi (by omega) ?_))
    have b1 := mm_sm h (s := df (2 ^ n - 1) s) hi
    have b2 := mm_sm h (s := 2 ^ n - 1) hi
    rw [nI_eq (by omega) (by omega)]
    by_cases y : rk (A i) (df (2 ^ n - 1) s) = rk (A i) (2 ^ n - 1)
    · exact bt' y (put true (by rw [xv, decide_eq_true y]))
    · exact bf' y (put false (by rw [xv, decide_eq_false y]))
  · intro k' N ⟨kN, hN⟩
    show w_X10_turn_15 Post 62 (nI i) (k' + 1) (nI (2 ^ n)) N
    have iN := im_tb h kN
    simp only [w_X10_turn_15, iN.2.2.2.1]
    refine bt (nI_lt (by omega) (by omega)) ⟨69, lr_62_9 iN.1, by rw [ln_69 iN.1]; exact vp_in_nI (by omega) (by decide), ?_⟩
    rw [nI_clamp (by omega), tb_69 h kN, ed, nI_1]
    exact m_end h hr h0 kN hN kk
theorem m_join {i j di dj : Nat} {B : Nat → Bool} (h : im M n r A) (hr : r < 24) (hi : i < r) (hj : j < r) (edi : mI M 69 i = nI di) (edj : mI M 69 j = nI dj) (hdi : di ≤ 3) (hdj : dj ≤ 3) (hB : ∀ s, B s = true ↔ jn (A i) (A j) s) {Post : Int32 → pm_M → Prop} (kk : ∀ M', mpo M M' n r B 10 (nI i) (nI j) (nI (max di dj + 1)) → Post (nI r) M') : ∃ n_5 : Nat, w_X10_join_56 Post 62 (nI i) (nI j) n_5 0 M := by
  have hp := p2_le h.2.1.2.1
  have hn := h.2.1
  have h2 := Nat.two_pow_pos n
  have Ai0 := (h.2.2.2.2.2 i hi).1.1
  have Aj0 := (h.2.2.2.2.2 j hj).1.1
  refine ⟨_, lp (fun k' (N : pm_M) s => w_X10_join_56 Post 62 (nI i) (nI j) k' (nI s) N) (2 ^ n) (fun s N => kp (tb r) M N ∧ ∀ t', t' < s → mI N 64 (4096 * r + t') = bI (B t')) ?_ ?_ 0 M (Nat.zero_le _) ⟨kp_rf _ _, fun t' ht' => absurd ht' (Nat.not_lt_zero t')⟩⟩
  · intro k' s N hs ⟨kN, hN⟩ hk'
    show w_X10_join_56 Post 62 (nI i) (nI j) (k' + 1) (nI s) N
    have iN := im_tb h kN
    have put : ∀ b : Bool, b = B s → w_X10_join_144 Post (w_X10_join_56 Post 62 (nI i) (nI j) k') 62 (nI i) (nI j) (nI s) (bI b) N := by
      intro b eb
      unfold w_X10_join_144
      refine m_tab iN hr hs ?_
      rw [nI_1]
      intro x2 e2
      rw [e2]
      exact hk' _ (tb_step kN hN eb)
    have loop : ∀ b : Bool, (b = true → jn (A i) (A j) s) → (b = false → ¬ (A i 0 = true ∧ A j (df s 0) = true)) → ∃ n_3 : Nat, w_X10_join_92 Post (w_X10_join_56 Post 62 (nI i) (nI j) k') 62 (nI i) (nI j) (nI s) N n_3 (bI b) (nI s) := by
      intro b g1 g2
      obtain ⟨kf, hkf⟩ := lps (fun k2 (b : Bool) p => w_X10_join_92 Post (w_X10_join_56 Post 62 (nI i) (nI j) k') 62 (nI i) (nI j) (nI s) N k2 (bI b) (nI p)) s (fun p b => (b = true → jn (A i) (A j) s) ∧ (b = false → ∀ q, sb q s → (q = 0 ∨ p < q) → ¬ (A i q = true ∧ A j (df s q) = true))) (by
          intro k2 p b hsp p0 ⟨a1, a2⟩ hk2
          show w_X10_join_92 Post (w_X10_join_56 Post 62 (nI i) (nI j) k') 62 (nI i) (nI j) (nI s) N (k2 + 1) (bI b) (nI p)
          have hpl := sb_le hsp
          simp only [w_X10_join_92, w_X10_join_130, w_X10_join_131, forall_eq, nI_prev p0, nI_inv]
          refine bf (nI_nle (by omega) (by omega)) ?_
          cases b with
          | true => exact bf' one0 (put true ((hB s).mpr (a1 rfl)).symm)
          | false =>
            refine bt' rfl ?_
            have next : ¬ (A i p = true ∧ A j (df s p) = true) → w_X10_join_92 Post (w_X10_join_56 Post 62 (nI i) (nI j) k') 62 (nI i) (nI j) (nI s) N k2 0 (nI ((p - 1) &&& s)) := fun np => hk2 false ⟨fun q => (by cases q), fun _ q hq hlt => (by
              by_cases z : q = p
              · subst z; exact np
              · refine a2 rfl q hq ?_
                rcases hlt with e | e
                · exact Or.inl e
                · by_cases y : q < p
                  · have := part_prev _ p q hsp hq y
                    omega
                  · exact Or.inr (by omega))⟩
            refine mm_all iN hi (sb_lt hsp hs) (b0 (fun e1 => ?_) (fun e1 => next (fun q => by rw [e1] at q; cases q.1)))
            refine mm_all iN hj (sb_lt (sb_df _ _) hs) (b0 (fun e2 => ?_) (fun e2 => next (fun q => by rw [e2] at q; cases q.2)))
            exact hk2 true ⟨fun _ => ⟨p, hsp, e1, e2⟩, fun q => by cases q⟩) (by
          intro k2 b ⟨a1, a2⟩
          show w_X10_join_92 Post (w_X10_join_56 Post 62 (nI i) (nI j) k') 62 (nI i) (nI j) (nI s) N (k2 + 1 + 1) (bI b) (nI 0)
          unfold w_X10_join_92
          refine bt (nI_le (a := 0) (b := 0) (by decide) (by decide)) (put b ?_)
          cases b with
          | true => exact ((hB s).mpr (a1 rfl)).symm
          | false =>
            cases e : B s with
            | false => rfl
            | true =>
              obtain ⟨p, p1, p2, p3⟩ := (hB s).mp e
              exact absurd ⟨p2, p3⟩ (a2 rfl p p1 (by omega))) s (sb_rf s)
      exact ⟨kf, hkf b ⟨g1, fun e q hq hlt => by
        rcases hlt with z | z
        · subst z; exact g2 e
        · have := sb_le hq; omega⟩⟩
    have d0 : df s 0 = s := df_0 s
    simp only [w_X10_join_56, w_X10_join_86, w_X10_join_87, iN.2.2.2.1]
    refine bf (nI_nlt (by omega) (by omega)) (mm_all iN hj hs (b0 (fun e1 => ?_) (fun e1 => loop false (fun q => by cases q) (fun _ q => by rw [d0, e1] at q; cases q.2))))
    refine mm_all (s := 0) iN hi (by omega) (b0 (fun e2 => loop true (fun _ => ⟨0, sb_0 s, e2, by rw [d0]; exact e1⟩) (fun q => by cases q)) (fun e2 => by rw [Ai0] at e2; cases e2))
  · intro k' N ⟨kN, hN⟩
    show w_X10_join_56 Post 62 (nI i) (nI j) (k' + 1) (nI (2 ^ n)) N
    have iN := im_tb h kN
    simp only [w_X10_join_56, iN.2.2.2.1]
    have vv : ∀ t, t < r → vp_in (nI t) (mN N 69) := fun t ht => by rw [ln_69 iN.1]; exact vp_in_nI (by omega) (by decide)
    refine bt (nI_lt (by omega) (by omega)) ⟨69, lr_62_9 iN.1, vv i hi, vv j hj, ?_⟩
    rw [nI_clamp (by omega), nI_clamp (by omega), tb_69 h kN, tb_69 h kN, edi, edj]
    refine w_max (by omega) (by omega) ?_
    rw [show (1 : Int32) = nI 1 from rfl, nI_add, Nat.add_comm]
    refine m_end h hr ?_ kN hN kk
    rw [hB]
    exact ⟨0, sb_0 0, Ai0, by rw [df_0]; exact Aj0⟩
end
