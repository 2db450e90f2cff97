/-! fresh -/
def frc (a k : Nat) : Prop := (a = 0 ∧ 9 ≤ k) ∨ a = 3 ∨ (a = 6 ∧ 3 ≤ k)
def frm (a k : Nat) : Prop := (a = 62 ∧ (k < 2 ∨ k = 3)) ∨ a = 63 ∨ a = 70
theorem frc_s {a k : Nat} (h : frc a k) : sof a k := by unfold frc at h; unfold sof; omega
theorem frm_s {a k : Nat} (h : frm a k) : sof a k := by unfold frm at h; unfold sof; omega
theorem nI_all {n : Nat} (hn : n ≤ 12) : ((1 : Int32) <<< (nI n &&& 31)) - 1 = nI (2 ^ n - 1) := by
  have e : b1 n = 2 ^ n := by unfold b1; rw [Nat.shiftLeft_eq, Nat.one_mul]
  rw [nI_b1 n (by omega), e, nI_sub1 (Nat.two_pow_pos n)]
theorem lay_s {T : Nat → Nat → Prop} {M M' : pm_M} (hl : lay M) (hk : kp T M M') (h : ∀ a k, T a k → sof a k) : lay M' := lay_kp hl hk (fun a j q _ => sof_sr (h a j q))
section
variable {M : pm_M} {n r : Nat} {w : Nat → Nat} {A : Nat → Nat → Bool} {c : Nat} {Q P : Nat → Nat}
theorem c_anew (hl : lay M) {m : Nat} (hm : m ≤ 12) {Post : pm_M → Prop} (kk : ∀ M', kp frc M M' → mI M' 0 9 = nI m → mI M' 0 10 = nI (2 ^ m - 1) → mI M' 0 11 = 0 → (∀ i, i < 12 → mI M' 3 i = 1) → mI M' 6 3 = 0 → mI M' 6 4 = 0 → mI M' 6 5 = 0 → Post M') : w_X9_startAnew 0 (nI m) M Post := by
  have s0 : ∀ k, 9 ≤ k → frc 0 k := fun k hk => by unfold frc; omega
  have s3 : ∀ k, frc 3 k := fun k => by unfold frc; omega
  have s6 : ∀ k, 3 ≤ k → frc 6 k := fun k hk => by unfold frc; omega
  unfold w_X9_startAnew
  simp only [forall_eq, nI_all hm]
  have k3 : kp frc M (sI (sI (sI M 0 9 (nI m)) 0 10 (nI (2 ^ m - 1))) 0 11 0) := kp_sI (kp_sI (kp_sI (kp_rf _ _) (s0 _ (by decide))) (s0 _ (by decide))) (s0 _ (by decide))
  refine ⟨_, lp (fun k' (N : pm_M) j => w_X9_startAnew_21 Post 0 k' (nI j) N) 12 (fun j N => kp frc M N ∧ mI N 0 9 = nI m ∧ mI N 0 10 = nI (2 ^ m - 1) ∧ mI N 0 11 = 0 ∧ ∀ i, i < j → mI N 3 i = 1) ?_ ?_ 0 _ (Nat.zero_le _) ⟨k3, ?_, ?_, ?_, fun i hi => absurd hi (Nat.not_lt_zero i)⟩⟩
  · intro k' j N hj ⟨kN, h1, h2, h3, h4⟩ hk'
    show w_X9_startAnew_21 Post 0 (k' + 1) (nI j) N
    have lN := lay_s hl kN (fun _ _ => frc_s)
    simp only [w_X9_startAnew_21, forall_eq, nI_1]
    refine ⟨3, lr_0_2 lN, ?_⟩
    rw [ln_3 lN]
    refine bf (nI_ge hj (by decide)) ⟨vp_in_nI hj (by decide), ?_⟩
    rw [nI_clamp (by omega)]
    refine hk' _ ⟨kp_sI kN (s3 j), ?_, ?_, ?_, fun i hi => ?_⟩
    · rw [mI_sI, if_neg (by omega)]; exact h1
    · rw [mI_sI, if_neg (by omega)]; exact h2
    · rw [mI_sI, if_neg (by omega)]; exact h3
    · rw [mI_sI]
      by_cases z : i = j
      · subst z; rw [if_pos ⟨rfl, rfl⟩]
      · rw [if_neg (by omega)]; exact h4 i (by omega)
  · intro k' N ⟨kN, h1, h2, h3, h4⟩
    show w_X9_startAnew_21 Post 0 (k' + 1) (nI 12) N
    have lN := lay_s hl kN (fun _ _ => frc_s)
    simp only [w_X9_startAnew_21, w_X7_forgetBreach, w_X7_noteBreach, forall_eq]
    refine ⟨3, lr_0_2 lN, ?_⟩
    rw [ln_3 lN]
    refine bt (nI_le (Nat.le_refl _) (by decide)) ⟨6, lr_0_5 lN, kk _ (kp_sI (kp_sI (kp_sI kN (s6 _ (by decide))) (s6 _ (by decide))) (s6 _ (by decide))) ?_ ?_ ?_ (fun i hi => ?_) ?_ ?_ ?_⟩
    · rw [mI_sI, if_neg (by omega), mI_sI, if_neg (by omega), mI_sI, if_neg (by omega)]; exact h1
    · rw [mI_sI, if_neg (by omega), mI_sI, if_neg (by omega), mI_sI, if_neg (by omega)]; exact h2
    · rw [mI_sI, if_neg (by omega), mI_sI, if_neg (by omega), mI_sI, if_neg (by omega)]; exact h3
    · rw [mI_sI, if_neg (by omega), mI_sI, if_neg (by omega), mI_sI, if_neg (by omega)]; exact h4 i hi
    · rw [mI_sI, if_neg (by omega), mI_sI, if_neg (by omega), mI_sI, if_pos ⟨rfl, rfl⟩]
    · rw [mI_sI, if_neg (by omega), mI_sI, if_pos ⟨rfl, rfl⟩]
    · rw [mI_sI, if_pos ⟨rfl, rfl⟩]
  · rw [mI_sI, if_neg (by omega), mI_sI, if_neg (by omega), mI_sI, if_pos ⟨rfl, rfl⟩]
  · rw [mI_sI, if_neg (by omega), mI_sI, if_pos ⟨rfl, rfl⟩]
  · rw [mI_sI, if_pos ⟨rfl, rfl⟩]
theorem m_anew (hl : lay M) {m : Nat} (hm : m ≤ 12) {Post : pm_M → Prop} (kk : ∀ M', kp frm M M' → mI M' 62 0 = nI m → mI M' 62 1 = nI (2 ^ m - 1) → mI M' 62 3 = 0 → (∀ i, i < 12 → mI M' 63 i = 1) → (∀ i, i < 3 → mI M' 70 i = 0) → Post M') : w_X10_anew 62 (nI m) M Post := by
  have s0 : ∀ k, (k < 2 ∨ k = 3) → frm 62 k := fun k hk => by unfold frm; omega
  have s3 : ∀ k, frm 63 k := fun k => by unfold frm; omega
  have s6 : ∀ k, frm 70 k := fun k => by unfold frm; omega
  unfold w_X10_anew
  simp only [forall_eq, nI_all hm]
  have k3 : kp frm M (sI (sI (sI M 62 0 (nI m)) 62 1 (nI (2 ^ m - 1))) 62 3 0) := kp_sI (kp_sI (kp_sI (kp_rf _ _) (s0 _ (by decide))) (s0 _ (by decide))) (s0 _ (by decide))
  refine ⟨_, lp (fun k' (N : pm_M) j => w_X10_anew_21 Post 62 k' (nI j) N) 12 (fun j N => kp frm M N ∧ mI N 62 0 = nI m ∧ mI N 62 1 = nI (2 ^ m - 1) ∧ mI N 62 3 = 0 ∧ ∀ i, i < j → mI N 63 i = 1) ?_ ?_ 0 _ (Nat.zero_le _) ⟨k3, ?_, ?_, ?_, fun i hi => absurd hi (Nat.not_lt_zero i)⟩⟩
  · intro k' j N hj ⟨kN, h1, h2, h3, h4⟩ hk'
    show w_X10_anew_21 Post 62 (k' + 1) (nI j) N
    have lN := lay_s hl kN (fun _ _ => frm_s)
    simp only [w_X10_anew_21, forall_eq, nI_1]
    refine bf (nI_ge (b := 12) hj (by decide)) ⟨63, lr_62_2 lN, by rw [ln_63 lN]; exact vp_in_nI hj (by decide), ?_⟩
    rw [nI_clamp (by omega)]
    refine hk' _ ⟨kp_sI kN (s3 j), ?_, ?_, ?_, fun i hi => ?_⟩
    · rw [mI_sI, if_neg (by omega)]; exact h1
    · rw [mI_sI, if_neg (by omega)]; exact h2
    · rw [mI_sI, if_neg (by omega)]; exact h3
    · rw [mI_sI]
      by_cases z : i = j
      · subst z; rw [if_pos ⟨rfl, rfl⟩]
      · rw [if_neg (by omega)]; exact h4 i (by omega)
  · intro k' N ⟨kN, h1, h2, h3, h4⟩
    show w_X10_anew_21 Post 62 (k' + 1) (nI 12) N
    simp only [w_X10_anew_21]
    refine bt (nI_le (a := 12) (Nat.le_refl _) (by decide)) ⟨_, lp (fun k' (N : pm_M) j => w_X10_anew_42 Post 62 k' (nI j) N) 3 (fun j N => kp frm M N ∧ mI N 62 0 = nI m ∧ mI N 62 1 = nI (2 ^ m - 1) ∧ mI N 62 3 = 0 ∧ (∀ i, i < 12 → mI N 63 i = 1) ∧ ∀ i, i < j → mI N 70 i = 0) ?_ ?_ 0 N (Nat.zero_le _) ⟨kN, h1, h2, h3, h4, fun i hi => absurd hi (Nat.not_lt_zero i)⟩⟩
    · intro k' j N hj ⟨kN, h1, h2, h3, h4, h5⟩ hk'
      show w_X10_anew_42 Post 62 (k' + 1) (nI j) N
      have lN := lay_s hl kN (fun _ _ => frm_s)
      simp only [w_X10_anew_42, forall_eq, nI_1]
      refine bf (nI_ge (b := 3) hj (by decide)) ⟨70, lr_62_10 lN, by rw [ln_70 lN]; exact vp_in_nI hj (by decide), ?_⟩
      rw [nI_clamp (by omega)]
      refine hk' _ ⟨kp_sI kN (s6 j), ?_, ?_, ?_, fun i hi => ?_, fun i hi => ?_⟩
      · rw [mI_sI, if_neg (by omega)]; exact h1
      · rw [mI_sI, if_neg (by omega)]; exact h2
      · rw [mI_sI, if_neg (by omega)]; exact h3
      · rw [mI_sI, if_neg (by omega)]; exact h4 i hi
      · rw [mI_sI]
        by_cases z : i = j
        · subst z; rw [if_pos ⟨rfl, rfl⟩]
        · rw [if_neg (by omega)]; exact h5 i (by omega)
    · intro k' N ⟨kN, h1, h2, h3, h4, h5⟩
      show w_X10_anew_42 Post 62 (k' + 1) (nI 3) N
      simp only [w_X10_anew_42]
      exact bt (nI_le (a := 3) (Nat.le_refl _) (by decide)) (kk N kN h1 h2 h3 h4 h5)
  · rw [mI_sI, if_neg (by omega), mI_sI, if_neg (by omega), mI_sI, if_pos ⟨rfl, rfl⟩]
  · rw [mI_sI, if_neg (by omega), mI_sI, if_pos ⟨rfl, rfl⟩]
  · rw [mI_sI, if_pos ⟨rfl, rfl⟩]
theorem q_fresh (h : iv M n r w A c Q P) (x : Int32) : ∀ K : Int32 → Int32 → pm_M → Prop, (∀ v M', IV M' → K v v M') → w_X9_fresh 0 x M (fun a M1 => w_X10_fresh 62 x M1 (fun b M' => K a b M')) := by
  intro K k
  have k0 : ∀ v, K v v M := fun v => k v M ⟨_, _, _, _, _, _, _, h⟩
  have zz := h.1.1
  unfold w_X9_fresh w_X9_fresh_11 w_X10_fresh w_X10_fresh_11
  by_cases x1 : x < 1
  · exact bt x1 (bt x1 (k0 _))
  refine bf x1 ?_
  by_cases x2 : x ≤ 12
  · refine bt x2 ?_
    have x0 : ¬ x < 0 := fun q => x1 (Int32.lt_trans q (by decide))
    obtain ⟨m, hm, rfl⟩ := nI_of x0
    have m1 : 1 ≤ m := by
      have : ¬ m < 1 := fun q => x1 (nI_lt (b := 1) q (by decide))
      omega
    have m2 : m ≤ 12 := (nI_leI (b := 12) hm (by decide)).mp x2
    refine c_anew h.1 m2 (fun M1 k1 c1 c2 c3 c4 c5 c6 c7 => bf x1 (bt x2 ?_))
    have l1 := lay_s h.1 k1 (fun _ _ => frc_s)
    refine m_anew l1 m2 (fun M2 k2 d1 d2 d3 d4 d5 => ?_)
    have z1 := k1.1
    have e : ∀ a j, a < 83 → ¬ frm a j → mI M2 a j = mI M1 a j := fun a j ha q => (k2.2.2 a j (by omega) q).1
    have kk : kp (fun a j => frc a j ∨ frm a j) M M2 := kp_tr (kp_mono k1 (fun _ _ => Or.inl)) (kp_mono k2 (fun _ _ => Or.inr))
    refine k 1 M2 ⟨m, 0, fun _ => 1, A, c, Q, P, iv_sof h (kp_mono kk (fun a j q => q.elim frc_s frm_s)) ⟨⟨m1, m2, by omega⟩, ?_, ?_, ?_, d1, d2, d3⟩ (fun i hi => ⟨by decide, ?_, d4 i hi⟩) (fun t ht => iS1_kp ht (h.2.2.2.1 t ht) zz kk (fun _ => by unfold frc frm; omega) (fun _ => by unfold frc frm; omega) (by unfold frc frm; omega) (by unfold frc frm; omega) (fun _ _ => by unfold frc frm; omega)) ⟨?_, ?_, ?_⟩ (Or.inl rfl)⟩
    · rw [e 0 9 (by decide) (by unfold frm; omega)]; exact c1
    · rw [e 0 10 (by decide) (by unfold frm; omega)]; exact c2
    · rw [e 0 11 (by decide) (by unfold frm; omega)]; exact c3
    · rw [e 3 i (by decide) (by unfold frm; omega)]; exact c4 i hi
    · rw [e 6 3 (by decide) (by unfold frm; omega), d5 0 (by decide), c5]
    · rw [e 6 4 (by decide) (by unfold frm; omega), d5 1 (by decide), c6]
    · rw [e 6 5 (by decide) (by unfold frm; omega), d5 2 (by decide), c7]
  · exact bf x2 (bf x1 (bf x2 (k0 _)))
end
