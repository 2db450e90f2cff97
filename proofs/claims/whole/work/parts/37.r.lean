/-! dealt -/
theorem sh_s : ∀ i, i < 31 → ((nI i &&& 31).toBitVec.smod 32).toNat = i := by decide +kernel
theorem nI_shr {k e : Nat} (hk : k < 2 ^ 31) (he : e < 31) : nI k >>> (nI e &&& 31) = nI (k / 2 ^ e) := pk_shrN hk _ e (sh_s e he)
theorem nI_shl {k e : Nat} (he : e < 31) (h : k * 2 ^ e < 2 ^ 32) : nI k <<< (nI e &&& 31) = nI (k * 2 ^ e) := pk_shlN _ e (sh_s e he) h
theorem sm_tail {o a : Nat} {f : Nat → Nat} : ∀ k, o ≤ k → (∀ j, o ≤ j → f j = a) → (k - o) * a + sm o f = sm k f := by
  intro k
  induction k with
  | zero =>
    intro h _
    have : o = 0 := by omega
    subst this
    simp
  | succ k ih =>
    intro h hf
    by_cases q : o = k + 1
    · subst q; simp
    · have := ih (by omega) hf
      show _ = sm k f + f k
      rw [hf k (by omega), show k + 1 - o = (k - o) + 1 by omega, Nat.add_mul, Nat.one_mul]
      omega
theorem sm_b {b : Nat} {f : Nat → Nat} (h : ∀ j, f j ≤ b) : ∀ k, sm k f ≤ k * b := by
  intro k
  rw [← sm_const]
  exact sm_le (fun j _ => h j)
section
variable {M : pm_M} {n r : Nat} {w : Nat → Nat} {A : Nat → Nat → Bool} {c : Nat} {Q P : Nat → Nat}
theorem c_room (h : iv M n r w A c Q P) {i : Nat} (hi : i < r) {g : Nat → Nat} {o k x : Nat} (hok : o ≤ k) (hk : k ≤ 12) (hx : x < 2 ^ n) (hg : ∀ j, j < o → mI M 4 j = nI (g j) ∧ g j < 2 ^ n ∧ A i (g j) = true) (hz : ∀ j, o ≤ j → g j = 0) {Post : Int32 → Prop} (kk : Post (nI (sm k (fun j => rk (A i) (g j ||| x) - bc (g j))))) : w_X9_roomFor 0 (Q i) (nI x) (nI o) (nI k) M Post := by
  have hn := iv_n h
  have hp := iv_p h
  have h0 := (iv_mat h hi).1
  have b1 := rk_sm h (s := x) hi
  have bb : ∀ j, rk (A i) (g j ||| x) - bc (g j) ≤ 16 := fun j => by have := rk_sm h (s := g j ||| x) hi; omega
  have b2 : (k - o) * rk (A i) x ≤ 12 * 16 := Nat.mul_le_mul (by omega) (by omega)
  unfold w_X9_roomFor
  refine c_rank h hi hx ?_
  intro x2 e2
  rw [e2, nI_subN hok, pk_mul]
  refine ⟨_, lp (fun k' (v : Nat) j => w_X9_roomFor_15 Post 0 (Q i) (nI x) (nI o) M k' (nI v) (nI j)) o (fun j v => v = (k - o) * rk (A i) x + sm j (fun j => rk (A i) (g j ||| x) - bc (g j))) ?_ ?_ 0 _ (by omega) rfl⟩
  · intro k' j v hj hv hk'
    show w_X9_roomFor_15 Post 0 (Q i) (nI x) (nI o) M (k' + 1) (nI v) (nI j)
    obtain ⟨g1, g2, g3⟩ := hg j hj
    have vj : vp_in (nI j) (mN M 4) := by rw [ln_4 h.1]; exact vp_in_nI (by omega) (by decide)
    have le : bc (g j) ≤ rk (A i) (g j ||| x) := rk_ge (sb_or_l _ _) g3
    have b3 := bb j
    have b4 := sm_b bb j
    simp only [w_X9_roomFor_15, forall_eq, nI_1]
    refine bf (nI_ge hj (by omega)) ⟨4, lr_0_3 h.1, vj, ?_⟩
    rw [nI_clamp (by omega), g1, nI_or]
    refine c_rank h hi (or_lt g2 hx) ⟨vj, w_bc (by omega) ?_⟩
    rw [nI_subN le, nI_add]
    refine hk' _ ?_
    rw [hv]
    exact Nat.add_assoc _ _ _
  · intro k' v hv
    show w_X9_roomFor_15 Post 0 (Q i) (nI x) (nI o) M (k' + 1) (nI v) (nI o)
    simp only [w_X9_roomFor_15]
    refine bt (nI_le (Nat.le_refl _) (by omega)) ?_
    rw [hv, sm_tail k hok (fun j hj => by rw [hz j hj, Nat.zero_or, bc_0, Nat.sub_zero])]
    exact kk
theorem c_rest (h : iv M n r w A c Q P) {i : Nat} (hi : i < r) {g : Nat → Nat} {o k e : Nat} (hok : o ≤ k) (hk : k ≤ 12) (he : e ≤ n) (hg : ∀ j, j < o → mI M 4 j = nI (g j) ∧ g j < 2 ^ n ∧ A i (g j) = true) (hz : ∀ j, o ≤ j → g j = 0) {Post : Int32 → Prop} (k1 : dc k (fun _ => A i) g (re n e) → Post 1) (k0 : ¬ dc k (fun _ => A i) g (re n e) → Post 0) : w_X9_restCanBeDealt 0 (Q i) (nI e) (nI o) (nI k) M Post := by
  have hn := iv_n h
  have hp := iv_p h
  have h0 := Nat.two_pow_pos n
  have bb : ∀ j x, rk (A i) (g j ||| x) - bc (g j) ≤ 16 := fun j x => by have := rk_sm h (s := g j ||| x) hi; omega
  have sb1 : ∀ x, sm k (fun j => rk (A i) (g j ||| x) - bc (g j)) ≤ 12 * 16 := fun x => Nat.le_trans (sm_b (fun j => bb j x) k) (Nat.mul_le_mul_right 16 hk)
  have top : (2 ^ n - 1) / 2 ^ e ≤ 2 ^ n - 1 := Nat.div_le_self _ _
  have xl : ∀ s, s ≤ (2 ^ n - 1) / 2 ^ e → s * 2 ^ e < 2 ^ n := fun s hs => sb_lt (re_hs hs) (re_lt n e)
  unfold w_X9_restCanBeDealt
  by_cases hd : dc k (fun _ => A i) g (re n e)
  · refine ⟨_, lp (fun k' (_ : Unit) s => w_X9_restCanBeDealt_3 Post 0 (Q i) (nI e) (nI o) (nI k) M k' (nI s)) ((2 ^ n - 1) / 2 ^ e + 1) (fun _ _ => True) ?_ ?_ 0 () (Nat.zero_le _) trivial⟩
    · intro k' s _ hs _ hk'
      show w_X9_restCanBeDealt_3 Post 0 (Q i) (nI e) (nI o) (nI k) M (k' + 1) (nI s)
      have x1 := xl s (by omega)
      simp only [w_X9_restCanBeDealt_3, forall_eq, nI_1, h.2.1.2.2.1]
      rw [nI_shr (by omega) (by omega), nI_shl (by omega) (by omega)]
      refine bf (nI_nlt (by omega) (by omega)) (c_room h hi hok hk x1 hg hz (w_bc (by omega) ?_))
      have := sb1 (s * 2 ^ e)
      have := bc_16 (s * 2 ^ e)
      exact bt ((nI_leI (by omega) (by omega)).mpr (hd _ (re_hs (by omega)))) (hk' () trivial)
    · intro k' _ _
      show w_X9_restCanBeDealt_3 Post 0 (Q i) (nI e) (nI o) (nI k) M (k' + 1) (nI ((2 ^ n - 1) / 2 ^ e + 1))
      simp only [w_X9_restCanBeDealt_3, h.2.1.2.2.1]
      rw [nI_shr (by omega) (by omega)]
      exact bt (nI_lt (by omega) (by omega)) (k1 hd)
  · have ex : ∃ s, s ≤ (2 ^ n - 1) / 2 ^ e ∧ ¬ bc (s * 2 ^ e) ≤ sm k (fun j => rk (A i) (g j ||| (s * 2 ^ e)) - bc (g j)) := by
      apply Classical.byContradiction
      intro q
      refine hd (fun p hp => ?_)
      obtain ⟨s, s1, s2⟩ := re_sh hp
      apply Classical.byContradiction
      intro q2
      rw [s2] at q2
      exact q ⟨s, s1, q2⟩
    obtain ⟨s0, hs0⟩ := ex
    obtain ⟨t, ⟨t1, t2⟩, -, t3⟩ := least_ex (T := fun s => s ≤ (2 ^ n - 1) / 2 ^ e ∧ ¬ bc (s * 2 ^ e) ≤ sm k (fun j => rk (A i) (g j ||| (s * 2 ^ e)) - bc (g j))) s0 hs0
    refine ⟨_, lp (fun k' (_ : Unit) s => w_X9_restCanBeDealt_3 Post 0 (Q i) (nI e) (nI o) (nI k) M k' (nI s)) t (fun _ _ => True) ?_ ?_ 0 () (by omega) trivial⟩
    · intro k' s _ hs _ hk'
      show w_X9_restCanBeDealt_3 Post 0 (Q i) (nI e) (nI o) (nI k) M (k' + 1) (nI s)
      have x1 := xl s (by omega)
      simp only [w_X9_restCanBeDealt_3, forall_eq, nI_1, h.2.1.2.2.1]
      rw [nI_shr (by omega) (by omega), nI_shl (by omega) (by omega)]
      refine bf (nI_nlt (by omega) (by omega)) (c_room h hi hok hk x1 hg hz (w_bc (by omega) ?_))
      have := sb1 (s * 2 ^ e)
      have := bc_16 (s * 2 ^ e)
      refine bt ((nI_leI (by omega) (by omega)).mpr ?_) (hk' () trivial)
      apply Classical.byContradiction
      intro q2
      exact t3 s hs ⟨by omega, q2⟩
    · intro k' _ _
      show w_X9_restCanBeDealt_3 Post 0 (Q i) (nI e) (nI o) (nI k) M (k' + 1) (nI t)
      have x1 := xl t (by omega)
      simp only [w_X9_restCanBeDealt_3, forall_eq, nI_1, h.2.1.2.2.1]
      rw [nI_shr (by omega) (by omega), nI_shl (by omega) (by omega)]
      refine bf (nI_nlt (by omega) (by omega)) (c_room h hi hok hk x1 hg hz (w_bc (by omega) ?_))
      have := sb1 (t * 2 ^ e)
      have := bc_16 (t * 2 ^ e)
      exact bf (by rw [nI_leI (by omega) (by omega)]; exact t2) (k0 hd)
end
