/-! nested -/
def bdN (n T : Nat) : Nat × Nat := if T = 0 then (0, 40) else if T % 2 = 1 then (0, 2 ^ n - 1) else (0, 12)
def ns_ok (X : Nat → Int64) (sz n : Nat) : Nat → Bool := okb X sz (bdN n)
theorem ns_0 {X : Nat → Int64} {sz n : Nat} : ns_ok X sz n 0 = bnd X sz 0 40 0 := by
  unfold ns_ok okb bdN
  rw [if_pos rfl]
theorem ns_1 {X : Nat → Int64} {sz n i : Nat} : ns_ok X sz n (2 * i + 1) = bnd X sz 0 (2 ^ n - 1) (2 * i + 1) := by
  unfold ns_ok okb bdN
  rw [if_neg (by omega), if_pos (by omega)]
theorem ns_2 {X : Nat → Int64} {sz n i : Nat} : ns_ok X sz n (2 * i + 2) = bnd X sz 0 12 (2 * i + 2) := by
  unfold ns_ok okb bdN
  rw [if_neg (by omega), if_neg (by omega)]
def nS (X : Nat → Int64) (i : Nat) : Nat := vl X (2 * i + 1)
def nC (X : Nat → Int64) (i : Nat) : Nat := vl X (2 * i + 2)
def nE0 (X : Nat → Int64) (sz n : Nat) : Int32 := sq sz (ns_ok X sz n) (2 * vl X 0 + 1)
def nz (S : Nat → Nat) (i j : Nat) : Prop := S i &&& S j = 0 ∨ S i &&& S j = S i ∨ S i &&& S j = S j
theorem lam_iff {m : Nat} {S : Nat → Nat} : lam m S ↔ ∀ i j, i < m → j < i → nz S i j := by
  constructor
  · intro h i j hi hj
    rcases h i j hi (by omega) with z | z | z
    · exact Or.inl z
    · exact Or.inr (Or.inl (sb_iff.mp z))
    · exact Or.inr (Or.inr (by rw [Nat.and_comm]; exact sb_iff.mp z))
  · intro h i j hi hj
    by_cases e : i = j
    · subst e; exact Or.inr (Or.inl (sb_rf _))
    · by_cases q : j < i
      · rcases h i j hi q with z | z | z
        · exact Or.inl z
        · exact Or.inr (Or.inl (sb_iff.mpr z))
        · exact Or.inr (Or.inr (sb_iff.mpr (by rw [Nat.and_comm]; exact z)))
      · rcases h j i hj (by omega) with z | z | z
        · exact Or.inl (by rw [Nat.and_comm]; exact z)
        · exact Or.inr (Or.inr (sb_iff.mpr z))
        · exact Or.inr (Or.inl (sb_iff.mpr (by rw [Nat.and_comm]; exact z)))
theorem bad_ex {m : Nat} {S : Nat → Nat} (h : ¬ lam m S) : ∃ i j, i < m ∧ j < i ∧ ¬ nz S i j ∧ (∀ i', i' < i → ∀ j', j' < i' → nz S i' j') ∧ ∀ j', j' < j → nz S i j' := by
  have ex : ∃ i, i < m ∧ ∃ j, j < i ∧ ¬ nz S i j := by
    apply Classical.byContradiction
    intro q
    refine h (lam_iff.mpr (fun i j hi hj => Classical.byContradiction (fun z => q ⟨i, hi, j, hj, z⟩)))
  obtain ⟨i0, hi0⟩ := ex
  obtain ⟨i, ⟨i1, j0, hj0⟩, -, i3⟩ := least_ex (T := fun i => i < m ∧ ∃ j, j < i ∧ ¬ nz S i j) i0 hi0
  obtain ⟨j, ⟨j1, j2⟩, -, j3⟩ := least_ex (T := fun j => j < i ∧ ¬ nz S i j) j0 hj0
  refine ⟨i, j, i1, j1, j2, fun i' hi' j' hj' => Classical.byContradiction (fun z => i3 i' hi' ⟨by omega, j', hj', z⟩), fun j' hj' => Classical.byContradiction (fun z => j3 j' hj' ⟨by omega, z⟩)⟩
theorem c_lie {M : pm_M} {m : Nat} {S : Nat → Nat} (hl : lay M) (hm : m ≤ 40) (e2 : mI M 9 2 = nI m) (eS : ∀ i, i < m → mI M 10 i = nI (S i) ∧ S i < 4096) {Post : Int32 → Prop} (k1 : lam m S → Post 1) (k0 : ¬ lam m S → Post 0) : w_X0_lieNested 9 M Post := by
  have v10 : ∀ i, i < m → vp_in (nI i) (mN M 10) := fun i hi => by rw [ln_10 hl]; exact vp_in_nI (by omega) (by decide)
  have step : ∀ (k2 : Int32 → Prop) (i j k' : Nat), i < m → j < i → (nz S i j → w_X0_lieNested_12 Post k2 9 (nI i) M k' (nI (j + 1))) → (¬ nz S i j → Post 0) → w_X0_lieNested_12 Post k2 9 (nI i) M (k' + 1) (nI j) := by
    intro k2 i j k' hi hj g1 g0
    have si := (eS i hi).2
    have sj := (eS j (by omega)).2
    have ale : S i &&& S j ≤ S i := Nat.and_le_left
    simp only [w_X0_lieNested_12, w_X0_lieNested_57, forall_eq, nI_1]
    refine bf (nI_ge hj (by omega)) ⟨10, lr_9_0 hl, v10 i hi, v10 j (by omega), ?_⟩
    rw [nI_clamp (by omega), nI_clamp (by omega), (eS i hi).1, (eS j (by omega)).1, nI_and, nI_z (by omega), nI_eq (by omega) (by omega), nI_eq (by omega) (by omega)]
    refine ⟨fun q => g1 (Or.inl q), fun q => ⟨v10 i hi, fun q2 => g1 (Or.inr (Or.inl q2)), fun q2 => ⟨v10 j (by omega), fun q3 => g1 (Or.inr (Or.inr q3)), fun q3 => g0 ?_⟩⟩⟩
    rintro (z | z | z)
    · exact q z
    · exact q2 z
    · exact q3 z
  have row : ∀ (k2 : Int32 → Prop) (i : Nat), i < m → (∀ j, j < i → nz S i j) → k2 (nI (i + 1)) → ∃ n_3 : Nat, w_X0_lieNested_12 Post k2 9 (nI i) M n_3 0 := by
    intro k2 i hi hz g
    refine ⟨_, lp (fun k' (_ : Unit) j => w_X0_lieNested_12 Post k2 9 (nI i) M k' (nI j)) i (fun _ _ => True) ?_ ?_ 0 () (Nat.zero_le _) trivial⟩
    · intro k' j _ hj _ hk'
      exact step k2 i j k' hi hj (fun _ => hk' () trivial) (fun q => absurd (hz j hj) q)
    · intro k' _ _
      show w_X0_lieNested_12 Post k2 9 (nI i) M (k' + 1) (nI i)
      simp only [w_X0_lieNested_12, forall_eq, nI_1]
      exact bt (nI_le (Nat.le_refl _) (by omega)) g
  unfold w_X0_lieNested
  by_cases q : lam m S
  · refine ⟨_, lp (fun k' (_ : Unit) i => w_X0_lieNested_2 Post 9 M k' (nI i)) m (fun _ _ => True) ?_ ?_ 0 () (Nat.zero_le _) trivial⟩
    · intro k' i _ hi _ hk'
      show w_X0_lieNested_2 Post 9 M (k' + 1) (nI i)
      simp only [w_X0_lieNested_2, e2]
      exact bf (nI_ge hi (by omega)) (row _ i hi (fun j hj => lam_iff.mp q i j hi hj) (hk' () trivial))
    · intro k' _ _
      show w_X0_lieNested_2 Post 9 M (k' + 1) (nI m)
      simp only [w_X0_lieNested_2, e2]
      exact bt (nI_le (Nat.le_refl _) (by omega)) (k1 q)
  · obtain ⟨i, j, hi, hj, bad, g1, g2⟩ := bad_ex q
    refine ⟨_, lp (fun k' (_ : Unit) i => w_X0_lieNested_2 Post 9 M k' (nI i)) i (fun _ _ => True) ?_ ?_ 0 () (Nat.zero_le _) trivial⟩
    · intro k' i' _ hi' _ hk'
      show w_X0_lieNested_2 Post 9 M (k' + 1) (nI i')
      simp only [w_X0_lieNested_2, e2]
      exact bf (nI_ge (by omega) (by omega)) (row _ i' (by omega) (fun j' hj' => g1 i' hi' j' hj') (hk' () trivial))
    · intro k' _ _
      show w_X0_lieNested_2 Post 9 M (k' + 1) (nI i)
      simp only [w_X0_lieNested_2, e2]
      refine bf (nI_ge hi (by omega)) ⟨_, lp (fun k2 (_ : Unit) j => w_X0_lieNested_12 Post (w_X0_lieNested_2 Post 9 M k') 9 (nI i) M k2 (nI j)) j (fun _ _ => True) ?_ ?_ 0 () (Nat.zero_le _) trivial⟩
      · intro k2 j' _ hj' _ hk2
        exact step _ i j' k2 hi (by omega) (fun _ => hk2 () trivial) (fun z => absurd (g2 j' hj') z)
      · intro k2 _ _
        exact step _ i j k2 hi hj (fun z => absurd z bad) (fun _ => k0 q)
section
variable {M : pm_M} {n r : Nat} {w : Nat → Nat} {A : Nat → Nat → Bool} {c : Nat} {Q P : Nat → Nat} {j sz : Nat} {X : Nat → Int64}
theorem ns_b (hn : n ≤ 12) (s0 : nE0 X sz n = 0) : vl X 0 ≤ 40 ∧ ∀ i, i < vl X 0 → nS X i < 2 ^ n ∧ nC X i ≤ 12 := by
  have h2 := Nat.two_pow_pos n
  have hp := p2_le hn
  refine ⟨?_, fun i hi => ?_⟩
  · have := sq_ok _ s0 0 (by omega)
    rw [ns_0] at this
    exact (bnd_vl this (by decide) (by decide)).2.2.2
  · have a := sq_ok _ s0 (2 * i + 1) (by omega)
    have b := sq_ok _ s0 (2 * i + 2) (by omega)
    rw [ns_1] at a
    rw [ns_2] at b
    have a' := (bnd_vl a (by omega) (by decide)).2.2.2
    have b' := (bnd_vl b (by decide) (by decide)).2.2.2
    unfold nS nC
    omega
theorem c_nested {E : Int32} (h : iv M n r w A c Q P) (h24 : r < 24) (hj : j < 10) (hrow : hr M j = true) (hrc : rowc M j sz X) (e1 : ¬ nE0 X sz n = 0 → E = nE0 X sz n) (e2 : nE0 X sz n = 0 → lam (vl X 0) (nS X) → E = 0) (e3 : nE0 X sz n = 0 → ¬ lam (vl X 0) (nS X) → E = -7) : cRu M n r w A c Q P 3 j E (bB (vl X 0) (nS X) (nC X)) := by
  intro Post p0 p1
  have hn := iv_n h
  have hp := iv_p h
  have h2 := Nat.two_pow_pos n
  refine c_frame h h24 hj (by decide) hrow hrc (fun M3 h3 k3 r3 s3 => ?_)
  have z3 := h3.1.1
  unfold w_X9_checkFromNumbers
  refine ⟨fun e => absurd e (by decide), fun e => absurd e (by decide), fun e => absurd e (by decide), fun _ => ⟨9, lr_0_6 h3.1, 5, lr_0_4 h3.1, ?_⟩, fun e => absurd e (by decide), fun e => absurd e (by decide), fun e => absurd rfl (e 3 (by decide))⟩
  rw [h3.2.1.2.2.1]
  unfold w_X0_readNested
  generalize eF : (fun M_11 => ∃ q_12 : Nat, mR M_11 0 6 = some q_12 ∧ (fun v M' => ctn Post (nI 3) v M') q_12 M_11) = F
  refine c_nx (lo := 0) (hi := 40) h3.1 r3 okb_lt (ok := ns_ok X sz n) (T := 0) s3 ns_0 (by decide) (by decide) (fun u M1 u0 u1 k1 c1 uv => ?_)
  intro M4 e4
  have k4 : kp (scr r) M3 M4 := by rw [e4]; exact kp_sI (kp_mono k1 (fun _ _ => rd5_scr)) scr9
  refine ⟨_, lp (fun k' (N : pm_M) i => w_X0_readNested_13 F 9 5 (nI (2 ^ n - 1)) k' (nI i) N) u (fun i N => kp (scr r) M3 N ∧ cst N j (2 * i + 1) (sq sz (ns_ok X sz n) (2 * i + 1)) ∧ mI N 9 2 = nI u ∧ (sq sz (ns_ok X sz n) (2 * i + 1) = 0 → ∀ t, t < i → mI N 10 t = nI (nS X t) ∧ mI N 11 t = nI (nC X t))) ?_ ?_ 0 M4 (Nat.zero_le _) ⟨k4, by rw [e4]; exact cst_sI c1 (by decide), by rw [e4, mI_sI, if_pos ⟨rfl, rfl⟩], fun _ t ht => absurd ht (Nat.not_lt_zero t)⟩⟩
  · intro k' i N hi ⟨kN, cN, eN, dN⟩ hk'
    show w_X0_readNested_13 F 9 5 (nI (2 ^ n - 1)) (k' + 1) (nI i) N
    have hN := iv_kp h3 kN
    simp only [w_X0_readNested_13, eN, forall_eq, nI_1]
    refine bf (nI_ge hi (by omega)) ⟨10, lr_9_0 hN.1, c_nx (lo := 0) (hi := 2 ^ n - 1) hN.1 (rc_scr z3 r3 kN) okb_lt cN ns_1 (by omega) (Nat.zero_le _) (fun x M5 x0 x1 k5 c5 xv => ?_)⟩
    have zN := kN.1
    have k5' : kp (scr r) M3 M5 := kp_tr kN (kp_mono k5 (fun _ _ => rd5_scr))
    have h5 := iv_kp h3 k5'
    refine ⟨by rw [ln_10 h5.1]; exact vp_in_nI (by omega) (by decide), ?_⟩
    rw [nI_clamp (by omega)]
    have k6 : kp (scr r) M3 (sI M5 10 i (nI x)) := kp_sI k5' scr10
    have h6 := iv_kp h3 k6
    refine ⟨11, lr_9_1 h6.1, c_nx (lo := 0) (hi := 12) h6.1 (rc_scr z3 r3 k6) okb_lt (cst_sI c5 (by decide)) ns_2 (by decide) (by decide) (fun y M7 y0 y1 k7 c7 yv => ?_)⟩
    have z5 := k5'.1
    have z6 : mZ (sI M5 10 i (nI x)) = mZ M5 := rfl
    have k7' : kp (scr r) M3 M7 := kp_tr k6 (kp_mono k7 (fun _ _ => rd5_scr))
    have h7 := iv_kp h3 k7'
    refine ⟨by rw [ln_11 h7.1]; exact vp_in_nI (by omega) (by decide), ?_⟩
    refine hk' _ ⟨kp_sI k7' scr11, cst_sI c7 (by decide), ?_, fun s0 t ht => ?_⟩
    · rw [mI_sI, if_neg (by omega), (k7.2.2 9 2 (by omega) (by unfold rd5; omega)).1, mI_sI, if_neg (by omega), (k5.2.2 9 2 (by omega) (by unfold rd5; omega)).1]; exact eN
    · have s2 : sq sz (ns_ok X sz n) (2 * i + 1 + 1 + 1) = 0 := s0
      rw [mI_sI, if_neg (by omega), (k7.2.2 10 t (by omega) (by unfold rd5; omega)).1, mI_sI, mI_sI]
      by_cases z : t = i
      · subst z
        rw [if_pos ⟨rfl, rfl⟩, if_pos ⟨rfl, rfl⟩, xv (sq_down s2), yv s2]
        exact ⟨rfl, rfl⟩
      · rw [if_neg (by omega), if_neg (by omega), (k5.2.2 10 t (by omega) (by unfold rd5; omega)).1, (k7.2.2 11 t (by omega) (by unfold rd5; omega)).1, mI_sI, if_neg (by omega), (k5.2.2 11 t (by omega) (by unfold rd5; omega)).1]
        exact dN (sq_down (sq_down s2)) t (by omega)
  · intro k' N ⟨kN, cN, eN, dN⟩
    show w_X0_readNested_13 F 9 5 (nI (2 ^ n - 1)) (k' + 1) (nI u) N
    have hN := iv_kp h3 kN
    simp only [w_X0_readNested_13, eN]
    refine bt (nI_le (Nat.le_refl _) (by omega)) ?_
    rw [← eF]
    refine ⟨9, lr_0_6 hN.1, ?_⟩
    have same : sq sz (ns_ok X sz n) (2 * u + 1) = nE0 X sz n := by
      unfold nE0
      by_cases q : sq sz (ns_ok X sz n) (0 + 1) = 0
      · rw [uv q]
      · rw [sq_stuck q (2 * u + 1) (by omega), sq_stuck q (2 * vl X 0 + 1) (by omega)]
    rw [same] at cN dN
    by_cases s0 : nE0 X sz n = 0
    · have ue : u = vl X 0 := uv (sq_le s0 (by omega))
      subst ue
      obtain ⟨b1, b2⟩ := ns_b hn.2.1 s0
      have dd := dN s0
      refine ⟨5, lr_0_4 hN.1, ?_⟩
      rw [cN.2.1]
      refine bt s0 (bt' rfl ⟨9, lr_0_6 hN.1, c_lie (S := nS X) hN.1 b1 eN (fun i hi => ⟨(dd i hi).1, by have := (b2 i hi).1; omega⟩) (fun hl => bf' one0 ?_) (fun hl => bt' rfl ?_)⟩)
      · refine r96_ok hN h24 (bB_mat (by omega) hl) (cok_x0 (S := nS X) (cc := nC X) hN b1 eN (fun i hi => ⟨(dd i hi).1, (dd i hi).2, by have := (b2 i hi).2; omega⟩)) (by decide) (by decide) (fun M1 hc => p1 (e2 s0 hl) N M1 hN (kp_tr k3 kN) hc)
      · have := p0 (by rw [e3 s0 hl]; decide) N (kp_tr k3 kN)
        rw [e3 s0 hl] at this
        exact this
    · have := p0 (by rw [e1 s0]; exact s0) N (kp_tr k3 kN)
      rw [e1 s0] at this
      exact ctn_bad hN.1 cN.2.1 s0 this
end
