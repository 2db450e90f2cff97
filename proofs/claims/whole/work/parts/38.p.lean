/-! parts -/
def bdQ (n T : Nat) : Nat × Nat := if T < n then (0, 11) else (0, 12)
def tp (X : Nat → Int64) : Nat → Nat
  | 0 => 0
  | i + 1 => max (tp X i) (vl X i)
def pS (X : Nat → Int64) (k : Nat) : Nat → Nat
  | 0 => 0
  | i + 1 => if vl X i = k then pS X k i ||| b1 i else pS X k i
theorem pS_bit (X : Nat → Int64) (k t : Nat) : ∀ i, (pS X k i).testBit t = true ↔ t < i ∧ vl X t = k := by
  intro i
  induction i with
  | zero => simp [pS]
  | succ i ih =>
    unfold pS
    by_cases q : vl X i = k
    · rw [if_pos q, Nat.testBit_or, Bool.or_eq_true, ih, b1_bit, decide_eq_true_iff]
      constructor
      · rintro (z | z)
        · exact ⟨by omega, z.2⟩
        · subst z; exact ⟨by omega, q⟩
      · rintro ⟨z1, z2⟩
        by_cases y : i = t
        · exact Or.inr y
        · exact Or.inl ⟨by omega, z2⟩
    · rw [if_neg q, ih]
      constructor
      · rintro ⟨z1, z2⟩; exact ⟨by omega, z2⟩
      · rintro ⟨z1, z2⟩
        refine ⟨?_, z2⟩
        have : t ≠ i := fun y => by subst y; exact q z2
        omega
theorem pS_lt (X : Nat → Int64) (k i : Nat) : pS X k i < 2 ^ i := lt_of_bits fun t ht => ((pS_bit X k t i).mp ht).1
theorem pS_lam (X : Nat → Int64) (n m : Nat) : lam m (fun k => pS X k n) := by
  intro i j _ _
  by_cases q : i = j
  · subst q; exact Or.inr (Or.inl (sb_rf _))
  · refine Or.inl (and0.mpr (fun t ht => ?_))
    cases z : (pS X j n).testBit t
    · rfl
    · have a := ((pS_bit X i t n).mp ht).2
      have b := ((pS_bit X j t n).mp z).2
      omega
def pr_ok (X : Nat → Int64) (sz n : Nat) : Nat → Bool := okb X sz (bdQ n)
theorem pr_lo {X : Nat → Int64} {sz n T : Nat} (h : T < n) : pr_ok X sz n T = bnd X sz 0 11 T := by
  unfold pr_ok okb bdQ
  rw [if_pos h]
theorem pr_hi {X : Nat → Int64} {sz n T : Nat} (h : n ≤ T) : pr_ok X sz n T = bnd X sz 0 12 T := by
  unfold pr_ok okb bdQ
  rw [if_neg (by omega)]
def prB (X : Nat → Int64) (n : Nat) : Nat → Bool := bB (tp X n + 1) (fun k => pS X k n) (fun k => vl X (n + k))
theorem tp_le {X : Nat → Int64} {b : Nat} : ∀ i, (∀ t, t < i → vl X t ≤ b) → tp X i ≤ b := by
  intro i
  induction i with
  | zero => intro _; exact Nat.zero_le _
  | succ i ih =>
    intro h
    have a := ih (fun t ht => h t (by omega))
    have c := h i (by omega)
    show max (tp X i) (vl X i) ≤ b
    omega
/-- how many of the first i -/
theorem bcn_s (i x : Nat) : bcn (i + 1) x = bcn i x + (if x.testBit i = true then 1 else 0) := rfl
section
variable {M : pm_M} {n r : Nat} {w : Nat → Nat} {A : Nat → Nat → Bool} {c : Nat} {Q P : Nat → Nat} {j sz : Nat} {X : Nat → Int64}
theorem pr_b (s0 : sq sz (pr_ok X sz n) (n + (tp X n + 1)) = 0) : (∀ t, t < n → vl X t ≤ 11) ∧ (∀ k, k < tp X n + 1 → vl X (n + k) ≤ 12) ∧ tp X n ≤ 11 := by
  have a : ∀ t, t < n → vl X t ≤ 11 := fun t ht => by
    have := sq_ok _ s0 t (by omega)
    rw [pr_lo ht] at this
    exact (bnd_vl this (by decide) (by decide)).2.2.2
  refine ⟨a, fun k hk => ?_, tp_le n a⟩
  have := sq_ok _ s0 (n + k) (by omega)
  rw [pr_hi (by omega)] at this
  exact (bnd_vl this (by decide) (by decide)).2.2.2
theorem c_parts (h : iv M n r w A c Q P) (h24 : r < 24) (hj : j < 10) (hrow : hr M j = true) (hrc : rowc M j sz X) : cRu M n r w A c Q P 2 j (sq sz (pr_ok X sz n) (n + (tp X n + 1))) (prB X n) := by
  intro Post p0 p1
  have hn := iv_n h
  refine c_frame h h24 hj (by decide) hrow hrc (fun M3 h3 k3 r3 s3 => ?_)
  have z3 := h3.1.1
  unfold w_X9_checkFromNumbers
  refine ⟨fun e => absurd e (by decide), fun e => absurd e (by decide), fun _ => ⟨9, lr_0_6 h3.1, 5, lr_0_4 h3.1, ?_⟩, fun e => absurd e (by decide), fun e => absurd e (by decide), fun e => absurd e (by decide), fun e => absurd rfl (e 2 (by decide))⟩
  rw [h3.2.1.2.1]
  unfold w_X0_readParts
  generalize eF : (fun M_11 => ∃ q_12 : Nat, mR M_11 0 6 = some q_12 ∧ (fun v M' => ctn Post (nI 2) v M') q_12 M_11) = F
  refine ⟨_, lp (fun k' (N : pm_M) i => w_X0_readParts_2 F 9 5 (nI n) k' (nI i) N) 40 (fun i N => kp (scr r) M3 N ∧ cst N j 0 0 ∧ ∀ t, t < i → mI N 10 t = 0) ?_ ?_ 0 M3 (Nat.zero_le _) ⟨kp_rf _ _, s3, fun t ht => absurd ht (Nat.not_lt_zero t)⟩⟩
  · intro k' i N hi ⟨kN, cN, dN⟩ hk'
    show w_X0_readParts_2 F 9 5 (nI n) (k' + 1) (nI i) N
    have hN := iv_kp h3 kN
    simp only [w_X0_readParts_2, forall_eq, nI_1]
    refine ⟨10, lr_9_0 hN.1, ?_⟩
    rw [ln_10 hN.1]
    refine bf (nI_ge hi (by decide)) ⟨vp_in_nI hi (by decide), ?_⟩
    rw [nI_clamp (by omega)]
    refine hk' _ ⟨kp_sI kN scr10, cst_sI cN (by decide), fun t ht => ?_⟩
    rw [mI_sI]
    by_cases z : t = i
    · subst z; rw [if_pos ⟨rfl, rfl⟩]
    · rw [if_neg (by omega)]; exact dN t (by omega)
  · intro k' N ⟨kN, cN, dN⟩
    show w_X0_readParts_2 F 9 5 (nI n) (k' + 1) (nI 40) N
    have hN := iv_kp h3 kN
    simp only [w_X0_readParts_2, forall_eq]
    refine ⟨10, lr_9_0 hN.1, ?_⟩
    rw [ln_10 hN.1]
    refine bt (nI_le (Nat.le_refl _) (by decide)) ⟨_, lp (fun k' (N : pm_M) i => w_X0_readParts_31 F 9 5 (nI n) k' (nI i) N) n (fun i N => kp (scr r) M3 N ∧ cst N j i (sq sz (pr_ok X sz n) i) ∧ ∃ mc, mc ≤ 12 ∧ mI N 9 2 = nI mc ∧ (sq sz (pr_ok X sz n) i = 0 → (mc = if i = 0 then 0 else tp X i + 1) ∧ ∀ k, k < 40 → mI N 10 k = nI (pS X k i))) ?_ ?_ 0 (sI N 9 2 0) (Nat.zero_le _) ⟨kp_sI kN scr9, cst_sI cN (by decide), 0, by decide, by rw [mI_sI, if_pos ⟨rfl, rfl⟩]; rfl, fun _ => ⟨rfl, fun k hk => by rw [mI_sI, if_neg (by omega)]; exact dN k hk⟩⟩⟩
    · intro k2 i N1 hi ⟨kN1, cN1, mc, mc1, emc, dN1⟩ hk2
      show w_X0_readParts_31 F 9 5 (nI n) (k2 + 1) (nI i) N1
      have hN1 := iv_kp h3 kN1
      simp only [w_X0_readParts_31, forall_eq, nI_1]
      refine bf (nI_ge hi (by omega)) (c_nx (lo := 0) (hi := 11) hN1.1 (rc_scr z3 r3 kN1) okb_lt cN1 (pr_lo hi) (by decide) (by decide) (fun u M4 u0 u1 k4 c4 uv => ?_))
      have zN := kN1.1
      have k4' : kp (scr r) M3 M4 := kp_tr kN1 (kp_mono k4 (fun _ _ => rd5_scr))
      have h4 := iv_kp h3 k4'
      have vu : vp_in (nI u) (mN M4 10) := by rw [ln_10 h4.1]; exact vp_in_nI (by omega) (by decide)
      have e9 : mI M4 9 2 = nI mc := by rw [(k4.2.2 9 2 (by omega) (by unfold rd5; omega)).1]; exact emc
      refine ⟨10, lr_9_0 h4.1, vu, vu, ?_⟩
      rw [nI_clamp (by omega), nI_b1 i (by omega), mI_sI, if_neg (by omega), e9, nI_1 u]
      refine w_max (by omega) (by omega) (hk2 _ ⟨kp_sI (kp_sI k4' scr10) scr9, cst_sI (cst_sI c4 (by decide)) (by decide), max mc (u + 1), by omega, by rw [mI_sI, if_pos ⟨rfl, rfl⟩], fun s0 => ?_⟩)
      have sd := sq_down s0
      have ue := uv s0
      obtain ⟨d1, d2⟩ := dN1 sd
      have d4 : ∀ k, k < 40 → mI M4 10 k = nI (pS X k i) := fun k hk => by rw [(k4.2.2 10 k (by omega) (by unfold rd5; omega)).1]; exact d2 k hk
      refine ⟨?_, fun k hk => ?_⟩
      · rw [if_neg (by omega), d1, ue]
        show max (if i = 0 then 0 else tp X i + 1) (vl X i + 1) = max (tp X i) (vl X i) + 1
        by_cases z : i = 0
        · rw [if_pos z, z]
          show max 0 (vl X 0 + 1) = max 0 (vl X 0) + 1
          omega
        · rw [if_neg z]; omega
      · rw [mI_sI, if_neg (by omega), mI_sI]
        show _ = nI (if vl X i = k then pS X k i ||| b1 i else pS X k i)
        by_cases z : k = u
        · rw [if_pos ⟨rfl, z⟩, if_pos (by omega), z, d4 u (by omega), nI_or]
        · rw [if_neg (by omega), if_neg (by omega)]; exact d4 k hk
    · intro k2 N1 ⟨kN1, cN1, mc, mc1, emc, dN1⟩
      show w_X0_readParts_31 F 9 5 (nI n) (k2 + 1) (nI n) N1
      simp only [w_X0_readParts_31]
      refine bt (nI_le (Nat.le_refl _) (by omega)) ⟨_, lp (fun k' (N : pm_M) i => w_X0_readParts_81 F 9 5 k' (nI i) N) mc (fun i N => kp (scr r) M3 N ∧ cst N j (n + i) (sq sz (pr_ok X sz n) (n + i)) ∧ mI N 9 2 = nI mc ∧ (sq sz (pr_ok X sz n) (n + i) = 0 → (∀ k, k < 40 → mI N 10 k = nI (pS X k n)) ∧ ∀ t, t < i → mI N 11 t = nI (vl X (n + t)))) ?_ ?_ 0 N1 (Nat.zero_le _) ⟨kN1, cN1, emc, fun q => ⟨(dN1 q).2, fun t ht => absurd ht (Nat.not_lt_zero t)⟩⟩⟩
      · intro kq i N2 hi ⟨kN2, cN2, e2, dN2⟩ hk3
        show w_X0_readParts_81 F 9 5 (kq + 1) (nI i) N2
        have hN2 := iv_kp h3 kN2
        simp only [w_X0_readParts_81, e2, forall_eq, nI_1]
        refine bf (nI_ge hi (by omega)) ⟨11, lr_9_1 hN2.1, c_nx (lo := 0) (hi := 12) hN2.1 (rc_scr z3 r3 kN2) okb_lt cN2 (pr_hi (by omega)) (by decide) (by decide) (fun u M4 u0 u1 k4 c4 uv => ?_)⟩
        have zN := kN2.1
        have k4' : kp (scr r) M3 M4 := kp_tr kN2 (kp_mono k4 (fun _ _ => rd5_scr))
        have h4 := iv_kp h3 k4'
        refine ⟨by rw [ln_11 h4.1]; exact vp_in_nI (by omega) (by decide), ?_⟩
        rw [nI_clamp (by omega)]
        refine hk3 _ ⟨kp_sI k4' scr11, cst_sI c4 (by decide), ?_, fun s0 => ⟨fun k hk => ?_, fun t ht => ?_⟩⟩
        · rw [mI_sI, if_neg (by omega), (k4.2.2 9 2 (by omega) (by unfold rd5; omega)).1]; exact e2
        · rw [mI_sI, if_neg (by omega), (k4.2.2 10 k (by omega) (by unfold rd5; omega)).1]
          exact (dN2 (sq_down s0)).1 k hk
        · rw [mI_sI]
          by_cases z : t = i
          · subst z; rw [if_pos ⟨rfl, rfl⟩, uv s0]
          · rw [if_neg (by omega), (k4.2.2 11 t (by omega) (by unfold rd5; omega)).1]
            exact (dN2 (sq_down s0)).2 t (by omega)
      · intro kq N2 ⟨kN2, cN2, e2, dN2⟩
        show w_X0_readParts_81 F 9 5 (kq + 1) (nI mc) N2
        have hN2 := iv_kp h3 kN2
        simp only [w_X0_readParts_81, e2]
        refine bt (nI_le (Nat.le_refl _) (by omega)) ?_
        rw [← eF]
        refine ⟨9, lr_0_6 hN2.1, ?_⟩
        have same : sq sz (pr_ok X sz n) (n + mc) = sq sz (pr_ok X sz n) (n + (tp X n + 1)) := by
          by_cases q : sq sz (pr_ok X sz n) n = 0
          · rw [(dN1 q).1, if_neg (by omega)]
          · rw [sq_stuck q (n + mc) (by omega), sq_stuck q (n + (tp X n + 1)) (by omega)]
        rw [same] at cN2 dN2
        by_cases s0 : sq sz (pr_ok X sz n) (n + (tp X n + 1)) = 0
        · have me : mc = tp X n + 1 := by
            have := (dN1 (sq_le s0 (by omega))).1
            rw [if_neg (by omega)] at this
            exact this
          obtain ⟨b1, b2, b3⟩ := pr_b s0
          rw [me] at e2
          refine ctn_ok hN2 h24 (bB_mat (by omega) (pS_lam X n _)) (cok_x0 (S := fun k => pS X k n) (cc := fun k => vl X (n + k)) hN2 (by omega) e2 (fun i hi => ⟨(dN2 s0).1 i (by omega), (dN2 s0).2 i (by omega), ?_⟩)) (by decide) (by decide) (by decide) (by rw [cN2.2.1]; exact s0) (fun M1 hc => p1 s0 N2 M1 hN2 (kp_tr k3 kN2) hc)
          exact Nat.lt_of_le_of_lt (b2 i hi) (by decide)
        · exact ctn_bad hN2.1 cN2.2.1 s0 (p0 s0 N2 (kp_tr k3 kN2))
end
