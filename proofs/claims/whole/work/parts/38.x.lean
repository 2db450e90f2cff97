/-! told: asked -/
def bdT (n T : Nat) : Nat × Nat := if T = 0 then (0, 150) else (0, 2 ^ n - 1)
def to_ok (X : Nat → Int64) (sz n : Nat) : Nat → Bool := okb X sz (bdT n)
theorem to_0 {X : Nat → Int64} {sz n : Nat} : to_ok X sz n 0 = bnd X sz 0 150 0 := by
  unfold to_ok okb bdT
  rw [if_pos rfl]
theorem to_1 {X : Nat → Int64} {sz n i : Nat} : to_ok X sz n (i + 1) = bnd X sz 0 (2 ^ n - 1) (i + 1) := by
  unfold to_ok okb bdT
  rw [if_neg (by omega)]
def tE0 (X : Nat → Int64) (sz n : Nat) : Int32 := sq sz (to_ok X sz n) (vl X 0 + 1)
theorem scr7 {r k : Nat} : scr r 7 k := Or.inr (Or.inl rfl)
theorem scr8 {r k : Nat} : scr r 8 k := Or.inr (Or.inr (Or.inl rfl))
theorem scr62 {r : Nat} : scr r 6 2 := Or.inr (Or.inr (Or.inr (Or.inl ⟨rfl, rfl⟩)))
theorem lsp_scr {r a k : Nat} (h : lsp a k) : scr r a k := by
  rcases h with h | h
  · rw [h]; exact scr8
  · rw [h.1, h.2]; exact scr62
section
variable {M : pm_M} {n r : Nat} {w : Nat → Nat} {A : Nat → Nat → Bool} {c : Nat} {Q P : Nat → Nat} {j sz : Nat} {X : Nat → Int64}
theorem c_told (h : iv M n r w A c Q P) (h24 : r < 24) (hj : j < 10) (hrow : hr M j = true) (hrc : rowc M j sz X) {Post : Int32 → pm_M → Prop} (pE : ¬ tE0 X sz n = 0 → ∀ M', kp (scr r) M M' → Post (tE0 X sz n) M') (pB : tE0 X sz n = 0 → ∀ M' M'' c0 x y, kp (scr r) M M' → bkn (tB X (vl X 0)) n c0 x y → brc M' M'' c0 x y → Post (-9) M'') (p0 : tE0 X sz n = 0 → tB X (vl X 0) 0 = true → n2 (tB X (vl X 0)) n → n3 (tB X (vl X 0)) n → ∀ M0 M1, iv M0 n r w A c Q P → kp (scr r) M M0 → cad M0 M1 n r c Q P (tB X (vl X 0)) (nI 0) (-1) (-1) (nI 1) → Post (nI r) M1) : w_X9_rule 0 (nI 0) (nI j) M Post := by
  have hn := iv_n h
  have hp := iv_p h
  have h2 := Nat.two_pow_pos n
  refine c_frame h h24 hj (by decide) hrow hrc (fun M3 h3 k3 r3 s3 => ?_)
  have z3 := h3.1.1
  unfold w_X9_checkFromNumbers
  refine ⟨fun _ => ⟨6, lr_0_5 h3.1, 5, lr_0_4 h3.1, ?_⟩, fun e => absurd e (by decide), fun e => absurd e (by decide), fun e => absurd e (by decide), fun e => absurd e (by decide), fun e => absurd e (by decide), fun e => absurd rfl (e 0 (by decide))⟩
  rw [h3.2.1.2.2.1]
  unfold w_X7_readSets
  generalize eF : (fun M_3 => ∃ q_4 : Nat, mR M_3 0 5 = some q_4 ∧ (fun v M' => ctn Post (nI 0) v M') q_4 M_3) = F
  refine ⟨_, lp (fun k' (N : pm_M) i => w_X7_readSets_2 F 6 5 (nI (2 ^ n - 1)) k' (nI i) N) 64 (fun i N => kp (scr r) M3 N ∧ cst N j 0 0 ∧ ∀ t, t < i → mL N 7 t = 0) ?_ ?_ 0 M3 (Nat.zero_le _) ⟨kp_rf _ _, s3, fun t ht => absurd ht (Nat.not_lt_zero t)⟩⟩
  · intro k' i N hi ⟨kN, cN, dN⟩ hk'
    show w_X7_readSets_2 F 6 5 (nI (2 ^ n - 1)) (k' + 1) (nI i) N
    have hN := iv_kp h3 kN
    simp only [w_X7_readSets_2, forall_eq, nI_1]
    refine ⟨7, lr_6_0 hN.1, ?_⟩
    rw [ln_7 hN.1]
    refine bf (nI_ge hi (by decide)) ⟨vp_in_nI hi (by decide), ?_⟩
    rw [nI_clamp (by omega)]
    refine hk' _ ⟨kp_sL kN scr7, cst_sL cN, fun t ht => ?_⟩
    rw [mL_sL]
    by_cases z : t = i
    · subst z; rw [if_pos ⟨rfl, rfl⟩]
    · rw [if_neg (by omega)]; exact dN t (by omega)
  · intro k' N ⟨kN, cN, dN⟩
    show w_X7_readSets_2 F 6 5 (nI (2 ^ n - 1)) (k' + 1) (nI 64) N
    have hN := iv_kp h3 kN
    simp only [w_X7_readSets_2]
    refine ⟨7, lr_6_0 hN.1, ?_⟩
    rw [ln_7 hN.1]
    refine bt (nI_le (Nat.le_refl _) (by decide)) (c_nx (lo := 0) (hi := 150) hN.1 (rc_scr z3 r3 kN) okb_lt (ok := to_ok X sz n) (T := 0) cN to_0 (by decide) (by decide) (fun u M1 u0 u1 k1 c1 uv => ?_))
    have zN := kN.1
    have k1' : kp (scr r) M3 M1 := kp_tr kN (kp_mono k1 (fun _ _ => rd5_scr))
    have z1 := k1'.1
    have m1 : mks M1 (tB X 0) := fun s hs => by
      rw [(k1.2.2 7 _ (by omega) (by unfold rd5; omega)).2.1, dN _ (by omega), lb_0]
      rfl
    refine ⟨_, lp (fun k' (N : pm_M) i => w_X7_readSets_36 F 6 5 (nI (2 ^ n - 1)) (nI u) k' (nI i) N) u (fun i N => kp (scr r) M3 N ∧ cst N j (i + 1) (sq sz (to_ok X sz n) (i + 1)) ∧ (sq sz (to_ok X sz n) (i + 1) = 0 → mks N (tB X i))) ?_ ?_ 0 M1 (Nat.zero_le _) ⟨k1', c1, fun _ => m1⟩⟩
    · intro k2 i N2 hi ⟨kN2, cN2, dN2⟩ hk2
      show w_X7_readSets_36 F 6 5 (nI (2 ^ n - 1)) (nI u) (k2 + 1) (nI i) N2
      have hN2 := iv_kp h3 kN2
      simp only [w_X7_readSets_36, w_X7_readSets_83, forall_eq, nI_1]
      refine bf (nI_ge hi (by omega)) (c_nx (lo := 0) (hi := 2 ^ n - 1) hN2.1 (rc_scr z3 r3 kN2) okb_lt cN2 to_1 (by omega) (Nat.zero_le _) (fun x M5 x0 x1 k5 c5 xv => ?_))
      have z2 := kN2.1
      have k5' : kp (scr r) M3 M5 := kp_tr kN2 (kp_mono k5 (fun _ _ => rd5_scr))
      have h5 := iv_kp h3 k5'
      refine ⟨7, lr_6_0 h5.1, ?_⟩
      rw [ln_7 h5.1, nI_s6 (by omega), nI_63]
      have vx : vp_in (nI (x / 64)) 64 := vp_in_nI (by omega) (by decide)
      refine bf (nI_ge (by omega) (by decide)) ⟨vx, vx, ?_⟩
      rw [nI_clamp (by omega)]
      refine hk2 _ ⟨kp_sL k5' scr7, cst_sL c5, fun s0 s hs => ?_⟩
      have d := dN2 (sq_down s0) s hs
      have xe := xv s0
      rw [mL_sL, tB_s, ← d, ← xe]
      by_cases z : s / 64 = x / 64
      · rw [if_pos ⟨rfl, z⟩, lb_or _ (by omega) (by omega), (k5.2.2 7 _ (by omega) (by unfold rd5; omega)).2.1, z]
        congr 1
        apply decide_eq_decide.mpr
        omega
      · rw [if_neg (by omega), (k5.2.2 7 _ (by omega) (by unfold rd5; omega)).2.1, decide_eq_false (show ¬ x = s by omega), Bool.or_false]
    · intro k2 N2 ⟨kN2, cN2, dN2⟩
      show w_X7_readSets_36 F 6 5 (nI (2 ^ n - 1)) (nI u) (k2 + 1) (nI u) N2
      have hN2 := iv_kp h3 kN2
      simp only [w_X7_readSets_36]
      refine bt (nI_le (Nat.le_refl _) (by omega)) ?_
      rw [← eF]
      refine ⟨6, lr_0_5 hN2.1, ?_⟩
      have same : sq sz (to_ok X sz n) (u + 1) = tE0 X sz n := by
        unfold tE0
        by_cases q : sq sz (to_ok X sz n) (0 + 1) = 0
        · rw [uv q]
        · rw [sq_stuck q (u + 1) (by omega), sq_stuck q (vl X 0 + 1) (by omega)]
      rw [same] at cN2 dN2
      by_cases s0 : tE0 X sz n = 0
      · have ue : u = vl X 0 := uv (sq_le s0 (by omega))
        subst ue
        have mk2 := dN2 s0
        have cc : cnt (tB X (vl X 0)) (2 ^ n) ≤ 150 := Nat.le_trans (tB_cnt X _ _) u1
        refine ⟨5, lr_0_4 hN2.1, ?_⟩
        rw [cN2.2.1]
        refine bt s0 (bf' (by decide) ?_)
        unfold w_X9_rule_96 w_X9_rule_117
        refine bt' rfl ⟨6, lr_0_5 hN2.1, ?_⟩
        rw [hN2.2.1.2.2.1]
        refine c_breaks hn.2.1 hN2.1 mk2 cc (fun M' k' g0 g2 g3 => bt rfl ?_) (fun M' M'' c0 x y k' hb hm => bf one0 (pB s0 M' M'' c0 x y (kp_tr k3 (kp_tr kN2 (kp_mono k' (fun _ _ => lsp_scr)))) hb hm))
        have k'' : kp (scr r) M3 M' := kp_tr kN2 (kp_mono k' (fun _ _ => lsp_scr))
        have h' := iv_kp h3 k''
        have z2 := kN2.1
        exact c_add h' h24 (told_mat g0 g2 g3) (cok_x7 h' (mks_of mk2 (fun k => (k'.2.2 7 k (by omega) (by unfold lsp; omega)).2.1))) (fun M1 hc => p0 s0 g0 g2 g3 M' M1 h' (kp_tr k3 k'') hc)
      · exact ctn_bad hN2.1 cN2.2.1 s0 (pE s0 N2 (kp_tr k3 kN2))
end
def mr7 (r a k : Nat) : Prop := mrd r a k ∨ a = 70
theorem m_told {n r : Nat} {A : Nat → Nat → Bool} {j sz : Nat} {X : Nat → Int64} {M : pm_M} (h24 : r < 24) (hj : j < 10) (h : im M n r A) (hrm : rowm M j sz X) {Post : Int32 → pm_M → Prop} (pE : ¬ tE0 X sz n = 0 → ∀ M', kp (mrd r) M M' → Post (tE0 X sz n) M') (pB : tE0 X sz n = 0 → ∀ M' c0 x y, kp (mr7 r) M M' → bkn (tB X (vl X 0)) n c0 x y → mI M' 70 0 = nI c0 → mI M' 70 1 = nI x → mI M' 70 2 = nI y → Post (-9) M') (p0 : tE0 X sz n = 0 → tB X (vl X 0) 0 = true → n2 (tB X (vl X 0)) n → n3 (tB X (vl X 0)) n → ∀ M', mpo M M' n r (tB X (vl X 0)) (nI 0) (-1) (-1) (nI 1) → Post (nI r) M') : w_X10_rule 62 (nI 0) (nI j) M Post := by
  have hp := p2_le h.2.1.2.1
  have hn := h.2.1
  have zz := h.1.1
  have h2 := Nat.two_pow_pos n
  refine m_frame (RK := fun N F => w_X10_readsTold 62 N F) h h24 hj (by decide) hrm (fun N F f => ⟨fun _ => f, fun e => absurd e (by decide), fun e => absurd e (by decide), fun e => absurd e (by decide), fun e => absurd e (by decide), fun e => absurd e (by decide), fun e => absurd rfl (e 0 (by decide))⟩) (fun N iN kN rN mN' hN => ?_)
  unfold w_X10_readsTold
  generalize eF : (fun M_2 => w_X10_rule_178 Post 62 (nI 0) M_2) = F
  refine m_nx (lo := 0) (hi := 150) iN.1 rN okb_lt (ok := to_ok X sz n) (T := 0) mN' to_0 (by decide) (by decide) (fun u M1 u1 k1 c1 uv => ?_)
  have kM1 : kp (mrd r) M M1 := kp_tr kN (kp_mono k1 (fun _ _ => rdm_mrd))
  have zN0 := kN.1
  have same : ∀ T, u ≤ T → sq sz (to_ok X sz n) (u + 1) = tE0 X sz n := fun T _ => by
    unfold tE0
    by_cases q : sq sz (to_ok X sz n) (0 + 1) = 0
    · rw [uv q]
    · rw [sq_stuck q (u + 1) (by omega), sq_stuck q (vl X 0 + 1) (by omega)]
  have bad : ∀ (N2 : pm_M) (i : Nat), i ≤ u → kp (mrd r) M N2 → mst N2 j (i + 1) (sq sz (to_ok X sz n) (i + 1)) → ¬ sq sz (to_ok X sz n) (i + 1) = 0 → w_X10_readsTold_52 F 62 N2 := by
    intro N2 i hi k2 m2 ne
    have e : sq sz (to_ok X sz n) (i + 1) = tE0 X sz n := by
      rw [← same u (Nat.le_refl _), sq_stuck ne (u + 1) (by omega)]
    unfold w_X10_readsTold_52 w_X10_readsTold_72
    rw [m2.2.1]
    refine bf' ne ?_
    rw [← eF]
    exact m_178_bad m2.2.1 ne (by rw [e]; exact pE (by rw [← e]; exact ne) N2 k2)
  refine ⟨_, lp (fun k' (N2 : pm_M) i => w_X10_readsTold_11 F 62 (nI u) k' (nI i) N2) u (fun i N2 => kp (mrd r) M N2 ∧ mst N2 j (i + 1) (sq sz (to_ok X sz n) (i + 1)) ∧ (sq sz (to_ok X sz n) (i + 1) = 0 → ∀ s, s < 2 ^ n → mI N2 64 (4096 * r + s) = bI (tB X i s))) ?_ ?_ 0 M1 (Nat.zero_le _) ⟨kM1, c1, fun _ s hs => by rw [(k1.2.2 64 _ (by omega) (by unfold rdm; omega)).1, hN s hs]; rfl⟩⟩
  · intro k' i N2 hi ⟨k2, m2, t2⟩ hk'
    show w_X10_readsTold_11 F 62 (nI u) (k' + 1) (nI i) N2
    have i2 := im_mrd h k2
    have z2 := k2.1
    simp only [w_X10_readsTold_11, w_X10_readsTold_46, m2.2.1, i2.2.2.2.1, nI_l (show 2 ^ n - 1 < 2 ^ 31 by omega), forall_eq, nI_1]
    refine bf (nI_ge hi (by omega)) ?_
    by_cases s0 : sq sz (to_ok X sz n) (i + 1) = 0
    · refine bt' s0 (m_nx (lo := 0) (hi := 2 ^ n - 1) i2.1 (rm_mrd zz hrm k2) okb_lt m2 to_1 (by omega) (Nat.zero_le _) (fun x M5 x1 k5 c5 xv => ?_))
      have k5' : kp (mrd r) M M5 := kp_tr k2 (kp_mono k5 (fun _ _ => rdm_mrd))
      have i5 := im_mrd h k5'
      have t5 : ∀ s, s < 2 ^ n → mI M5 64 (4096 * r + s) = bI (tB X i s) := fun s hs => by rw [(k5.2.2 64 _ (by omega) (by unfold rdm; omega)).1]; exact t2 s0 s hs
      rw [c5.2.1]
      by_cases s1 : sq sz (to_ok X sz n) (i + 1 + 1) = 0
      · refine bt' s1 (m_allow i5 h24 (show x < 2 ^ n by omega) (hk' _ ⟨kp_sI k5' (Or.inr (Or.inl ⟨rfl, by omega⟩)), mst_sI c5 (by decide), fun _ s hs => ?_⟩))
        have xe := xv s1
        rw [mI_sI, tB_s, ← xe]
        by_cases z : s = x
        · subst z
          rw [if_pos ⟨rfl, rfl⟩, decide_eq_true rfl, Bool.or_true]
        · rw [if_neg (by omega), decide_eq_false (fun q => z q.symm), Bool.or_false]
          exact t5 s hs
      · refine bf' s1 (hk' M5 ⟨k5', c5, fun q => absurd q s1⟩)
    · exact bf' s0 (bad N2 i (by omega) k2 m2 s0)
  · intro k' N2 ⟨k2, m2, t2⟩
    show w_X10_readsTold_11 F 62 (nI u) (k' + 1) (nI u) N2
    have i2 := im_mrd h k2
    have z2 := k2.1
    simp only [w_X10_readsTold_11]
    refine bt (nI_le (Nat.le_refl _) (by omega)) ?_
    by_cases s0 : sq sz (to_ok X sz n) (u + 1) = 0
    · have E0 : tE0 X sz n = 0 := by rw [← same u (Nat.le_refl _)]; exact s0
      have ue : u = vl X 0 := uv (sq_le s0 (by omega))
      subst ue
      unfold w_X10_readsTold_52 w_X10_readsTold_72
      rw [m2.2.1]
      refine bt' s0 (m_breaks i2 h24 (t2 s0) (fun g0 g2 g3 => bt rfl ?_) (fun M' c0 x y hb hm => bf one0 (fun M5 e5 => ?_)))
      · rw [← eF]
        exact m_178_ok h h24 g0 k2 (by rw [m2.2.1]; exact s0) (t2 s0) (fun M' hm => p0 E0 g0 g2 g3 M' hm)
      · rw [← eF]
        have k5 : kp (mr7 r) M M5 := by
          rw [e5, hm]
          exact kp_sI (kp_sI (kp_sI (kp_sI (kp_mono k2 (fun _ _ => Or.inl)) (Or.inr rfl)) (Or.inr rfl)) (Or.inr rfl)) (Or.inl (Or.inl ⟨rfl, by decide, by decide⟩))
        refine m_178_bad (st := -9) (by rw [e5, mI_sI, if_pos ⟨rfl, rfl⟩]) (by decide) (pB E0 M5 c0 x y k5 hb ?_ ?_ ?_)
        · rw [e5, hm, mI_sI, if_neg (by omega), mI_sI, if_neg (by omega), mI_sI, if_neg (by omega), mI_sI, if_pos ⟨rfl, rfl⟩]
        · rw [e5, hm, mI_sI, if_neg (by omega), mI_sI, if_neg (by omega), mI_sI, if_pos ⟨rfl, rfl⟩]
        · rw [e5, hm, mI_sI, if_neg (by omega), mI_sI, if_pos ⟨rfl, rfl⟩]
    · exact bad N2 u (Nat.le_refl _) k2 m2 s0
theorem bkn_u {G : Nat → Bool} {n c x y c' x' y' : Nat} (h : bkn G n c x y) (h' : bkn G n c' x' y') : c = c' ∧ x = x' ∧ y = y' := by
  have no : ∀ {x y}, n2 G n → ¬ l2 G n x y := fun g ⟨a1, a2, ⟨b1, b2, b3, b4⟩, a3⟩ => by rw [g _ a1 a2 _ b1 b2] at b3; cases b3
  rcases h with ⟨e1, e2, e3, e4⟩ | ⟨e1, e2, e3⟩ | ⟨e1, e2, e3, e4⟩ <;> rcases h' with ⟨f1, f2, f3, f4⟩ | ⟨f1, f2, f3⟩ | ⟨f1, f2, f3, f4⟩
  · omega
  · rw [e4] at f2; cases f2
  · rw [e4] at f2; cases f2
  · rw [f4] at e2; cases e2
  · obtain ⟨a1, a2, ⟨b1, b2, b3, b4⟩, a3⟩ := e3
    obtain ⟨a1', a2', ⟨b1', b2', b3', b4'⟩, a3'⟩ := f3
    have hx : x = x' := by
      by_cases z : x < x'
      · rw [a3' x z a2 y b1 b2] at b3; cases b3
      · by_cases z' : x' < x
        · rw [a3 x' z' a2' y' b1' b2'] at b3'; cases b3'
        · omega
    subst hx
    refine ⟨by omega, rfl, ?_⟩
    by_cases z : y < y'
    · rw [b4' y z b2] at b3; cases b3
    · by_cases z' : y' < y
      · rw [b4 y' z' b2'] at b3'; cases b3'
      · omega
  · exact absurd e3 (no f3)
  · rw [f4] at e2; cases e2
  · exact absurd f3 (no e3)
  · obtain ⟨a1, a2, a3, a4, a5, a6, a7⟩ := e4
    obtain ⟨b1, b2, b3, b4, b5, b6, b7⟩ := f4
    have hx : x = x' := by
      by_cases z : x < x'
      · exact absurd a5 (b7 x z a3 y a2 a4)
      · by_cases z' : x' < x
        · exact absurd b5 (a7 x' z' b3 y' b2 b4)
        · omega
    subst hx
    refine ⟨by omega, rfl, ?_⟩
    by_cases z : y < y'
    · exact absurd a5 (b6 y z a4)
    · by_cases z' : y' < y
      · exact absurd b5 (a6 y' z' b4)
      · omega
/-- what breaks the law is noted -/
theorem iv_brk {M M' : pm_M} {n r : Nat} {w : Nat → Nat} {A : Nat → Nat → Bool} {c : Nat} {Q P : Nat → Nat} (h : iv M n r w A c Q P) (hk : kp (fun a k => (a = 6 ∧ 3 ≤ k) ∨ a = 70) M M') (hB : iB M') : iv M' n r w A c Q P := by
  have z := h.1.1
  exact iv_sof h (kp_mono hk (fun a k q => by unfold sof; omega)) (iN_kp h.2.1 z hk (fun _ _ => by omega) (fun _ _ => by omega)) (iW_kp h.2.2.1 z hk (fun _ => by omega) (fun _ => by omega)) (fun k hk10 => iS1_kp hk10 (h.2.2.2.1 k hk10) z hk (fun _ => by omega) (fun _ => by omega) (by omega) (by omega) (fun _ _ => by omega)) hB (Or.inr ⟨rfl, rfl⟩)
section
variable {M : pm_M} {n r : Nat} {w : Nat → Nat} {A : Nat → Nat → Bool} {c : Nat} {Q P : Nat → Nat} {j sz : Nat} {X : Nat → Int64}
theorem q_told (h : iv M n r w A c Q P) (h24 : r < 24) (hj : j < 10) (hrow : hr M j = true) (hrc : rowc M j sz X) (hrm : rowm M j sz X) {K : Int32 → Int32 → pm_M → Prop} (k : ∀ v M', IV M' → K v v M') : w_X9_rule 0 (nI 0) (nI j) M (fun a M1 => w_X10_rule 62 (nI 0) (nI j) M1 (fun b M' => K a b M')) := by
  have zz := h.1.1
  refine c_told h h24 hj hrow hrc (fun e0 M' k1 => ?_) (fun e0 M' M'' c0 x y k1 hb hm => ?_) (fun e0 g0 g2 g3 M0 M1 h0 k0 hc => ?_)
  · have h1 := iv_kp h k1
    exact m_told h24 hj (im_iv h1) (rowm_kp zz hrm k1 (fun a i ha => by unfold scr; omega)) (fun _ M2 k2 => k _ _ ⟨_, _, _, _, _, _, _, iv_kp h1 (kp_mono k2 (fun _ _ => mrd_scr))⟩) (fun q => absurd q e0) (fun q => absurd q e0)
  · have h1 := iv_kp h k1
    have z1 := k1.1
    have r1 := rowm_kp zz hrm k1 (fun a i ha => by unfold scr; omega)
    have k6 : kp (fun a k => a = 6 ∧ 3 ≤ k) M' M'' := by
      rw [hm]; exact kp_sI (kp_sI (kp_sI (kp_rf _ _) ⟨rfl, by decide⟩) ⟨rfl, by decide⟩) ⟨rfl, by decide⟩
    have i2 : im M'' n r A := im_kp (im_iv h1) k6 (fun a k z _ => sof_sr (Or.inr (Or.inr (Or.inl ⟨z.1, by omega⟩)))) (fun _ _ => by omega) (fun a k ha _ => by omega)
    have r2 := rowm_kp (by omega) r1 k6 (fun a i ha => by omega)
    refine m_told h24 hj i2 r2 (fun q => absurd e0 q) (fun _ M3 c0' x' y' k3 hb' f0 f1 f2 => ?_) (fun _ g0 g2 g3 => ?_)
    · obtain ⟨rfl, rfl, rfl⟩ := bkn_u hb hb'
      have z2 := k6.1
      have k3' : kp (fun a k => scr r a k ∨ ((a = 6 ∧ 3 ≤ k) ∨ a = 70)) M' M3 := kp_tr (kp_mono k6 (fun _ _ z => Or.inr (Or.inl z))) (kp_mono k3 (fun _ _ z => z.elim (fun y => Or.inl (mrd_scr y)) (fun y => Or.inr (Or.inr y))))
      have e6 : ∀ k, 3 ≤ k → mI M3 6 k = mI M'' 6 k := fun k hk => (k3.2.2 6 k (by omega) (by unfold mr7 mrd; omega)).1
      have hB : iB M3 := by
        refine ⟨?_, ?_, ?_⟩
        · rw [f0, e6 3 (by decide), hm, mI_sI, if_neg (by omega), mI_sI, if_neg (by omega), mI_sI, if_pos ⟨rfl, rfl⟩]
        · rw [f1, e6 4 (by decide), hm, mI_sI, if_neg (by omega), mI_sI, if_pos ⟨rfl, rfl⟩]
        · rw [f2, e6 5 (by decide), hm, mI_sI, if_pos ⟨rfl, rfl⟩]
      -- in two steps: the scratch first, then what is noted
      obtain ⟨Mx, kx1, kx2⟩ : ∃ Mx, kp (scr r) M' Mx ∧ kp (fun a k => (a = 6 ∧ 3 ≤ k) ∨ a = 70) Mx M3 := by
        refine ⟨(fun a k => if (a = 6 ∧ 3 ≤ k) ∨ a = 70 then mI M' a k else mI M3 a k, fun a k => if (a = 6 ∧ 3 ≤ k) ∨ a = 70 then mL M' a k else mL M3 a k, fun a k => if (a = 6 ∧ 3 ≤ k) ∨ a = 70 then mR M' a k else mR M3 a k, mT M3, mN M3, mZ M3), ⟨k3'.1, k3'.2.1, fun a k ha hn => ?_⟩, ⟨Nat.le_refl _, fun _ _ => ⟨rfl, rfl⟩, fun a k ha hn => ?_⟩⟩
        · show (if (a = 6 ∧ 3 ≤ k) ∨ a = 70 then mI M' a k else mI M3 a k) = mI M' a k ∧ (if (a = 6 ∧ 3 ≤ k) ∨ a = 70 then mL M' a k else mL M3 a k) = mL M' a k ∧ (if (a = 6 ∧ 3 ≤ k) ∨ a = 70 then mR M' a k else mR M3 a k) = mR M' a k
          by_cases q : (a = 6 ∧ 3 ≤ k) ∨ a = 70
          · rw [if_pos q, if_pos q, if_pos q]; exact ⟨rfl, rfl, rfl⟩
          · rw [if_neg q, if_neg q, if_neg q]; exact k3'.2.2 a k ha (fun y => y.elim hn q)
        · show mI M3 a k = (if (a = 6 ∧ 3 ≤ k) ∨ a = 70 then mI M' a k else mI M3 a k) ∧ mL M3 a k = (if (a = 6 ∧ 3 ≤ k) ∨ a = 70 then mL M' a k else mL M3 a k) ∧ mR M3 a k = (if (a = 6 ∧ 3 ≤ k) ∨ a = 70 then mR M' a k else mR M3 a k)
          rw [if_neg hn, if_neg hn, if_neg hn]; exact ⟨rfl, rfl, rfl⟩
      exact k _ _ ⟨_, _, _, _, _, _, _, iv_brk (iv_kp h1 kx1) kx2 hB⟩
    · exfalso
      rcases hb with ⟨_, _, _, e4⟩ | ⟨_, _, e3⟩ | ⟨_, _, _, e4⟩
      · rw [e4] at g0; cases g0
      · obtain ⟨a1, a2, ⟨b1, b2, b3, b4⟩, a3⟩ := e3
        rw [g2 _ a1 a2 _ b1 b2] at b3; cases b3
      · obtain ⟨a1, a2, a3, a4, a5, a6, a7⟩ := e4
        exact g3 _ _ a1 a2 a3 a4 a5
  · have z0 := k0.1
    have r0 := rowm_kp zz hrm k0 (fun a i ha => by unfold scr; omega)
    have hc' := hc
    have r1 : rowm M1 j sz X := by
      obtain ⟨q, p0, p, kC, hne, hp0, c2, c4, hq, hrr⟩ := hc'
      exact rowm_kp (by omega) r0 kC (fun a i ha => by unfold cap ft; omega)
    refine m_told h24 hj (im_cad h0 hc) r1 (fun q => absurd e0 q) (fun _ M3 c0' x' y' k3 hb' f0 f1 f2 => ?_) (fun _ _ _ _ M2 h2 => k _ _ (iv_mpo h0 h24 (told_mat g0 g2 g3) hc ⟨by decide, by decide⟩ h2))
    exfalso
    rcases hb' with ⟨_, _, _, e4⟩ | ⟨_, _, e3⟩ | ⟨_, _, _, e4⟩
    · rw [e4] at g0; cases g0
    · obtain ⟨a1, a2, ⟨b1, b2, b3, b4⟩, a3⟩ := e3
      rw [g2 _ a1 a2 _ b1 b2] at b3; cases b3
    · obtain ⟨a1, a2, a3, a4, a5, a6, a7⟩ := e4
      exact g3 _ _ a1 a2 a3 a4 a5
end
