/-! rows: read by the class -/
theorem c_nxs {M : pm_M} {a b st : Int32} (h : mI M 5 2 = st) (h0 : ¬ st = 0) {Post : Int32 → pm_M → Prop} (k : Post a M) : w_X4_next 5 a b M Post := by
  unfold w_X4_next
  rw [h]
  exact bf h0 k
theorem m_nxs {M : pm_M} {a b : Int64} {st : Int32} (h : mI M 62 17 = st) (h0 : ¬ st = 0) {Post : Int32 → pm_M → Prop} (k : Post 0 M) : w_X10_next 62 a b M Post := by
  unfold w_X10_next
  rw [h]
  exact bf h0 k
def rw_ok (X : Nat → Int64) (sz T : Nat) : Bool := if T = 0 then bnd X sz 2 7 0 && (decide (¬ vl X 0 = 4) && decide (¬ vl X 0 = 6)) else if T = 1 then bnd X sz 1 6 1 else bnd X sz 0 (vl X 0 - 1) T
theorem rw_0 {X : Nat → Int64} {sz : Nat} : rw_ok X sz 0 = (bnd X sz 2 7 0 && (decide (¬ vl X 0 = 4) && decide (¬ vl X 0 = 6))) := by
  unfold rw_ok; rw [if_pos rfl]
theorem rw_1 {X : Nat → Int64} {sz : Nat} : rw_ok X sz 1 = bnd X sz 1 6 1 := by
  unfold rw_ok; rw [if_neg (by decide), if_pos rfl]
theorem rw_2 {X : Nat → Int64} {sz T : Nat} (h : 2 ≤ T) : rw_ok X sz T = bnd X sz 0 (vl X 0 - 1) T := by
  unfold rw_ok; rw [if_neg (by omega), if_neg (by omega)]
theorem bnd_lt {X : Nat → Int64} {sz lo hi T : Nat} (h : bnd X sz lo hi T = true) : T < sz := by
  unfold bnd at h
  rw [Bool.and_eq_true, decide_eq_true_iff] at h
  exact h.1
theorem rw_lt {X : Nat → Int64} {sz : Nat} : ∀ t, rw_ok X sz t = true → t < sz := fun t h => by
  by_cases q : t = 0
  · subst q
    rw [rw_0, Bool.and_eq_true] at h
    exact bnd_lt h.1
  · by_cases z : t = 1
    · subst z; rw [rw_1] at h; exact bnd_lt h
    · rw [rw_2 (by omega)] at h; exact bnd_lt h
theorem rw_p {X : Nat → Int64} {sz : Nat} (h : sq sz (rw_ok X sz) 1 = 0) : (vl X 0 = 2 ∨ vl X 0 = 3 ∨ vl X 0 = 5 ∨ vl X 0 = 7) ∧ pr (vl X 0 : Int) := by
  have := sq_ok 1 h 0 (by decide)
  rw [rw_0, Bool.and_eq_true, Bool.and_eq_true, decide_eq_true_iff, decide_eq_true_iff] at this
  have b := bnd_vl this.1 (by decide) (by decide)
  have c : vl X 0 = 2 ∨ vl X 0 = 3 ∨ vl X 0 = 5 ∨ vl X 0 = 7 := by omega
  refine ⟨c, ?_⟩
  rcases c with e | e | e | e
  · rw [e]; exact pr_2
  · rw [e]; exact pr_3
  · rw [e]; exact pr_5
  · rw [e]; exact pr_7
def rwR (X : Nat → Int64) (i c : Nat) : Nat := vl X (2 + i * vl X 1 + c)
def rwE (X : Nat → Int64) (sz n : Nat) : Int32 := sq sz (rw_ok X sz) (2 + n * vl X 1)
theorem scr14 {r k : Nat} (h : k = 3 ∨ k = 4) : scr r 14 k := Or.inr (Or.inr (Or.inr (Or.inr (Or.inr (Or.inr (Or.inr (Or.inr (Or.inr (Or.inl ⟨rfl, h⟩)))))))))
theorem scr16 {r a k : Nat} (h1 : 16 ≤ a) (h2 : a < 28) : scr r a k := Or.inr (Or.inr (Or.inr (Or.inr (Or.inr (Or.inr (Or.inr (Or.inr (Or.inr (Or.inr (Or.inl ⟨h1, h2⟩))))))))))
section
variable {M : pm_M} {n r : Nat} {w : Nat → Nat} {A : Nat → Nat → Bool} {c : Nat} {Q P : Nat → Nat} {j sz : Nat} {X : Nat → Int64} {B : Nat → Bool}
theorem cok_x8 {p wd : Nat} {ρ : Nat → Nat → Nat} (h : iv M n r w A c Q P) (hp : 1 ≤ p ∧ p ≤ 7) (hpr : pr (p : Int)) (hw : wd ≤ 6) (e3 : mI M 14 3 = nI p) (e4 : mI M 14 4 = nI wd) (hR : ∀ i, i < n → ∀ c, c < wd → mI M (16 + i) c = nI (ρ i c) ∧ ρ i c < p) (hB : ∀ u, u < 2 ^ n → (B u = true ↔ nr (p : Int) wd (fun i c => (ρ i c : Int)) (bl n u))) (hm : mat n B) : cok M n r c Q P B 14 (Jv p wd n B (fun i c => (ρ i c : Int))) := by
  intro q p' M9 k9 hne q83 p83 tq tp
  have hn := iv_n h
  have zz := h.1.1
  have z9 := k9.1
  have l9 : lay M9 := lay_kp h.1 k9 (fun a k z ha => by
    rcases z with z | z
    · omega
    · rw [z.1]; rfl)
  refine ⟨fun _ j hj => (by rw [Nat.sub_self, Nat.zero_testBit] at hj; cases hj), fun s M' M'' hJ he hs j hbj hBj => ?_, fun s M' hJ np => Jv_next hJ hm hn.2.1 np, fun s M' kM hJ s1 hs pt K9 kk => ?_⟩
  · obtain ⟨y1, y2⟩ := hJ hs j hbj hBj
    have mem : ∀ i, i ∈ asc (s - 1) (12 - j) → i < 12 := fun i hi => ((asc_mem (12 - j) (by omega)).mp hi).2.1
    have eE : ∀ i, i < 12 → ∀ c, mI M'' (29 + i) c = mI M' (29 + i) c := fun i hi c => he _ _ (by omega)
    refine ⟨ech_congr _ (fun i hi => ⟨fun c _ => ?_, lm_e (he 41 i (by decide))⟩) y1, fun i hi => dvl_e (eE i (mem i hi)) (he 41 i (by decide)) (y2 i hi)⟩
    unfold Em
    rw [em_e (eE i (mem i hi) c)]
  · have l' : lay M' := lay_kp l9 kM (fun a k z ha => by
      rcases z with z | z | z
      · omega
      · omega
      · exact scr_sr (r := r) (ft_scr z))
    have ag : ∀ a k, a < 29 → a ≠ 2 → mI M' a k = mI M a k := fun a k ha h2 => by
      rw [(kM.2.2 a k (by omega) (by unfold ft; omega)).1, (k9.2.2 a k (by omega) (by omega)).1]
    have t14 : mT M' 14 = 7 := ((kM.2.1 14 (by omega)).1).trans (((k9.2.1 14 (by omega)).1).trans h.1.2.2.2.2.2.2)
    refine ⟨fun e => ?_, fun e => ?_, fun e => ?_, fun e => ?_, fun _ => ?_⟩
    · rw [t14] at e; cases e
    · rw [t14] at e; cases e
    · rw [t14] at e; cases e
    · rw [t14] at e; cases e
    · exact c_x8 hn.2.1 l' hp hpr hw ((ag 14 3 (by decide) (by decide)).trans e3) ((ag 14 4 (by decide) (by decide)).trans e4) (fun i hi c hc => by rw [ag (16 + i) c (by omega) (by omega)]; exact hR i hi c hc) (fun _ _ => rfl) hB hs s1 pt hJ kk
theorem c_rows (h : iv M n r w A c Q P) (h24 : r < 24) (hj : j < 10) (hrow : hr M j = true) (hrc : rowc M j sz X) (hB : ∀ u, u < 2 ^ n → (B u = true ↔ nr (vl X 0 : Int) (vl X 1) (fun i c => (rwR X i c : Int)) (bl n u))) : cRu M n r w A c Q P 5 j (rwE X sz n) B := by
  intro Post p0 p1
  have hn := iv_n h
  refine c_frame h h24 hj (by decide) hrow hrc (fun M3 h3 k3 r3 s3 => ?_)
  have z3 := h3.1.1
  unfold w_X9_checkFromNumbers
  refine ⟨fun e => absurd e (by decide), fun e => absurd e (by decide), fun e => absurd e (by decide), fun e => absurd e (by decide), fun e => absurd e (by decide), fun _ => ⟨14, lr_0_8 h3.1, 5, lr_0_4 h3.1, ?_⟩, fun e => absurd rfl (e 5 (by decide))⟩
  rw [h3.2.1.2.1]
  unfold w_X8_readRows
  generalize eF : (fun M_23 => ∃ q_24 : Nat, mR M_23 0 8 = some q_24 ∧ (fun v M' => ctn Post (nI 5) v M') q_24 M_23) = F
  have stage2 : ∀ (N : pm_M) (u : Nat), kp (scr r) M3 N → cst N j 1 (sq sz (rw_ok X sz) 1) → mI N 14 3 = nI u → 2 ≤ u → u ≤ 7 → (sq sz (rw_ok X sz) 1 = 0 → u = vl X 0) → w_X8_readRows_32 F 14 5 (nI n) N := by
    intro N u kN cN e3 u2 u7 uv
    have hN := iv_kp h3 kN
    have zN := kN.1
    unfold w_X8_readRows_32
    refine c_nx (lo := 1) (hi := 6) hN.1 (rc_scr z3 r3 kN) rw_lt cN rw_1 (by decide) (by decide) (fun wd M1 w1 w6 k1 c1 wv => ?_)
    intro M4 e4
    have k1' : kp (scr r) M3 M1 := kp_tr kN (kp_mono k1 (fun _ _ => rd5_scr))
    have k4 : kp (scr r) M3 M4 := by rw [e4]; exact kp_sI k1' (scr14 (Or.inr rfl))
    have e34 : mI M4 14 3 = nI u := by rw [e4, mI_sI, if_neg (by omega), (k1.2.2 14 3 (by omega) (by unfold rd5; omega)).1]; exact e3
    have e44 : mI M4 14 4 = nI wd := by rw [e4, mI_sI, if_pos ⟨rfl, rfl⟩]
    refine ⟨_, lp (fun k' (N : pm_M) i => w_X8_readRows_45 F 14 5 (nI n) k' (nI i) N) n (fun i N => kp (scr r) M3 N ∧ cst N j (2 + i * wd) (sq sz (rw_ok X sz) (2 + i * wd)) ∧ mI N 14 3 = nI u ∧ mI N 14 4 = nI wd ∧ (sq sz (rw_ok X sz) (2 + i * wd) = 0 → ∀ i', i' < i → ∀ c', c' < wd → mI N (16 + i') c' = nI (vl X (2 + i' * wd + c')))) ?_ ?_ 0 M4 (Nat.zero_le _) ⟨k4, by rw [e4, Nat.zero_mul]; exact cst_sI c1 (by decide), e34, e44, fun _ i' hi' => absurd hi' (Nat.not_lt_zero i')⟩⟩
    · intro k' i N5 hi ⟨k5, c5, f3, f4, d5⟩ hk'
      show w_X8_readRows_45 F 14 5 (nI n) (k' + 1) (nI i) N5
      have h5 := iv_kp h3 k5
      simp only [w_X8_readRows_45]
      refine bf (nI_ge hi (by omega)) ⟨15, lr_14_0 h5.1, ?_⟩
      rw [ln_15 h5.1]
      refine bf (nI_ge (by omega) (by decide)) ⟨_, lp (fun k2 (N : pm_M) c' => w_X8_readRows_62 F (w_X8_readRows_45 F 14 5 (nI n) k') 14 5 (nI n) (nI i) k2 (nI c') N) wd (fun c' N => kp (scr r) M3 N ∧ cst N j (2 + i * wd + c') (sq sz (rw_ok X sz) (2 + i * wd + c')) ∧ mI N 14 3 = nI u ∧ mI N 14 4 = nI wd ∧ (sq sz (rw_ok X sz) (2 + i * wd + c') = 0 → (∀ i', i' < i → ∀ x, x < wd → mI N (16 + i') x = nI (vl X (2 + i' * wd + x))) ∧ ∀ x, x < c' → mI N (16 + i) x = nI (vl X (2 + i * wd + x)))) ?_ ?_ 0 N5 (Nat.zero_le _) ⟨k5, c5, f3, f4, fun q => ⟨d5 q, fun x hx => absurd hx (Nat.not_lt_zero x)⟩⟩⟩
      · intro k2 c' N6 hc ⟨k6, c6, g3, g4, d6⟩ hk2
        show w_X8_readRows_62 F (w_X8_readRows_45 F 14 5 (nI n) k') 14 5 (nI n) (nI i) (k2 + 1) (nI c') N6
        have h6 := iv_kp h3 k6
        have z6 := k6.1
        simp only [w_X8_readRows_62, g3, g4, forall_eq, nI_1]
        refine bf (nI_ge hc (by omega)) ⟨15, lr_14_0 h6.1, by rw [ln_15 h6.1]; exact vp_in_nI (by omega) (by decide), ?_⟩
        rw [nI_clamp (show i < 2 ^ 31 by omega), nI_sub1 (by omega), lr_vr h6.1 (show i < 12 by omega)]
        have put : ∀ (x : Nat) (M7 : pm_M), kp rd5 N6 M7 → cst M7 j (2 + i * wd + c' + 1) (sq sz (rw_ok X sz) (2 + i * wd + c' + 1)) → (sq sz (rw_ok X sz) (2 + i * wd + c' + 1) = 0 → x = vl X (2 + i * wd + c')) → ∃ q_9 : Nat, (some (16 + i) : Option Nat) = some q_9 ∧ (vp_in (nI c') (mN M7 q_9) ∧ (w_X8_readRows_62 F (w_X8_readRows_45 F 14 5 (nI n) k') 14 5 (nI n) (nI i) k2) (nI (c' + 1)) (sI M7 q_9 (nI c').toNatClampNeg (nI x))) := by
          intro x M7 k7 c7 xv
          have k7' : kp (scr r) M3 M7 := kp_tr k6 (kp_mono k7 (fun _ _ => rd5_scr))
          have h7 := iv_kp h3 k7'
          refine ⟨16 + i, rfl, by rw [ln_vr h7.1 (show i < 12 by omega)]; exact vp_in_nI (by omega) (by decide), ?_⟩
          rw [nI_clamp (by omega)]
          refine hk2 _ ⟨kp_sI k7' (scr16 (by omega) (by omega)), cst_sI c7 (by omega), ?_, ?_, fun s0 => ⟨fun i' hi' y hy => ?_, fun y hy => ?_⟩⟩
          · rw [mI_sI, if_neg (by omega), (k7.2.2 14 3 (by omega) (by unfold rd5; omega)).1]; exact g3
          · rw [mI_sI, if_neg (by omega), (k7.2.2 14 4 (by omega) (by unfold rd5; omega)).1]; exact g4
          · rw [mI_sI, if_neg (by omega), (k7.2.2 (16 + i') y (by omega) (by unfold rd5; omega)).1]
            exact (d6 (sq_down s0)).1 i' hi' y hy
          · rw [mI_sI]
            by_cases z : y = c'
            · subst z; rw [if_pos ⟨rfl, rfl⟩, xv s0]
            · rw [if_neg (by omega), (k7.2.2 (16 + i) y (by omega) (by unfold rd5; omega)).1]
              exact (d6 (sq_down s0)).2 y (by omega)
        by_cases s0 : sq sz (rw_ok X sz) (2 + i * wd + c') = 0
        · refine c_nx (lo := 0) (hi := u - 1) h6.1 (rc_scr z3 r3 k6) rw_lt c6 ?_ (by omega) (Nat.zero_le _) (fun x M7 x0 x1 k7 c7 xv => ?_)
          · rw [rw_2 (by omega), ← uv (sq_le s0 (by omega))]
          · exact put x M7 k7 c7 xv
        · refine c_nxs (st := sq sz (rw_ok X sz) (2 + i * wd + c')) c6.2.1 s0 ?_
          have e1 := sq_stuck s0 (2 + i * wd + c' + 1) (by omega)
          have := put 0 N6 (kp_rf _ _) ⟨c6.1, by rw [e1]; exact c6.2.1, fun q => absurd (by rw [← e1]; exact q) s0⟩ (fun q => absurd (by rw [← e1]; exact q) s0)
          exact this
      · intro k2 N6 ⟨k6, c6, g3, g4, d6⟩
        show w_X8_readRows_62 F (w_X8_readRows_45 F 14 5 (nI n) k') 14 5 (nI n) (nI i) (k2 + 1) (nI wd) N6
        simp only [w_X8_readRows_62, g4, forall_eq, nI_1]
        have eT : 2 + (i + 1) * wd = 2 + i * wd + wd := by rw [Nat.add_mul, Nat.one_mul]; omega
        refine bt (nI_le (Nat.le_refl _) (by omega)) (hk' N6 ⟨k6, by rw [eT]; exact c6, g3, g4, fun s0 i' hi' x hx => ?_⟩)
        rw [eT] at s0
        by_cases z : i' = i
        · subst z; exact (d6 s0).2 x hx
        · exact (d6 s0).1 i' (by omega) x hx
    · intro k' N5 ⟨k5, c5, f3, f4, d5⟩
      show w_X8_readRows_45 F 14 5 (nI n) (k' + 1) (nI n) N5
      have h5 := iv_kp h3 k5
      simp only [w_X8_readRows_45, w_X8_readRows_103]
      refine bt (nI_le (Nat.le_refl _) (by omega)) ?_
      rw [← eF]
      refine ⟨14, lr_0_8 h5.1, ?_⟩
      have same : sq sz (rw_ok X sz) (2 + n * wd) = rwE X sz n := by
        unfold rwE
        by_cases q : sq sz (rw_ok X sz) (1 + 1) = 0
        · rw [wv q]
        · rw [sq_stuck q (2 + n * wd) (by omega), sq_stuck q (2 + n * vl X 1) (by omega)]
      rw [same] at c5 d5
      by_cases s0 : rwE X sz n = 0
      · have we : wd = vl X 1 := wv (sq_le s0 (by omega))
        have sq1 : sq sz (rw_ok X sz) 1 = 0 := sq_le s0 (by omega)
        have ue := uv sq1
        subst we
        subst ue
        obtain ⟨pv, hpr⟩ := rw_p sq1
        have hm : mat n B := mat_rows (p := (vl X 0 : Int)) (w := vl X 1) (r := fun i c => (rwR X i c : Int)) hpr (by omega) hB
        refine ctn_ok h5 h24 hm (cok_x8 (ρ := rwR X) h5 ⟨by omega, u7⟩ hpr w6 f3 f4 (fun i hi c' hc => ⟨d5 s0 i hi c' hc, ?_⟩) hB hm) (by decide) (by decide) (by decide) (by rw [c5.2.1]; exact s0) (fun M1 hc => p1 s0 N5 M1 h5 (kp_tr k3 k5) hc)
        have iw : i * vl X 1 + c' < n * vl X 1 := by
          have h1 : (i + 1) * vl X 1 ≤ n * vl X 1 := Nat.mul_le_mul_right _ (by omega)
          rw [Nat.add_mul, Nat.one_mul] at h1
          omega
        have ok1 := sq_ok _ s0 (2 + i * vl X 1 + c') (by omega)
        rw [rw_2 (by omega)] at ok1
        have := (bnd_vl ok1 (by omega) (by decide)).2.2.2
        unfold rwR
        omega
      · exact ctn_bad h5.1 c5.2.1 s0 (p0 s0 N5 (kp_tr k3 k5))
  refine c_nx0 (lo := 2) (hi := 7) h3.1 r3 s3 (by decide) (by decide) (fun _ => by omega) (fun _ eb M1 k1 c1 => ?_) (fun M1 st' k1 c1 g1 _ => ?_)
  · intro M4 e4
    have g := bnd_vl eb (by decide) (by decide)
    have k4 : kp (scr r) M3 M4 := by rw [e4]; exact kp_sI (kp_mono k1 (fun _ _ => rd5_scr)) (scr14 (Or.inl rfl))
    have c4 : cst M4 j 1 0 := by rw [e4]; exact cst_sI c1 (by decide)
    have e34 : mI M4 14 3 = nI (vl X 0) := by rw [e4, mI_sI, if_pos ⟨rfl, rfl⟩]
    have ref : (vl X 0 = 4 ∨ vl X 0 = 6) → w_X8_readRows_28 F 14 5 (nI n) M4 := fun q => by
      unfold w_X8_readRows_28 w_X4_refuseLast w_X4_refuseLast_13
      rw [c4.2.1]
      refine bt' rfl (fun M5 e5 => ?_)
      have okf : rw_ok X sz 0 = false := by
        rw [rw_0, eb, Bool.true_and]
        rcases q with q | q
        · rw [decide_eq_false (fun z => z q)]; rfl
        · rw [decide_eq_false (show ¬ ¬ vl X 0 = 6 from fun z => z q), Bool.and_false]
      have sqe : sq sz (rw_ok X sz) 1 = -4 := by
        show (if (0 : Int32) = 0 then (if rw_ok X sz 0 = true then 0 else fs sz 0) else 0) = -4
        rw [if_pos rfl, okf, if_neg (by decide)]
        unfold fs
        rw [if_pos g.1]
      have n0 : ¬ sq sz (rw_ok X sz) 1 = 0 := by rw [sqe]; decide
      have k5 : kp (scr r) M3 M5 := by rw [e5]; exact kp_sI k4 (Or.inl rfl)
      have c5 : cst M5 j 1 (sq sz (rw_ok X sz) 1) := ⟨by rw [e5]; exact c4.1, by rw [e5, mI_sI, if_pos ⟨rfl, rfl⟩, sqe], fun z => absurd z n0⟩
      have e35 : mI M5 14 3 = nI (vl X 0) := by rw [e5, mI_sI, if_neg (by omega), e34]
      exact stage2 M5 (vl X 0) k5 c5 e35 g.2.2.1 g.2.2.2 (fun z => absurd z n0)
    rw [e34]
    refine ⟨fun q => ref (Or.inl ((nI_eq (b := 4) (by omega) (by decide)).mp q)), fun q => ⟨fun q2 => ?_, fun q2 => ref (Or.inr ((nI_eq (b := 6) (by omega) (by decide)).mp q2))⟩⟩
    have n4 : ¬ vl X 0 = 4 := fun z => q (by rw [z]; rfl)
    have n6 : ¬ vl X 0 = 6 := fun z => q2 (by rw [z]; rfl)
    have sqe : sq sz (rw_ok X sz) 1 = 0 := by
      show (if (0 : Int32) = 0 then (if rw_ok X sz 0 = true then 0 else fs sz 0) else 0) = 0
      rw [if_pos rfl, if_pos]
      rw [rw_0, eb, decide_eq_true n4, decide_eq_true n6]; rfl
    exact stage2 M4 (vl X 0) k4 (by rw [sqe]; exact c4) e34 g.2.2.1 g.2.2.2 (fun _ => rfl)
  · intro M4 e4
    obtain ⟨eb, est⟩ := g1 rfl
    have k4 : kp (scr r) M3 M4 := by rw [e4]; exact kp_sI (kp_mono k1 (fun _ _ => rd5_scr)) (scr14 (Or.inl rfl))
    have e34 : mI M4 14 3 = nI 2 := by rw [e4, mI_sI, if_pos ⟨rfl, rfl⟩]
    have sqe : sq sz (rw_ok X sz) 1 = st' := by
      show (if (0 : Int32) = 0 then (if rw_ok X sz 0 = true then 0 else fs sz 0) else 0) = st'
      rw [if_pos rfl, if_neg (by rw [rw_0, eb]; intro z; cases z), est]
    have ne : ¬ st' = 0 := by rw [est]; exact fs_ne _ _
    rw [e34]
    refine ⟨fun q => absurd q (by decide), fun _ => ⟨fun _ => ?_, fun q => absurd q (by decide)⟩⟩
    exact stage2 M4 2 k4 (by rw [sqe, e4]; exact cst_sI c1 (by decide)) e34 (by decide) (by decide) (fun z => absurd (by rw [← sqe]; exact z) ne)
end
