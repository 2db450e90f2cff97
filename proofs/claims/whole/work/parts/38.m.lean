/-! bounds; even -/
def bB (m : Nat) (S cc : Nat → Nat) (s : Nat) : Bool := (List.range m).all (fun i => decide (bc (s &&& S i) ≤ cc i))
theorem bB_iff {m : Nat} {S cc : Nat → Nat} {s : Nat} : bB m S cc s = true ↔ ∀ i, i < m → bc (s &&& S i) ≤ cc i := by
  unfold bB
  rw [List.all_eq_true]
  constructor
  · intro h i hi
    have := h i (List.mem_range.mpr hi)
    exact of_decide_eq_true this
  · intro h i hi
    exact decide_eq_true (h i (List.mem_range.mp hi))
theorem bB_mat {n m : Nat} {S cc : Nat → Nat} (hn : n ≤ 16) (hl : lam m S) : mat n (bB m S cc) := mat_nest hn hl (fun s _ => bB_iff)
theorem c_x0 {M : pm_M} {m : Nat} {S cc : Nat → Nat} (r0 : mR M 9 0 = some 10) (r1 : mR M 9 1 = some 11) (n0 : mN M 10 = 40) (n1 : mN M 11 = 40) (hm : m ≤ 40) (e2 : mI M 9 2 = nI m) (eS : ∀ i, i < m → mI M 10 i = nI (S i) ∧ mI M 11 i = nI (cc i) ∧ cc i < 100) {s : Nat} (hs : s < 4096) {Post : Int32 → Prop} (k : Post (bI (bB m S cc s))) : w_X0_fits 9 (nI s) M Post := by
  have vi : ∀ i, i < m → vp_in (nI i) 40 := fun i hi => vp_in_nI (by omega) (by decide)
  have ale : ∀ i, s &&& S i ≤ s := fun i => Nat.and_le_left
  have b16 : ∀ i, bc (s &&& S i) ≤ 16 := fun i => bc_16 _
  have step : ∀ i, i < m → ∀ (k' : Nat), (bc (s &&& S i) ≤ cc i → w_X0_fits_2 Post 9 (nI s) M k' (nI (i + 1))) → (¬ bc (s &&& S i) ≤ cc i → Post 0) → w_X0_fits_2 Post 9 (nI s) M (k' + 1) (nI i) := by
    intro i hi k' h1 h0
    obtain ⟨a1, a2, a3⟩ := eS i hi
    have := ale i
    have := b16 i
    simp only [w_X0_fits_2, e2, forall_eq, nI_1]
    refine bf (nI_ge hi (by omega)) ⟨10, r0, by rw [n0]; exact vi i hi, ?_⟩
    rw [nI_clamp (by omega), a1, nI_and]
    refine w_bc (by omega) ⟨11, r1, by rw [n1]; exact vi i hi, ?_⟩
    rw [a2, nI_leI (by omega) (by omega)]
    exact ⟨h1, h0⟩
  unfold w_X0_fits
  cases e : bB m S cc s with
  | true =>
    rw [e] at k
    have al := bB_iff.mp e
    refine ⟨_, lp (fun k' (_ : Unit) i => w_X0_fits_2 Post 9 (nI s) M k' (nI i)) m (fun _ _ => True) ?_ ?_ 0 () (Nat.zero_le _) trivial⟩
    · intro k' i _ hi _ hk'
      exact step i hi k' (fun _ => hk' () trivial) (fun q => absurd (al i hi) q)
    · intro k' _ _
      show w_X0_fits_2 Post 9 (nI s) M (k' + 1) (nI m)
      simp only [w_X0_fits_2, e2]
      exact bt (nI_le (Nat.le_refl _) (by omega)) k
  | false =>
    rw [e] at k
    have ex : ∃ i, i < m ∧ ¬ bc (s &&& S i) ≤ cc i := by
      apply Classical.byContradiction
      intro q
      have : bB m S cc s = true := bB_iff.mpr (fun i hi => Classical.byContradiction (fun z => q ⟨i, hi, z⟩))
      rw [this] at e; cases e
    obtain ⟨i0, hi0⟩ := ex
    obtain ⟨p, ⟨p1, p2⟩, -, p3⟩ := least_ex (T := fun i => i < m ∧ ¬ bc (s &&& S i) ≤ cc i) i0 hi0
    refine ⟨_, lp (fun k' (_ : Unit) i => w_X0_fits_2 Post 9 (nI s) M k' (nI i)) p (fun _ _ => True) ?_ ?_ 0 () (Nat.zero_le _) trivial⟩
    · intro k' i _ hi _ hk'
      exact step i (by omega) k' (fun _ => hk' () trivial) (fun q => absurd ⟨by omega, q⟩ (p3 i hi))
    · intro k' _ _
      exact step p p1 k' (fun q => absurd q p2) (fun _ => k)
/-- a check that reads nothing but the fixed cells, and writes nothing -/
theorem cok_fix {M : pm_M} {n r : Nat} {w : Nat → Nat} {A : Nat → Nat → Bool} {c : Nat} {Q P : Nat → Nat} {B : Nat → Bool} {v : Nat} (h : iv M n r w A c Q P) (hv : ∀ M', lay M' → (∀ a k, a < 83 → ¬ ft a k → a ≠ 2 → mI M' a k = mI M a k ∧ mL M' a k = mL M a k) → mT M' v = mT M v → ∀ s, 1 ≤ s → s < 2 ^ n → prt B s → ∀ K9 : Int32 → pm_M → Prop, K9 (bI (B s)) M' → fit v (nI s) M' K9) (v83 : v < 83) : cok M n r c Q P B v (fun _ _ => True) := by
  intro q p M9 k9 hne q83 p83 tq tp
  have zz := h.1.1
  refine ⟨trivial, fun _ _ _ _ _ => trivial, fun _ _ _ _ => trivial, fun s M' kM _ s1 hs pt K9 kk => ?_⟩
  have z9 := k9.1
  have l9 : lay M9 := lay_kp h.1 k9 (fun a k z ha => by
    rcases z with z | z
    · omega
    · rw [z.1]; rfl)
  have l' : lay M' := lay_kp l9 kM (fun a k z ha => by
    rcases z with z | z | z
    · omega
    · omega
    · exact scr_sr (r := r) (ft_scr z))
  refine hv M' l' (fun a k ha hf h2 => ?_) (((kM.2.1 v (by omega)).1).trans (k9.2.1 v (by omega)).1) s s1 hs pt K9 (kk M' (kp_rf _ _) trivial)
  have x1 := kM.2.2 a k (by omega) (by
    rintro (z | z | z)
    · omega
    · omega
    · exact hf z)
  have x2 := k9.2.2 a k (by omega) (by omega)
  exact ⟨x1.1.trans x2.1, x1.2.1.trans x2.2.1⟩
theorem cok_x0 {M : pm_M} {n r : Nat} {w : Nat → Nat} {A : Nat → Nat → Bool} {c : Nat} {Q P : Nat → Nat} {m : Nat} {S cc : Nat → Nat} (h : iv M n r w A c Q P) (hm : m ≤ 40) (e2 : mI M 9 2 = nI m) (eS : ∀ i, i < m → mI M 10 i = nI (S i) ∧ mI M 11 i = nI (cc i) ∧ cc i < 100) : cok M n r c Q P (bB m S cc) 9 (fun _ _ => True) := by
  have hp := iv_p h
  refine cok_fix h (fun M' l' ha hT s s1 hs pt K9 k => ?_) (by decide)
  have t9 : mT M' 9 = 0 := hT.trans h.1.2.2.2.2.1
  refine ⟨fun _ => ?_, fun e => ?_, fun e => ?_, fun e => ?_, fun e => ?_⟩
  · refine c_x0 (lr_9_0 l') (lr_9_1 l') (ln_10 l') (ln_11 l') hm ((ha 9 2 (by decide) (by unfold ft; omega) (by decide)).1.trans e2) (fun i hi => ?_) (by omega) k
    rw [(ha 10 i (by decide) (by unfold ft; omega) (by decide)).1, (ha 11 i (by decide) (by unfold ft; omega) (by decide)).1]
    exact eS i hi
  · rw [t9] at e; cases e
  · rw [t9] at e; cases e
  · rw [t9] at e; cases e
  · rw [t9] at e; cases e
theorem scr9 {r : Nat} : scr r 9 2 := Or.inr (Or.inr (Or.inr (Or.inr (Or.inl ⟨rfl, rfl⟩))))
theorem scr10 {r k : Nat} : scr r 10 k := Or.inr (Or.inr (Or.inr (Or.inr (Or.inr (Or.inl rfl)))))
theorem scr11 {r k : Nat} : scr r 11 k := Or.inr (Or.inr (Or.inr (Or.inr (Or.inr (Or.inr (Or.inl rfl))))))
theorem mem_c {M M' : pm_M} {k T : Nat} {st : Int32} (h : cst M k T st) (e0 : mR M' 5 0 = mR M 5 0) (e1 : mI M' 5 1 = mI M 5 1) (e2 : mI M' 5 2 = mI M 5 2) : cst M' k T st := ⟨e0.trans h.1, e2.trans h.2.1, fun q => e1.trans (h.2.2 q)⟩
theorem cst_sI {M : pm_M} {k T a i : Nat} {st v : Int32} (h : cst M k T st) (ha : a ≠ 5) : cst (sI M a i v) k T st := mem_c h rfl (by rw [mI_sI, if_neg (by omega)]) (by rw [mI_sI, if_neg (by omega)])
theorem mst_sI {M : pm_M} {k T a i : Nat} {st v : Int32} (h : mst M k T st) (ha : a ≠ 62) : mst (sI M a i v) k T st := ⟨by rw [mI_sI, if_neg (by omega)]; exact h.1, by rw [mI_sI, if_neg (by omega)]; exact h.2.1, fun q => by rw [mI_sI, if_neg (by omega)]; exact h.2.2 q⟩
theorem mst_sL {M : pm_M} {k T a i : Nat} {st : Int32} {v : Int64} (h : mst M k T st) : mst (sL M a i v) k T st := h
theorem cst_sL {M : pm_M} {k T a i : Nat} {st : Int32} {v : Int64} (h : cst M k T st) : cst (sL M a i v) k T st := h
/-- a row's numbers, all within bounds -/
def okb (X : Nat → Int64) (sz : Nat) (bd : Nat → Nat × Nat) (T : Nat) : Bool := bnd X sz (bd T).1 (bd T).2 T
theorem okb_lt {X : Nat → Int64} {sz : Nat} {bd : Nat → Nat × Nat} : ∀ t, okb X sz bd t = true → t < sz := fun t h => by
  unfold okb bnd at h
  rw [Bool.and_eq_true, decide_eq_true_iff] at h
  exact h.1
theorem lam_1 {S : Nat → Nat} : lam 1 S := fun i j hi hj => Or.inr (Or.inl (by
  have : i = j := by omega
  subst this; exact sb_rf _))
theorem and_all {n s : Nat} (h : s < 2 ^ n) : s &&& (2 ^ n - 1) = s := sb_iff.mp (sb_all h)
def evB (n : Nat) (X : Nat → Int64) : Nat → Bool := bB 1 (fun _ => 2 ^ n - 1) (fun _ => vl X 0)
theorem evB_e {n s : Nat} {X : Nat → Int64} (hs : s < 2 ^ n) : evB n X s = decide (bc s ≤ vl X 0) := by
  unfold evB
  cases e : bB 1 (fun _ => 2 ^ n - 1) (fun _ => vl X 0) s with
  | true =>
    have := bB_iff.mp e 0 (by decide)
    rw [and_all hs] at this
    exact (decide_eq_true this).symm
  | false =>
    refine (decide_eq_false (fun q => ?_)).symm
    have : bB 1 (fun _ => 2 ^ n - 1) (fun _ => vl X 0) s = true := bB_iff.mpr (fun i _ => by rw [and_all hs]; exact q)
    rw [this] at e; cases e
def bdE (_ : Nat) : Nat × Nat := (0, 12)
section
variable {M : pm_M} {n r : Nat} {w : Nat → Nat} {A : Nat → Nat → Bool} {c : Nat} {Q P : Nat → Nat} {j sz : Nat} {X : Nat → Int64}
theorem c_even (h : iv M n r w A c Q P) (h24 : r < 24) (hj : j < 10) (hrow : hr M j = true) (hrc : rowc M j sz X) : cRu M n r w A c Q P 1 j (sq sz (okb X sz bdE) 1) (evB n X) := by
  intro Post p0 p1
  have hn := iv_n h
  refine c_frame h h24 hj (by decide) hrow hrc (fun M3 h3 k3 r3 s3 => ?_)
  unfold w_X9_checkFromNumbers
  refine ⟨fun e => absurd e (by decide), fun _ => ⟨9, lr_0_6 h3.1, 5, lr_0_4 h3.1, ?_⟩, fun e => absurd e (by decide), fun e => absurd e (by decide), fun e => absurd e (by decide), fun e => absurd e (by decide), fun e => absurd rfl (e 1 (by decide))⟩
  rw [h3.2.1.2.2.1]
  unfold w_X0_readEven
  intro M1 e1
  have k1 : kp (scr r) M3 M1 := by rw [e1]; exact kp_sI (kp_rf _ _) scr9
  have h1 := iv_kp h3 k1
  refine ⟨10, lr_9_0 h1.1, by rw [ln_10 h1.1]; exact vp_in_nI (n := 0) (by decide) (by decide), fun M4 e4 => ?_⟩
  have k4 : kp (scr r) M3 M4 := by rw [e4]; exact kp_sI k1 scr10
  have h4 := iv_kp h3 k4
  have c4 : cst M4 j 0 (sq sz (okb X sz bdE) 0) := by rw [e4, e1]; exact cst_sI (cst_sI s3 (by decide)) (by decide)
  refine ⟨11, lr_9_1 h4.1, c_nx (lo := 0) (hi := 12) h4.1 (rc_scr h3.1.1 r3 k4) okb_lt c4 rfl (by decide) (by decide) (fun u M6 u0 u1 k6 c6 uv => ?_)⟩
  have k6' : kp (scr r) M3 M6 := kp_tr k4 (kp_mono k6 (fun _ _ => rd5_scr))
  have h6 := iv_kp h3 k6'
  refine ⟨by rw [ln_11 h6.1]; exact vp_in_nI (n := 0) (by decide) (by decide), fun M9 e9 => ?_⟩
  have k9 : kp (scr r) M3 M9 := by rw [e9]; exact kp_sI k6' scr11
  have h9 := iv_kp h3 k9
  have c9 : cst M9 j 1 (sq sz (okb X sz bdE) 1) := by rw [e9]; exact cst_sI c6 (by decide)
  have z3 := h3.1.1
  refine ⟨9, lr_0_6 h9.1, ?_⟩
  by_cases s0 : sq sz (okb X sz bdE) 1 = 0
  · refine ctn_ok h9 h24 (bB_mat (by omega) lam_1) (cok_x0 (S := fun _ => 2 ^ n - 1) (cc := fun _ => vl X 0) h9 (by decide) ?_ (fun i hi => ?_)) (by decide) (by decide) (by decide) (by rw [c9.2.1]; exact s0) (fun M1 hc => p1 s0 M9 M1 h9 (kp_tr k3 k9) hc)
    · rw [e9, mI_sI, if_neg (by omega), (k6.2.2 9 2 (by have := k4.1; omega) (by unfold rd5; omega)).1, e4, mI_sI, if_neg (by omega), e1, mI_sI, if_pos ⟨rfl, rfl⟩]; rfl
    · have : i = 0 := by omega
      subst this
      refine ⟨?_, ?_, ?_⟩
      · rw [e9, mI_sI, if_neg (by omega), (k6.2.2 10 0 (by have := k4.1; omega) (by unfold rd5; omega)).1, e4, mI_sI, if_pos ⟨rfl, rfl⟩]
      · show mI M9 11 0 = nI (vl X 0)
        rw [e9, mI_sI, if_pos ⟨rfl, rfl⟩, uv s0]
      · show vl X 0 < 100
        rw [← uv s0]; omega
  · exact ctn_bad h9.1 c9.2.1 s0 (p0 s0 M9 (kp_tr k3 k9))
theorem m_even (h24 : r < 24) (hj : j < 10) : mRu n r A 1 j sz X (sq sz (okb X sz bdE) 1) (evB n X) := by
  intro M h hrm Post p0 p1
  have hp := p2_le h.2.1.2.1
  have hn := h.2.1
  have zz := h.1.1
  refine m_frame (RK := fun N F => w_X10_readsEven 62 N F) h h24 hj (by decide) hrm (fun N F f => ⟨fun e => absurd e (by decide), fun _ => f, fun e => absurd e (by decide), fun e => absurd e (by decide), fun e => absurd e (by decide), fun e => absurd e (by decide), fun e => absurd rfl (e 1 (by decide))⟩) (fun N iN kN rN mN' hN => ?_)
  unfold w_X10_readsEven
  refine m_nx (lo := 0) (hi := 12) iN.1 rN okb_lt (k := j) (ok := okb X sz bdE) mN' rfl (by decide) (by decide) (fun u M1 u1 k1 c1 uv => ?_)
  have kM1 : kp (mrd r) M M1 := kp_tr kN (kp_mono k1 (fun _ _ => rdm_mrd))
  have i1 := im_mrd h kM1
  have t1 : ∀ s, s < 2 ^ n → mI M1 64 (4096 * r + s) = bI false := fun s hs => by
    rw [(k1.2.2 64 _ (by have := kN.1; omega) (by unfold rdm; omega)).1]; exact hN s hs
  by_cases s0 : sq sz (okb X sz bdE) 1 = 0
  · have ue := uv s0
    refine ⟨_, lp (fun k' (N : pm_M) s => w_X10_readsEven_11 (fun M_2 => w_X10_rule_178 Post 62 (nI 1) M_2) 62 (nI u) k' (nI s) N) (2 ^ n) (fun s N => kp (mrd r) M N ∧ mI N 62 17 = 0 ∧ ∀ t, t < 2 ^ n → mI N 64 (4096 * r + t) = bI (decide (t < s) && evB n X t)) ?_ ?_ 0 M1 (Nat.zero_le _) ⟨kM1, by rw [c1.2.1]; exact s0, fun t ht => by rw [t1 t ht, decide_eq_false (Nat.not_lt_zero t)]; rfl⟩⟩
    · intro k' s N1 hs ⟨kN1, e17, hN1⟩ hk'
      show w_X10_readsEven_11 (fun M_2 => w_X10_rule_178 Post 62 (nI 1) M_2) 62 (nI u) (k' + 1) (nI s) N1
      have iN1 := im_mrd h kN1
      have b16 := bc_16 s
      simp only [w_X10_readsEven_11, w_X10_readsEven_39, iN1.2.2.2.1, e17, forall_eq, nI_1]
      refine bf (nI_nlt (by omega) (by omega)) ⟨fun q => absurd trivial q, fun _ => m_bits (by omega) ?_⟩
      rw [nI_ltI (by omega) (by omega)]
      have ev := evB_e (X := X) hs
      refine ⟨fun q => hk' N1 ⟨kN1, e17, fun t ht => ?_⟩, fun q => m_allow iN1 h24 hs (hk' _ ⟨kp_sI kN1 (Or.inr (Or.inl ⟨rfl, by omega⟩)), ?_, fun t ht => ?_⟩)⟩
      · rw [hN1 t ht]
        by_cases z : t = s
        · subst z
          rw [ev, decide_eq_false (show ¬ bc t ≤ vl X 0 by rw [← ue]; omega), Bool.and_false, Bool.and_false]
        · rw [show decide (t < s) = decide (t < s + 1) by apply decide_eq_decide.mpr; omega]
      · rw [mI_sI, if_neg (by omega)]; exact e17
      · rw [mI_sI]
        by_cases z : t = s
        · subst z
          rw [if_pos ⟨rfl, rfl⟩, ev, decide_eq_true (show bc t ≤ vl X 0 by rw [← ue]; omega), decide_eq_true (Nat.lt_succ_self t)]; rfl
        · rw [if_neg (by omega), hN1 t ht, show decide (t < s) = decide (t < s + 1) by apply decide_eq_decide.mpr; omega]
    · intro k' N1 ⟨kN1, e17, hN1⟩
      show w_X10_readsEven_11 (fun M_2 => w_X10_rule_178 Post 62 (nI 1) M_2) 62 (nI u) (k' + 1) (nI (2 ^ n)) N1
      have iN1 := im_mrd h kN1
      have h2 := Nat.two_pow_pos n
      simp only [w_X10_readsEven_11, w_X10_readsEven_45, iN1.2.2.2.1]
      refine bt (nI_lt (by omega) (by omega)) (m_178_ok h h24 ?_ kN1 e17 (fun s hs => ?_) (fun M' hm => p1 s0 M' hm))
      · exact (bB_mat (n := n) (by omega) lam_1).1
      · rw [hN1 s hs, decide_eq_true hs]; rfl
  · refine ⟨1, ?_⟩
    show w_X10_readsEven_11 (fun M_2 => w_X10_rule_178 Post 62 (nI 1) M_2) 62 (nI u) (0 + 1) (nI 0) M1
    have e17 := c1.2.1
    simp only [w_X10_readsEven_11, w_X10_readsEven_45, i1.2.2.2.1, e17]
    exact bf (nI_nlt (by omega) (by omega)) (bf' s0 (m_178_bad e17 s0 (p0 s0 M1 kM1)))
end
