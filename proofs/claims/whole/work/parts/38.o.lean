/-! edges -/
def bdG (_ : Nat) : Nat × Nat := (0, 15)
def eu (X : Nat → Int64) (i : Nat) : Nat := vl X (2 * i)
def ev (X : Nat → Int64) (i : Nat) : Nat := vl X (2 * i + 1)
theorem b1_16 {a : Nat} (h : a < 16) : b1 a < 2 ^ 16 := b1_lt h
theorem grp_s (u v : Nat → Nat) (s i : Nat) : grp u v s (i + 1) = if s.testBit i = true then mg (grp u v s i) (grp u v s i (u i)) (grp u v s i (v i)) else grp u v s i := rfl
theorem fine_s {u v : Nat → Nat} {s i : Nat} : fine u v s (i + 1) ↔ fine u v s i ∧ (s.testBit i = true → grp u v s i (u i) ≠ grp u v s i (v i)) := by
  constructor
  · intro h
    exact ⟨fun t ht => h t (by omega), h i (by omega)⟩
  · rintro ⟨h1, h2⟩ t ht hb
    by_cases z : t = i
    · subst z; exact h2 hb
    · exact h1 t (by omega) hb
section
variable {M : pm_M} {n r : Nat} {w : Nat → Nat} {A : Nat → Nat → Bool} {c : Nat} {Q P : Nat → Nat} {j sz : Nat} {X : Nat → Int64} {B : Nat → Bool}
theorem ends_lt (s0 : sq sz (okb X sz bdG) (2 * n) = 0) : ∀ i, i < n → eu X i < 16 ∧ ev X i < 16 := fun i hi => by
  have a := (bnd_vl (lo := 0) (hi := 15) (sq_ok _ s0 (2 * i) (by omega)) (by decide) (by decide)).2.2.2
  have b := (bnd_vl (lo := 0) (hi := 15) (sq_ok _ s0 (2 * i + 1) (by omega)) (by decide) (by decide)).2.2.2
  unfold eu ev
  omega
theorem c_edges (h : iv M n r w A c Q P) (h24 : r < 24) (hj : j < 10) (hrow : hr M j = true) (hrc : rowc M j sz X) (hB : ∀ s, B s = true ↔ fine (eu X) (ev X) s n) : cRu M n r w A c Q P 4 j (sq sz (okb X sz bdG) (2 * n)) B := by
  intro Post p0 p1
  have hn := iv_n h
  refine c_frame h h24 hj (by decide) hrow hrc (fun M3 h3 k3 r3 s3 => ?_)
  have z3 := h3.1.1
  unfold w_X9_checkFromNumbers
  refine ⟨fun e => absurd e (by decide), fun e => absurd e (by decide), fun e => absurd e (by decide), fun e => absurd e (by decide), fun _ => ⟨12, lr_0_7 h3.1, 5, lr_0_4 h3.1, ?_⟩, fun e => absurd e (by decide), fun e => absurd rfl (e 4 (by decide))⟩
  rw [h3.2.1.2.1]
  unfold w_X3_readEdges
  intro M1 e1
  have k1 : kp (scr r) M3 M1 := by rw [e1]; exact kp_sI (kp_rf _ _) scr12
  generalize eF : (fun M_27 => ∃ q_28 : Nat, mR M_27 0 7 = some q_28 ∧ (fun v M' => ctn Post (nI 4) v M') q_28 M_27) = F
  refine ⟨_, lp (fun k' (N : pm_M) i => w_X3_readEdges_7 F 12 5 (nI n) k' (nI i) N) n (fun i N => kp (scr r) M3 N ∧ cst N j (2 * i) (sq sz (okb X sz bdG) (2 * i)) ∧ mI N 12 1 = 1 ∧ (sq sz (okb X sz bdG) (2 * i) = 0 → ∀ t, t < i → mI N 13 t = nI (b1 (eu X t) ||| b1 (ev X t)))) ?_ ?_ 0 M1 (Nat.zero_le _) ⟨k1, by rw [e1]; exact cst_sI s3 (by decide), by rw [e1, mI_sI, if_pos ⟨rfl, rfl⟩], fun _ t ht => absurd ht (Nat.not_lt_zero t)⟩⟩
  · intro k' i N hi ⟨kN, cN, eN, dN⟩ hk'
    show w_X3_readEdges_7 F 12 5 (nI n) (k' + 1) (nI i) N
    have hN := iv_kp h3 kN
    simp only [w_X3_readEdges_7, forall_eq, nI_1]
    refine bf (nI_ge hi (by omega)) ⟨13, lr_12_0 hN.1, ?_⟩
    rw [ln_13 hN.1]
    refine bf (nI_ge (by omega) (by decide)) (c_nx (lo := 0) (hi := 15) hN.1 (rc_scr z3 r3 kN) okb_lt cN rfl (by decide) (by decide) (fun u M4 u0 u1 k4 c4 uv => ?_))
    have zN := kN.1
    have k4' : kp (scr r) M3 M4 := kp_tr kN (kp_mono k4 (fun _ _ => rd5_scr))
    have h4 := iv_kp h3 k4'
    refine c_nx (lo := 0) (hi := 15) h4.1 (rc_scr z3 r3 k4') okb_lt c4 rfl (by decide) (by decide) (fun u' M7 u0' u1' k7 c7 uv' => ?_)
    have k7' : kp (scr r) M3 M7 := kp_tr k4' (kp_mono k7 (fun _ _ => rd5_scr))
    have h7 := iv_kp h3 k7'
    have z4 := k4'.1
    refine ⟨13, lr_12_0 h7.1, by rw [ln_13 h7.1]; exact vp_in_nI (by omega) (by decide), ?_⟩
    rw [nI_clamp (by omega), nI_b1 u (by omega), nI_b1 u' (by omega), nI_or]
    refine hk' _ ⟨kp_sI k7' scr13, cst_sI c7 (by decide), ?_, fun s0 t ht => ?_⟩
    · rw [mI_sI, if_neg (by omega), (k7.2.2 12 1 (by omega) (by unfold rd5; omega)).1, (k4.2.2 12 1 (by omega) (by unfold rd5; omega)).1]; exact eN
    · have s2 : sq sz (okb X sz bdG) (2 * i + 1 + 1) = 0 := s0
      rw [mI_sI]
      by_cases z : t = i
      · subst z
        rw [if_pos ⟨rfl, rfl⟩, uv (sq_down s2), uv' s2]
        rfl
      · rw [if_neg (by omega), (k7.2.2 13 t (by omega) (by unfold rd5; omega)).1, (k4.2.2 13 t (by omega) (by unfold rd5; omega)).1]
        exact dN (sq_down (sq_down s2)) t (by omega)
  · intro k' N ⟨kN, cN, eN, dN⟩
    show w_X3_readEdges_7 F 12 5 (nI n) (k' + 1) (nI n) N
    have hN := iv_kp h3 kN
    simp only [w_X3_readEdges_7, w_X3_readEdges_60]
    refine bt (nI_le (Nat.le_refl _) (by omega)) ?_
    rw [← eF]
    refine ⟨12, lr_0_7 hN.1, ?_⟩
    by_cases s0 : sq sz (okb X sz bdG) (2 * n) = 0
    · have el := ends_lt s0
      have hm : mat n B := mat_edges (u := eu X) (v := ev X) (by omega) el (fun s _ => hB s)
      refine ctn_ok hN h24 hm (cok_x3 (ex := 1) (f := fun i => b1 (eu X i) ||| b1 (ev X i)) hN (by decide) eN (fun i hi => ⟨dN s0 i hi, or_lt (b1_16 (el i hi).1) (b1_16 (el i hi).2)⟩) (fun s s1 hs pt => ?_)) (by decide) (by decide) (by decide) (by rw [cN.2.1]; exact s0) (fun M1 hc => p1 s0 N M1 hN (kp_tr k3 kN) hc)
      rw [hB, fine_ends (by omega) el hs]
      constructor
      · intro g; exact g s (sb_rf s) (by omega)
      · intro g p hp p0
        by_cases z : p = s
        · subst z; exact g
        · have : ∃ t, s.testBit t = true ∧ p.testBit t = false := by
            apply Classical.byContradiction
            intro qq
            refine z (sb_as hp (fun t ht => ?_))
            cases y : p.testBit t
            · exact absurd ⟨t, ht, y⟩ qq
            · rfl
          obtain ⟨t, t1, t2⟩ := this
          refine (fine_ends (by omega) el (Nat.lt_trans (df_lt t1) hs)).mp ((hB _).mp (pt t t1)) p (fun u hu => ?_) p0
          rw [df_bit, hp u hu, b1_bit]
          have : t ≠ u := fun y => by subst y; rw [t2] at hu; cases hu
          simp [this]
    · exact ctn_bad hN.1 cN.2.1 s0 (p0 s0 N (kp_tr k3 kN))
/-- the groups, joined -/
theorem m_grp {N : pm_M} {g : Nat → Nat} {a b i : Nat} {vb s1 : Int32} {T : Nat → Nat → Prop} (hl : lay N) (hT : ∀ k, T 77 k) (hTs : ∀ x k, T x k → x < 83 → sr x k = none) (hg : ∀ e, e < 16 → g e < 16 ∧ mI N 77 e = nI (g e)) (ha : a < 16) (hb : b < 16) {F : pm_M → Prop} {k46 : Int32 → pm_M → Prop} {k86 : Int32 → Int32 → pm_M → Prop} (kk : ∀ N', kp T N N' → (∀ e, e < 16 → mI N' 77 e = nI (mg g a b e)) → w_X10_readsEdges_195 F k46 k86 62 s1 vb (nI i) N') : ∃ n_3 : Nat, w_X10_readsEdges_151 F k46 k86 62 s1 vb (nI i) (nI a) (nI b) n_3 (0 : Int32) N := by
  refine ⟨_, lp (fun k' (N' : pm_M) e => w_X10_readsEdges_151 F k46 k86 62 s1 vb (nI i) (nI a) (nI b) k' (nI e) N') 16 (fun e N' => kp T N N' ∧ (∀ x, x < e → mI N' 77 x = nI (mg g a b x)) ∧ ∀ x, e ≤ x → x < 16 → mI N' 77 x = nI (g x)) ?_ ?_ 0 N (Nat.zero_le _) ⟨kp_rf _ _, fun x hx => absurd hx (Nat.not_lt_zero x), fun x _ hx => (hg x hx).2⟩⟩
  · intro k' e N' he ⟨k1, d1, d2⟩ hk'
    show w_X10_readsEdges_151 F k46 k86 62 s1 vb (nI i) (nI a) (nI b) (k' + 1) (nI e) N'
    have l1 : lay N' := lay_kp hl k1 hTs
    have v77 : vp_in (nI e) (mN N' 77) := by rw [ln_77 l1]; exact vp_in_nI he (by decide)
    have ge := (hg e he).1
    simp only [w_X10_readsEdges_151, w_X10_readsEdges_188, forall_eq, nI_1]
    refine bf (nI_ge (b := 16) he (by decide)) ⟨77, lr_62_20 l1, v77, ?_⟩
    rw [nI_clamp (by omega), d2 e (Nat.le_refl e) he, nI_eq (by omega) (by omega)]
    refine ⟨fun q => ⟨v77, v77, hk' _ ⟨kp_sI k1 (hT e), fun x hx => ?_, fun x hx hx2 => ?_⟩⟩, fun q => ⟨v77, hk' _ ⟨kp_sI k1 (hT e), fun x hx => ?_, fun x hx hx2 => ?_⟩⟩⟩
    · rw [mI_sI]
      by_cases z : x = e
      · subst z; rw [if_pos ⟨rfl, rfl⟩]; unfold mg; rw [if_neg q]
      · rw [if_neg (by omega)]; exact d1 x (by omega)
    · rw [mI_sI, if_neg (by omega)]; exact d2 x (by omega) hx2
    · rw [mI_sI]
      by_cases z : x = e
      · subst z; rw [if_pos ⟨rfl, rfl⟩]; unfold mg; rw [if_pos q]
      · rw [if_neg (by omega)]; exact d1 x (by omega)
    · rw [mI_sI, if_neg (by omega)]; exact d2 x (by omega) hx2
  · intro k' N' ⟨k1, d1, d2⟩
    show w_X10_readsEdges_151 F k46 k86 62 s1 vb (nI i) (nI a) (nI b) (k' + 1) (nI 16) N'
    simp only [w_X10_readsEdges_151]
    exact bt (nI_le (a := 16) (Nat.le_refl _) (by decide)) (kk N' k1 (fun e he => d1 e he))
def tb7 (r a k : Nat) : Prop := tb r a k ∨ a = 77
theorem tb7_mrd {r a k : Nat} (h : tb7 r a k) : mrd r a k := h.elim (fun z => Or.inr (Or.inl z)) (fun z => Or.inr (Or.inr ⟨by omega, by omega⟩))
theorem m_edges (h24 : r < 24) (hj : j < 10) (hB : ∀ s, B s = true ↔ fine (eu X) (ev X) s n) : mRu n r A 4 j sz X (sq sz (okb X sz bdG) (2 * n)) B := by
  intro M h hrm Post p0 p1
  have hp := p2_le h.2.1.2.1
  have hn := h.2.1
  have zz := h.1.1
  have h2 := Nat.two_pow_pos n
  refine m_frame (RK := fun N F => w_X10_readsEdges 62 N F) h h24 hj (by decide) hrm (fun N F f => ⟨fun e => absurd e (by decide), fun e => absurd e (by decide), fun e => absurd e (by decide), fun e => absurd e (by decide), fun _ => f, fun e => absurd e (by decide), fun e => absurd rfl (e 4 (by decide))⟩) (fun N iN kN rN mN' hN => ?_)
  unfold w_X10_readsEdges
  generalize eF : (fun M_2 => w_X10_rule_178 Post 62 (nI 4) M_2) = F
  refine ⟨_, lp (fun k' (N1 : pm_M) i => w_X10_readsEdges_2 F 62 k' (nI i) N1) n (fun i N1 => kp (mrd r) M N1 ∧ mst N1 j (2 * i) (sq sz (okb X sz bdG) (2 * i)) ∧ (∀ s, s < 2 ^ n → mI N1 64 (4096 * r + s) = bI false) ∧ (sq sz (okb X sz bdG) (2 * i) = 0 → ∀ t, t < i → mI N1 75 t = nI (eu X t) ∧ mI N1 76 t = nI (ev X t))) ?_ ?_ 0 N (Nat.zero_le _) ⟨kN, mN', hN, fun _ t ht => absurd ht (Nat.not_lt_zero t)⟩⟩
  · intro k' i N1 hi ⟨k1, m1, t1, d1⟩ hk'
    show w_X10_readsEdges_2 F 62 (k' + 1) (nI i) N1
    have i1 := im_mrd h k1
    simp only [w_X10_readsEdges_2, i1.2.2.1, forall_eq, nI_1]
    refine bf (nI_ge hi (by omega)) ⟨75, lr_62_18 i1.1, m_nx (lo := 0) (hi := 15) i1.1 (rm_mrd zz hrm k1) okb_lt m1 rfl (by decide) (by decide) (fun u M4 u1 k4 c4 uv => ?_)⟩
    have z1 := k1.1
    have k4' : kp (mrd r) M M4 := kp_tr k1 (kp_mono k4 (fun _ _ => rdm_mrd))
    have i4 := im_mrd h k4'
    refine ⟨by rw [ln_75 i4.1]; exact vp_in_nI (by omega) (by decide), ?_⟩
    rw [nI_clamp (by omega)]
    have k5 : kp (mrd r) M (sI M4 75 i (nI u)) := kp_sI k4' (mrd7 (by decide) (by decide))
    have i5 := im_mrd h k5
    have z4 := k4'.1
    refine ⟨76, lr_62_19 i5.1, m_nx (lo := 0) (hi := 15) i5.1 (rm_mrd zz hrm k5) okb_lt (mst_sI c4 (by decide)) rfl (by decide) (by decide) (fun u' M7 u1' k7 c7 uv' => ?_)⟩
    have k7' : kp (mrd r) M M7 := kp_tr k5 (kp_mono k7 (fun _ _ => rdm_mrd))
    have i7 := im_mrd h k7'
    have z5 : mZ (sI M4 75 i (nI u)) = mZ M4 := rfl
    refine ⟨by rw [ln_76 i7.1]; exact vp_in_nI (by omega) (by decide), ?_⟩
    refine hk' _ ⟨kp_sI k7' (mrd7 (by decide) (by decide)), mst_sI c7 (by decide), fun s hs => ?_, fun s0 t ht => ?_⟩
    · rw [mI_sI, if_neg (by omega), (k7.2.2 64 _ (by omega) (by unfold rdm; omega)).1, mI_sI, if_neg (by omega), (k4.2.2 64 _ (by omega) (by unfold rdm; omega)).1]; exact t1 s hs
    · have s2 : sq sz (okb X sz bdG) (2 * i + 1 + 1) = 0 := s0
      rw [mI_sI, if_neg (by omega), (k7.2.2 75 t (by omega) (by unfold rdm; omega)).1, mI_sI, mI_sI]
      by_cases z : t = i
      · subst z
        rw [if_pos ⟨rfl, rfl⟩, if_pos ⟨rfl, rfl⟩, uv (sq_down s2), uv' s2]
        exact ⟨rfl, rfl⟩
      · rw [if_neg (by omega), if_neg (by omega), (k4.2.2 75 t (by omega) (by unfold rdm; omega)).1, (k7.2.2 76 t (by omega) (by unfold rdm; omega)).1, mI_sI, if_neg (by omega), (k4.2.2 76 t (by omega) (by unfold rdm; omega)).1]
        exact d1 (sq_down (sq_down s2)) t (by omega)
  · intro k' N1 ⟨k1, m1, t1, d1⟩
    show w_X10_readsEdges_2 F 62 (k' + 1) (nI n) N1
    have i1 := im_mrd h k1
    have z1 := k1.1
    simp only [w_X10_readsEdges_2, i1.2.2.1]
    refine bt (nI_le (Nat.le_refl _) (by omega)) ?_
    by_cases s0 : sq sz (okb X sz bdG) (2 * n) = 0
    · have dd := d1 s0
      have el := ends_lt s0
      refine ⟨_, lp (fun k' (N2 : pm_M) s => w_X10_readsEdges_46 F 62 k' (nI s) N2) (2 ^ n) (fun s N2 => kp (tb7 r) N1 N2 ∧ ∀ t, t < 2 ^ n → mI N2 64 (4096 * r + t) = bI (decide (t < s) && B t)) ?_ ?_ 0 N1 (Nat.zero_le _) ⟨kp_rf _ _, fun t ht => by rw [t1 t ht, decide_eq_false (Nat.not_lt_zero t)]; rfl⟩⟩
      · intro k' s N2 hs ⟨k2, t2⟩ hk'
        show w_X10_readsEdges_46 F 62 (k' + 1) (nI s) N2
        have k2' : kp (mrd r) M N2 := kp_tr k1 (kp_mono k2 (fun _ _ => tb7_mrd))
        have i2 := im_mrd h k2'
        have z2 := k2.1
        have e17 : mI N2 62 17 = 0 := by rw [(k2.2.2 62 17 (by omega) (by unfold tb7 tb; omega)).1, m1.2.1]; exact s0
        simp only [w_X10_readsEdges_46, i2.2.2.2.1, e17]
        refine bf (nI_nlt (by omega) (by omega)) ⟨fun q => absurd trivial q, fun _ => ?_⟩
        have fin : ∀ (N4 : pm_M) (b : Bool), kp (fun a _ => a = 77) N2 N4 → b = B s → ((bI b = 0 → w_X10_readsEdges_210 F (w_X10_readsEdges_46 F 62 k') 62 (nI s) N4) ∧ (¬ bI b = 0 → w_X10_allow 62 (nI s) N4 (fun M_3 => w_X10_readsEdges_210 F (w_X10_readsEdges_46 F 62 k') 62 (nI s) M_3))) := by
          intro N4 b k4 eb
          have k24 : kp (tb7 r) N1 N4 := kp_tr k2 (kp_mono k4 (fun _ _ z => Or.inr z))
          have i4 := im_mrd h (kp_tr k1 (kp_mono k24 (fun _ _ => tb7_mrd)))
          have t4 : ∀ t, t < 2 ^ n → mI N4 64 (4096 * r + t) = bI (decide (t < s) && B t) := fun t ht => by rw [(k4.2.2 64 _ (by omega) (by omega)).1]; exact t2 t ht
          unfold w_X10_readsEdges_210
          simp only [forall_eq, nI_1]
          refine b0 (fun e => m_allow i4 h24 hs (hk' _ ⟨kp_sI k24 (Or.inl ⟨rfl, by omega⟩), fun t ht => ?_⟩)) (fun e => hk' N4 ⟨k24, fun t ht => ?_⟩)
          · rw [mI_sI]
            by_cases z : t = s
            · subst z
              rw [if_pos ⟨rfl, rfl⟩, ← eb, e, decide_eq_true (Nat.lt_succ_self t)]; rfl
            · rw [if_neg (by omega), t4 t ht, show decide (t < s) = decide (t < s + 1) by apply decide_eq_decide.mpr; omega]
          · rw [t4 t ht]
            by_cases z : t = s
            · subst z; rw [← eb, e, Bool.and_false, Bool.and_false]
            · rw [show decide (t < s) = decide (t < s + 1) by apply decide_eq_decide.mpr; omega]
        refine ⟨_, lp (fun k3 (N3 : pm_M) e => w_X10_readsEdges_63 F (w_X10_readsEdges_46 F 62 k') 62 (nI s) k3 (nI e) N3) 16 (fun e N3 => kp (fun a _ => a = 77) N2 N3 ∧ ∀ x, x < e → mI N3 77 x = nI x) ?_ ?_ 0 N2 (Nat.zero_le _) ⟨kp_rf _ _, fun x hx => absurd hx (Nat.not_lt_zero x)⟩⟩
        · intro k3 e N3 he ⟨k3', d3⟩ hk3
          show w_X10_readsEdges_63 F (w_X10_readsEdges_46 F 62 k') 62 (nI s) (k3 + 1) (nI e) N3
          have l3 := (im_mrd h (kp_tr k2' (kp_mono k3' (fun _ _ z => mrd7 (by omega) (by omega))))).1
          simp only [w_X10_readsEdges_63, forall_eq, nI_1]
          refine bf (nI_ge (b := 16) he (by decide)) ⟨77, lr_62_20 l3, by rw [ln_77 l3]; exact vp_in_nI he (by decide), ?_⟩
          rw [nI_clamp (by omega)]
          refine hk3 _ ⟨kp_sI k3' rfl, fun x hx => ?_⟩
          rw [mI_sI]
          by_cases z : x = e
          · subst z; rw [if_pos ⟨rfl, rfl⟩]
          · rw [if_neg (by omega)]; exact d3 x (by omega)
        · intro k3 N3 ⟨k3', d3⟩
          show w_X10_readsEdges_63 F (w_X10_readsEdges_46 F 62 k') 62 (nI s) (k3 + 1) (nI 16) N3
          simp only [w_X10_readsEdges_63]
          refine bt (nI_le (a := 16) (Nat.le_refl _) (by decide)) ⟨_, lp (fun k4 (t : pm_M × Bool) i => w_X10_readsEdges_86 F (w_X10_readsEdges_46 F 62 k') 62 (nI s) k4 (bI t.2) (nI i) t.1) n (fun i t => kp (fun a _ => a = 77) N2 t.1 ∧ (∀ e, e < 16 → mI t.1 77 e = nI (grp (eu X) (ev X) s i e)) ∧ (t.2 = true ↔ fine (eu X) (ev X) s i)) ?_ ?_ 0 (N3, true) (Nat.zero_le _) ⟨k3', fun e he => d3 e he, fun _ t ht => absurd ht (Nat.not_lt_zero t), fun _ => rfl⟩⟩
          · rintro k4 i ⟨N4, b⟩ hi ⟨k4', d4, b4⟩ hk4
            have k4'' : kp (fun a _ => a = 77) N2 N4 := k4'
            have d4' : ∀ e, e < 16 → mI N4 77 e = nI (grp (eu X) (ev X) s i e) := d4
            have b4' : b = true ↔ fine (eu X) (ev X) s i := b4
            show w_X10_readsEdges_86 F (w_X10_readsEdges_46 F 62 k') 62 (nI s) (k4 + 1) (bI b) (nI i) N4
            have i4 := im_mrd h (kp_tr k2' (kp_mono k4'' (fun _ _ z => mrd7 (by omega) (by omega))))
            have eN : ∀ a k, 75 ≤ a → a < 77 → mI N4 a k = mI N1 a k := fun a k h1 h2 => by
              rw [(k4''.2.2 a k (by omega) (by omega)).1, (k2.2.2 a k (by omega) (by unfold tb7 tb; omega)).1]
            obtain ⟨ei, ej⟩ := el i hi
            have gu := grp_lt (u := eu X) (v := ev X) (n := n) el s i (by omega) (eu X i) ei
            have gv := grp_lt (u := eu X) (v := ev X) (n := n) el s i (by omega) (ev X i) ej
            simp only [w_X10_readsEdges_86, i4.2.2.1, nI_bit (show s < 2 ^ 31 by omega) (show i < 31 by omega)]
            refine bf (nI_ge hi (by omega)) (b0' (fun e => ?_) (fun e => ?_))
            · refine ⟨77, lr_62_20 i4.1, 75, lr_62_18 i4.1, by rw [ln_75 i4.1]; exact vp_in_nI (by omega) (by decide), ?_⟩
              rw [nI_clamp (show i < 2 ^ 31 by omega), eN 75 i (by decide) (by decide), (dd i hi).1, nI_clamp (show eu X i < 2 ^ 31 by omega), d4' _ ei]
              refine ⟨by rw [ln_77 i4.1]; exact vp_in_nI ei (by decide), fun x9 e9 => ⟨76, lr_62_19 i4.1, by rw [ln_76 i4.1]; exact vp_in_nI (by omega) (by decide), ?_⟩⟩
              rw [eN 76 i (by decide) (by decide), (dd i hi).2, nI_clamp (show ev X i < 2 ^ 31 by omega), d4' _ ej]
              refine ⟨by rw [ln_77 i4.1]; exact vp_in_nI ej (by decide), fun x14 e14 => ?_⟩
              rw [e9, e14]
              unfold w_X10_readsEdges_146 w_X10_readsEdges_147
              have go : ∀ b' : Bool, (b' = true ↔ fine (eu X) (ev X) s (i + 1)) → ∃ n_3 : Nat, w_X10_readsEdges_151 F (w_X10_readsEdges_46 F 62 k') (w_X10_readsEdges_86 F (w_X10_readsEdges_46 F 62 k') 62 (nI s) k4) 62 (nI s) (bI b') (nI i) (nI (grp (eu X) (ev X) s i (eu X i))) (nI (grp (eu X) (ev X) s i (ev X i))) n_3 (0 : Int32) N4 := by
                intro b' hb'
                refine m_grp (T := fun a _ => a = 77) (g := grp (eu X) (ev X) s i) i4.1 (fun _ => rfl) (fun x k z _ => by rw [z]; rfl) (fun e' he' => ⟨grp_lt (u := eu X) (v := ev X) (n := n) el s i (by omega) e' he', d4' e' he'⟩) gu gv (fun N' k5 d5 => ?_)
                unfold w_X10_readsEdges_195
                rw [nI_1]
                intro x1 ex1
                rw [ex1]
                refine hk4 (N', b') ⟨kp_tr k4'' k5, fun e' he' => ?_, hb'⟩
                show mI N' 77 e' = nI (grp (eu X) (ev X) s (i + 1) e')
                rw [d5 e' he', grp_s, if_pos e]
              refine b0 (fun eb => ?_) (fun eb => ?_)
              · rw [nI_eq (by omega) (by omega)]
                refine ⟨fun q => ?_, fun q => ?_⟩
                · have := go false ⟨fun z => (by cases z), fun z => absurd q ((fine_s.mp z).2 e)⟩
                  exact this
                · have := go true ⟨fun _ => fine_s.mpr ⟨b4'.mp eb, fun _ => q⟩, fun _ => rfl⟩
                  exact this
              · have := go false ⟨fun z => (by cases z), fun z => by rw [b4'.mpr (fine_s.mp z).1] at eb; cases eb⟩
                exact this
            · unfold w_X10_readsEdges_195
              rw [nI_1]
              intro x1 ex1
              rw [ex1]
              refine hk4 (N4, b) ⟨k4'', fun e' he' => ?_, ?_⟩
              · show mI N4 77 e' = nI (grp (eu X) (ev X) s (i + 1) e')
                rw [grp_s, if_neg (by rw [e]; decide)]; exact d4' e' he'
              · show b = true ↔ fine (eu X) (ev X) s (i + 1)
                rw [b4', fine_s]
                exact ⟨fun z => ⟨z, fun y => by rw [e] at y; cases y⟩, fun z => z.1⟩
          · rintro k4 ⟨N4, b⟩ ⟨k4', d4, b4⟩
            have k4'' : kp (fun a _ => a = 77) N2 N4 := k4'
            have b4' : b = true ↔ fine (eu X) (ev X) s n := b4
            show w_X10_readsEdges_86 F (w_X10_readsEdges_46 F 62 k') 62 (nI s) (k4 + 1) (bI b) (nI n) N4
            have i4 := im_mrd h (kp_tr k2' (kp_mono k4'' (fun _ _ z => mrd7 (by omega) (by omega))))
            unfold w_X10_readsEdges_86
            rw [i4.2.2.1]
            refine bt (nI_le (Nat.le_refl _) (by omega)) (fin N4 b k4'' ?_)
            rw [← hB] at b4'
            cases b <;> cases e : B s
            · rfl
            · exact absurd (b4'.mpr e) (by decide)
            · rw [e] at b4'; exact absurd (b4'.mp rfl) (by decide)
            · rfl
      · intro k' N2 ⟨k2, t2⟩
        show w_X10_readsEdges_46 F 62 (k' + 1) (nI (2 ^ n)) N2
        have k2' : kp (mrd r) M N2 := kp_tr k1 (kp_mono k2 (fun _ _ => tb7_mrd))
        have i2 := im_mrd h k2'
        simp only [w_X10_readsEdges_46, w_X10_readsEdges_216, i2.2.2.2.1]
        refine bt (nI_lt (by omega) (by omega)) ?_
        rw [← eF]
        refine m_178_ok h h24 ?_ k2' ?_ (fun s hs => ?_) (fun M' hm => p1 s0 M' hm)
        · exact (mat_edges (u := eu X) (v := ev X) (by omega) el (fun s _ => hB s)).1
        · rw [(k2.2.2 62 17 (by omega) (by unfold tb7 tb; omega)).1, m1.2.1]; exact s0
        · rw [t2 s hs, decide_eq_true hs]; rfl
    · refine ⟨1, ?_⟩
      show w_X10_readsEdges_46 F 62 (0 + 1) (nI 0) N1
      have e17 := m1.2.1
      simp only [w_X10_readsEdges_46, w_X10_readsEdges_216, i1.2.2.2.1, e17]
      refine bf (nI_nlt (by omega) (by omega)) (bf' s0 ?_)
      rw [← eF]
      exact m_178_bad e17 s0 (p0 s0 N1 k1)
end
