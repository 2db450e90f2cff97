/-! reaches; places -/
theorem nb_s (f : Nat → Nat) (p i : Nat) : nb f p (i + 1) = if p.testBit i = true then nb f p i ||| f i else nb f p i := by
  show nb f p i ||| (if p.testBit i = true then f i else 0) = _
  by_cases q : p.testBit i = true
  · rw [if_pos q, if_pos q]
  · rw [if_neg q, if_neg q, Nat.or_zero]
theorem nb_n {f : Nat → Nat} {p n m : Nat} (hp : p < 2 ^ n) (hn : n ≤ m) : nb f p m = nb f p n := by
  apply Nat.eq_of_testBit_eq
  intro i
  have e : (nb f p m).testBit i = true ↔ (nb f p n).testBit i = true := by
    rw [nb_bit, nb_bit]
    constructor
    · rintro ⟨j, j1, j2, j3⟩; exact ⟨j, bit_lt hp j2, j2, j3⟩
    · rintro ⟨j, j1, j2, j3⟩; exact ⟨j, by omega, j2, j3⟩
  cases a : (nb f p m).testBit i <;> cases b : (nb f p n).testBit i
  · rfl
  · rw [e.mpr b] at a; cases a
  · rw [e.mp a] at b; cases b
  · rfl
theorem nb_lt {f : Nat → Nat} {p n b : Nat} (h : ∀ i, i < n → f i < 2 ^ b) : ∀ m, m ≤ n → nb f p m < 2 ^ b := by
  intro m
  induction m with
  | zero => intro _; exact Nat.two_pow_pos b
  | succ m ih =>
    intro hm
    rw [nb_s]
    by_cases q : p.testBit m = true
    · rw [if_pos q]; exact or_lt (ih (by omega)) (h m (by omega))
    · rw [if_neg q]; exact ih (by omega)
theorem nb_lt' {f : Nat → Nat} {p n b : Nat} (hp : p < 2 ^ n) (h : ∀ i, i < n → f i < 2 ^ b) (m : Nat) : nb f p m < 2 ^ b := by
  by_cases q : n ≤ m
  · rw [nb_n hp q]; exact nb_lt h n (Nat.le_refl n)
  · exact nb_lt h m (by omega)
theorem gd_prt {n : Nat} {F : Nat → Nat} {B : Nat → Bool} (hB : ∀ s, B s = true ↔ gd F s) {s : Nat} (hs : s < 2 ^ n) (pt : prt B s) : B s = true ↔ bc s ≤ F s := by
  rw [hB]
  constructor
  · intro h; exact h s (sb_rf s)
  · intro h p hp
    by_cases z : p = s
    · subst z; exact h
    · have : ∃ t, s.testBit t = true ∧ p.testBit t = false := by
        apply Classical.byContradiction
        intro qq
        refine z (sb_as hp (fun t ht => ?_))
        cases y : p.testBit t
        · exact absurd ⟨t, ht, y⟩ qq
        · rfl
      obtain ⟨t, t1, t2⟩ := this
      refine (hB _).mp (pt t t1) p (fun u hu => ?_)
      rw [df_bit, hp u hu, b1_bit]
      have : t ≠ u := fun y => by subst y; rw [t2] at hu; cases hu
      simp [this]
theorem c_x3 {M : pm_M} {n ex : Nat} {f : Nat → Nat} (hn : n ≤ 12) (r0 : mR M 12 0 = some 13) (n0 : mN M 13 = 12) (hex : ex ≤ 1) (e1 : mI M 12 1 = nI ex) (ef : ∀ i, i < n → mI M 13 i = nI (f i) ∧ f i < 2 ^ 16) {s : Nat} (hs : s < 2 ^ n) {Post : Int32 → Prop} (k : Post (bI (decide (bc s + ex ≤ bc (nb f s n))))) : w_X3_fits 12 (nI s) M Post := by
  have hp := p2_le hn
  have nl := nb_lt' (b := 16) hs (fun i hi => (ef i hi).2)
  unfold w_X3_fits
  refine ⟨_, lp (fun k' (v : Nat) i => w_X3_fits_4 Post 12 (nI s) M k' (nI v) (nI i)) 12 (fun i v => v = nb f s i) ?_ ?_ 0 0 (Nat.zero_le _) rfl⟩
  · intro k' i v hi hv hk'
    show w_X3_fits_4 Post 12 (nI s) M (k' + 1) (nI v) (nI i)
    simp only [w_X3_fits_4, w_X3_fits_30, forall_eq, nI_1, nI_bit (show s < 2 ^ 31 by omega) (show i < 31 by omega)]
    refine ⟨13, r0, ?_⟩
    rw [n0]
    refine bf (nI_ge hi (by decide)) (b0 (fun e => ⟨vp_in_nI hi (by decide), ?_⟩) (fun e => hk' v (by rw [nb_s, if_neg (by rw [e]; decide)]; exact hv)))
    rw [nI_clamp (by omega), (ef i (bit_lt hs e)).1, nI_or]
    exact hk' _ (by rw [nb_s, if_pos e, hv])
  · intro k' v hv
    show w_X3_fits_4 Post 12 (nI s) M (k' + 1) (nI v) (nI 12)
    have := nl 12
    have b1 := bc_16 s
    have b2 := bc_16 v
    simp only [w_X3_fits_4, w_X3_fits_57]
    refine ⟨13, r0, ?_⟩
    rw [n0]
    refine bt (nI_le (Nat.le_refl _) (by decide)) (w_bc (by omega) (w_bc (by omega) ?_))
    rw [e1, nI_add, nI_ltI (by omega) (by omega)]
    have ve : bc v = bc (nb f s n) := by rw [hv, nb_n hs (by omega)]
    by_cases q : bc v < bc s + ex
    · rw [decide_eq_false (by omega)] at k
      exact bt q ⟨Or.inl trivial, k⟩
    · rw [decide_eq_true (by omega)] at k
      exact bf q ⟨Or.inr trivial, k⟩
theorem cok_x3 {M : pm_M} {n r : Nat} {w : Nat → Nat} {A : Nat → Nat → Bool} {c : Nat} {Q P : Nat → Nat} {ex : Nat} {f : Nat → Nat} {B : Nat → Bool} (h : iv M n r w A c Q P) (hex : ex ≤ 1) (e1 : mI M 12 1 = nI ex) (ef : ∀ i, i < n → mI M 13 i = nI (f i) ∧ f i < 2 ^ 16) (hB : ∀ s, 1 ≤ s → s < 2 ^ n → prt B s → (B s = true ↔ bc s + ex ≤ bc (nb f s n))) : cok M n r c Q P B 12 (fun _ _ => True) := by
  have hp := iv_p h
  have hn := iv_n h
  refine cok_fix h (fun M' l' ha hT s s1 hs pt K9 k => ?_) (by decide)
  have t12 : mT M' 12 = 2 := hT.trans h.1.2.2.2.2.2.1
  refine ⟨fun e => ?_, fun e => ?_, fun _ => ?_, fun e => ?_, fun e => ?_⟩
  · rw [t12] at e; cases e
  · rw [t12] at e; cases e
  · refine c_x3 (f := f) hn.2.1 (lr_12_0 l') (ln_13 l') hex ((ha 12 1 (by decide) (by unfold ft; omega) (by decide)).1.trans e1) (fun i hi => ?_) hs ?_
    · rw [(ha 13 i (by decide) (by unfold ft; omega) (by decide)).1]
      exact ef i hi
    · have : decide (bc s + ex ≤ bc (nb f s n)) = B s := by
        cases b : B s with
        | true => exact decide_eq_true ((hB s s1 hs pt).mp b)
        | false => exact decide_eq_false (fun q => by rw [(hB s s1 hs pt).mpr q] at b; cases b)
      rw [this]; exact k
  · rw [t12] at e; cases e
  · rw [t12] at e; cases e
theorem scr12 {r : Nat} : scr r 12 1 := Or.inr (Or.inr (Or.inr (Or.inr (Or.inr (Or.inr (Or.inr (Or.inl ⟨rfl, rfl⟩)))))))
theorem scr13 {r k : Nat} : scr r 13 k := Or.inr (Or.inr (Or.inr (Or.inr (Or.inr (Or.inr (Or.inr (Or.inr (Or.inl rfl))))))))
theorem mrd7 {r a k : Nat} (h1 : 74 ≤ a) (h2 : a < 83) : mrd r a k := Or.inr (Or.inr ⟨h1, h2⟩)
def bdP (_ : Nat) : Nat × Nat := (0, 4095)
section
variable {M : pm_M} {n r : Nat} {w : Nat → Nat} {A : Nat → Nat → Bool} {c : Nat} {Q P : Nat → Nat} {j sz : Nat} {X : Nat → Int64} {B : Nat → Bool}
theorem c_places (h : iv M n r w A c Q P) (h24 : r < 24) (hj : j < 10) (hrow : hr M j = true) (hrc : rowc M j sz X) (hB : ∀ s, B s = true ↔ gd (fun p => bc (nb (vl X) p n)) s) : cRu M n r w A c Q P 6 j (sq sz (okb X sz bdP) n) B := by
  intro Post p0 p1
  have hn := iv_n h
  refine c_frame h h24 hj (by decide) hrow hrc (fun M3 h3 k3 r3 s3 => ?_)
  have z3 := h3.1.1
  unfold w_X9_checkFromNumbers
  refine ⟨fun e => absurd e (by decide), fun e => absurd e (by decide), fun e => absurd e (by decide), fun e => absurd e (by decide), fun e => absurd e (by decide), fun e => absurd e (by decide), fun _ => ⟨12, lr_0_7 h3.1, 5, lr_0_4 h3.1, ?_⟩⟩
  rw [h3.2.1.2.1]
  unfold w_X3_readPlaces
  intro M1 e1
  have k1 : kp (scr r) M3 M1 := by rw [e1]; exact kp_sI (kp_rf _ _) scr12
  refine ⟨_, lp (fun k' (N : pm_M) i => w_X3_readPlaces_7 (fun M_27 => ∃ q_28 : Nat, mR M_27 0 7 = some q_28 ∧ ctn Post (nI 6) q_28 M_27) 12 5 (nI n) k' (nI i) N) n (fun i N => kp (scr r) M3 N ∧ cst N j i (sq sz (okb X sz bdP) i) ∧ mI N 12 1 = 0 ∧ (sq sz (okb X sz bdP) i = 0 → ∀ t, t < i → mI N 13 t = nI (vl X t))) ?_ ?_ 0 M1 (Nat.zero_le _) ⟨k1, by rw [e1]; exact cst_sI s3 (by decide), by rw [e1, mI_sI, if_pos ⟨rfl, rfl⟩], fun _ t ht => absurd ht (Nat.not_lt_zero t)⟩⟩
  · intro k' i N hi ⟨kN, cN, eN, dN⟩ hk'
    show w_X3_readPlaces_7 (fun M_27 => ∃ q_28 : Nat, mR M_27 0 7 = some q_28 ∧ ctn Post (nI 6) q_28 M_27) 12 5 (nI n) (k' + 1) (nI i) N
    have hN := iv_kp h3 kN
    simp only [w_X3_readPlaces_7, forall_eq, nI_1]
    refine bf (nI_ge hi (by omega)) ⟨13, lr_12_0 hN.1, ?_⟩
    rw [ln_13 hN.1]
    refine bf (nI_ge (by omega) (by decide)) (c_nx (lo := 0) (hi := 4095) hN.1 (rc_scr z3 r3 kN) okb_lt cN rfl (by decide) (by decide) (fun u M4 u0 u1 k4 c4 uv => ?_))
    have zN := kN.1
    have k4' : kp (scr r) M3 M4 := kp_tr kN (kp_mono k4 (fun _ _ => rd5_scr))
    have h4 := iv_kp h3 k4'
    refine ⟨by rw [ln_13 h4.1]; exact vp_in_nI (by omega) (by decide), ?_⟩
    rw [nI_clamp (by omega)]
    refine hk' _ ⟨kp_sI k4' scr13, cst_sI c4 (by decide), ?_, fun s0 t ht => ?_⟩
    · rw [mI_sI, if_neg (by omega), (k4.2.2 12 1 (by omega) (by unfold rd5; omega)).1]; exact eN
    · rw [mI_sI]
      by_cases z : t = i
      · subst z; rw [if_pos ⟨rfl, rfl⟩, uv s0]
      · rw [if_neg (by omega), (k4.2.2 13 t (by omega) (by unfold rd5; omega)).1]
        exact dN (sq_down s0) t (by omega)
  · intro k' N ⟨kN, cN, eN, dN⟩
    show w_X3_readPlaces_7 (fun M_27 => ∃ q_28 : Nat, mR M_27 0 7 = some q_28 ∧ ctn Post (nI 6) q_28 M_27) 12 5 (nI n) (k' + 1) (nI n) N
    have hN := iv_kp h3 kN
    simp only [w_X3_readPlaces_7, w_X3_readPlaces_41]
    refine bt (nI_le (Nat.le_refl _) (by omega)) ⟨12, lr_0_7 hN.1, ?_⟩
    by_cases s0 : sq sz (okb X sz bdP) n = 0
    · refine ctn_ok hN h24 (mat_places (m := n) (f := vl X) (by omega) (fun s _ => hB s)) (cok_x3 (ex := 0) (f := vl X) hN (by decide) eN (fun i hi => ⟨dN s0 i hi, ?_⟩) (fun s s1 hs pt => gd_prt hB hs pt)) (by decide) (by decide) (by decide) (by rw [cN.2.1]; exact s0) (fun M1 hc => p1 s0 N M1 hN (kp_tr k3 kN) hc)
      have := (bnd_vl (lo := 0) (hi := 4095) (sq_ok n s0 i hi) (by decide) (by decide)).2.2.2
      exact Nat.lt_of_le_of_lt this (by decide)
    · exact ctn_bad hN.1 cN.2.1 s0 (p0 s0 N (kp_tr k3 kN))
theorem m_places (h24 : r < 24) (hj : j < 10) (hB : ∀ s, B s = true ↔ gd (fun p => bc (nb (vl X) p n)) s) : mRu n r A 6 j sz X (sq sz (okb X sz bdP) n) B := by
  intro M h hrm Post p0 p1
  have hp := p2_le h.2.1.2.1
  have hn := h.2.1
  have zz := h.1.1
  have h2 := Nat.two_pow_pos n
  refine m_frame (RK := fun N F => w_X10_readsPlaces 62 N F) h h24 hj (by decide) hrm (fun N F f => ⟨fun e => absurd e (by decide), fun e => absurd e (by decide), fun e => absurd e (by decide), fun e => absurd e (by decide), fun e => absurd e (by decide), fun e => absurd e (by decide), fun _ => f⟩) (fun N iN kN rN mN' hN => ?_)
  unfold w_X10_readsPlaces
  generalize eF : (fun M_2 => w_X10_rule_178 Post 62 (nI 6) M_2) = F
  refine ⟨_, lp (fun k' (N1 : pm_M) i => w_X10_readsPlaces_2 F 62 k' (nI i) N1) n (fun i N1 => kp (mrd r) M N1 ∧ mst N1 j i (sq sz (okb X sz bdP) i) ∧ (∀ s, s < 2 ^ n → mI N1 64 (4096 * r + s) = bI false) ∧ (sq sz (okb X sz bdP) i = 0 → ∀ t, t < i → mI N1 75 t = nI (vl X t))) ?_ ?_ 0 N (Nat.zero_le _) ⟨kN, mN', hN, fun _ t ht => absurd ht (Nat.not_lt_zero t)⟩⟩
  · intro k' i N1 hi ⟨k1, m1, t1, d1⟩ hk'
    show w_X10_readsPlaces_2 F 62 (k' + 1) (nI i) N1
    have i1 := im_mrd h k1
    simp only [w_X10_readsPlaces_2, i1.2.2.1, forall_eq, nI_1]
    refine bf (nI_ge hi (by omega)) ⟨75, lr_62_18 i1.1, m_nx (lo := 0) (hi := 4095) i1.1 (rm_mrd zz hrm k1) okb_lt m1 rfl (by decide) (by decide) (fun u M4 u1 k4 c4 uv => ?_)⟩
    have z1 := k1.1
    have k4' : kp (mrd r) M M4 := kp_tr k1 (kp_mono k4 (fun _ _ => rdm_mrd))
    have i4 := im_mrd h k4'
    refine ⟨by rw [ln_75 i4.1]; exact vp_in_nI (by omega) (by decide), ?_⟩
    rw [nI_clamp (by omega)]
    refine hk' _ ⟨kp_sI k4' (mrd7 (by decide) (by decide)), mst_sI c4 (by decide), fun s hs => ?_, fun s0 t ht => ?_⟩
    · rw [mI_sI, if_neg (by omega), (k4.2.2 64 _ (by omega) (by unfold rdm; omega)).1]; exact t1 s hs
    · rw [mI_sI]
      by_cases z : t = i
      · subst z; rw [if_pos ⟨rfl, rfl⟩, uv s0]
      · rw [if_neg (by omega), (k4.2.2 75 t (by omega) (by unfold rdm; omega)).1]
        exact d1 (sq_down s0) t (by omega)
  · intro k' N1 ⟨k1, m1, t1, d1⟩
    show w_X10_readsPlaces_2 F 62 (k' + 1) (nI n) N1
    have i1 := im_mrd h k1
    have z1 := k1.1
    simp only [w_X10_readsPlaces_2, i1.2.2.1]
    refine bt (nI_le (Nat.le_refl _) (by omega)) ?_
    by_cases s0 : sq sz (okb X sz bdP) n = 0
    · have dd := d1 s0
      have fl : ∀ i, i < n → vl X i < 2 ^ 12 := fun i hi => Nat.lt_of_le_of_lt (bnd_vl (lo := 0) (hi := 4095) (sq_ok n s0 i hi) (by decide) (by decide)).2.2.2 (by decide)
      refine ⟨_, lp (fun k' (N2 : pm_M) s => w_X10_readsPlaces_32 F 62 k' (nI s) N2) (2 ^ n) (fun s N2 => kp (tb r) N1 N2 ∧ ∀ t, t < 2 ^ n → mI N2 64 (4096 * r + t) = bI (decide (t < s) && B t)) ?_ ?_ 0 N1 (Nat.zero_le _) ⟨kp_rf _ _, fun t ht => by rw [t1 t ht, decide_eq_false (Nat.not_lt_zero t)]; rfl⟩⟩
      · intro k' s N2 hs ⟨k2, t2⟩ hk'
        show w_X10_readsPlaces_32 F 62 (k' + 1) (nI s) N2
        have k2' : kp (mrd r) M N2 := kp_tr k1 (kp_mono k2 (fun _ _ z => Or.inr (Or.inl z)))
        have i2 := im_mrd h k2'
        have e17 : mI N2 62 17 = 0 := by rw [(k2.2.2 62 17 (by omega) (by unfold tb; omega)).1, m1.2.1]; exact s0
        have d2 : ∀ t, t < n → mI N2 75 t = nI (vl X t) := fun t ht => by rw [(k2.2.2 75 t (by omega) (by unfold tb; omega)).1]; exact dd t ht
        simp only [w_X10_readsPlaces_32, i2.2.2.2.1, e17]
        refine bf (nI_nlt (by omega) (by omega)) ⟨fun q => absurd trivial q, fun _ => ?_⟩
        have fin : ∀ b : Bool, b = B s → ((bI b = 0 → w_X10_readsPlaces_142 F (w_X10_readsPlaces_32 F 62 k') 62 (nI s) N2) ∧ (¬ bI b = 0 → w_X10_allow 62 (nI s) N2 (fun M_3 => w_X10_readsPlaces_142 F (w_X10_readsPlaces_32 F 62 k') 62 (nI s) M_3))) := by
          intro b eb
          unfold w_X10_readsPlaces_142
          simp only [forall_eq, nI_1]
          refine b0 (fun e => m_allow i2 h24 hs (hk' _ ⟨kp_sI k2 ⟨rfl, by omega⟩, fun t ht => ?_⟩)) (fun e => hk' N2 ⟨k2, fun t ht => ?_⟩)
          · rw [mI_sI]
            by_cases z : t = s
            · subst z
              rw [if_pos ⟨rfl, rfl⟩, ← eb, e, decide_eq_true (Nat.lt_succ_self t)]; rfl
            · rw [if_neg (by omega), t2 t ht, show decide (t < s) = decide (t < s + 1) by apply decide_eq_decide.mpr; omega]
          · rw [t2 t ht]
            by_cases z : t = s
            · subst z; rw [← eb, e, Bool.and_false, Bool.and_false]
            · rw [show decide (t < s) = decide (t < s + 1) by apply decide_eq_decide.mpr; omega]
        obtain ⟨kf, hkf⟩ := lps (fun k3 (b : Bool) p => w_X10_readsPlaces_51 F (w_X10_readsPlaces_32 F 62 k') 62 (nI s) N2 k3 (bI b) (nI p)) s (fun p b => b = true ↔ ∀ q, sb q s → p < q → bc q ≤ bc (nb (vl X) q n)) (by
            intro k3 p b hsp p0' hb hk3
            show w_X10_readsPlaces_51 F (w_X10_readsPlaces_32 F 62 k') 62 (nI s) N2 (k3 + 1) (bI b) (nI p)
            have hpl := sb_le hsp
            have nl := nb_lt' (b := 12) (sb_lt hsp hs) fl
            simp only [w_X10_readsPlaces_51]
            refine bf (nI_nle (by omega) (by omega)) ⟨_, lp (fun k4 (v : Nat) i => w_X10_readsPlaces_61 F (w_X10_readsPlaces_32 F 62 k') (w_X10_readsPlaces_51 F (w_X10_readsPlaces_32 F 62 k') 62 (nI s) N2 k3) 62 (nI s) (bI b) (nI p) N2 k4 (nI v) (nI i)) n (fun i v => v = nb (vl X) p i) ?_ ?_ 0 0 (Nat.zero_le _) rfl⟩
            · intro k4 i v hi hv hk4
              show w_X10_readsPlaces_61 F (w_X10_readsPlaces_32 F 62 k') (w_X10_readsPlaces_51 F (w_X10_readsPlaces_32 F 62 k') 62 (nI s) N2 k3) 62 (nI s) (bI b) (nI p) N2 (k4 + 1) (nI v) (nI i)
              simp only [w_X10_readsPlaces_61, w_X10_readsPlaces_93, i2.2.2.1, forall_eq, nI_1, nI_bit (show p < 2 ^ 31 by omega) (show i < 31 by omega)]
              refine bf (nI_ge hi (by omega)) (b1' (fun e => ⟨75, lr_62_18 i2.1, by rw [ln_75 i2.1]; exact vp_in_nI (by omega) (by decide), ?_⟩) (fun e => ?_))
              · rw [nI_clamp (by omega), d2 i hi, nI_or]
                exact hk4 _ (by rw [nb_s, if_pos e, hv])
              · rw [show (0 : Int32) = nI 0 from rfl, nI_or, Nat.or_zero]
                exact hk4 _ (by rw [nb_s, if_neg (by rw [e]; decide)]; exact hv)
            · intro k4 v hv
              show w_X10_readsPlaces_61 F (w_X10_readsPlaces_32 F 62 k') (w_X10_readsPlaces_51 F (w_X10_readsPlaces_32 F 62 k') 62 (nI s) N2 k3) 62 (nI s) (bI b) (nI p) N2 (k4 + 1) (nI v) (nI n)
              have vlt := nl n
              rw [← hv] at vlt
              have c1 := bc_16 v
              have c2 := bc_16 p
              simp only [w_X10_readsPlaces_61, w_X10_readsPlaces_122, w_X10_readsPlaces_123, i2.2.2.1, forall_eq, nI_prev p0']
              have nxt : ∀ b' : Bool, (b' = true ↔ b = true ∧ bc p ≤ bc v) → w_X10_readsPlaces_51 F (w_X10_readsPlaces_32 F 62 k') 62 (nI s) N2 k3 (bI b') (nI ((p - 1) &&& s)) := fun b' hb' => hk3 b' (by
                rw [hb', hb]
                constructor
                · rintro ⟨g1, g2⟩ q hq hlt
                  by_cases z : q = p
                  · subst z; rw [hv] at g2; exact g2
                  · by_cases y : q < p
                    · have := part_prev _ p q hsp hq y
                      omega
                    · exact g1 q hq (by omega)
                · intro g
                  refine ⟨fun q hq hlt => g q hq ?_, ?_⟩
                  · have := prev_lt (u := s) p0'
                    omega
                  · have := g p hsp (prev_lt p0')
                    rw [hv]; exact this)
              refine bt (nI_le (Nat.le_refl _) (by omega)) (b0 (fun e => ?_) (fun e => nxt false ⟨fun z => (by cases z), fun z => by rw [e] at z; cases z.1⟩))
              refine m_bits (by omega) (m_bits (by omega) ?_)
              rw [nI_ltI (by omega) (by omega)]
              exact ⟨fun q => nxt false ⟨fun z => (by cases z), fun z => by have := z.2; omega⟩, fun q => nxt true ⟨fun _ => ⟨e, by omega⟩, fun _ => rfl⟩⟩) (by
            intro k3 b hb
            show w_X10_readsPlaces_51 F (w_X10_readsPlaces_32 F 62 k') 62 (nI s) N2 (k3 + 1 + 1) (bI b) (nI 0)
            unfold w_X10_readsPlaces_51
            refine bt (nI_le (a := 0) (b := 0) (by decide) (by decide)) (fin b ?_)
            have : b = true ↔ B s = true := by
              rw [hb, hB]
              constructor
              · intro g p hp'
                by_cases z : p = 0
                · subst z
                  show bc 0 ≤ _
                  rw [bc_0]; exact Nat.zero_le _
                · exact g p hp' (by omega)
              · intro g q hq _
                exact g q hq
            cases b <;> cases e : B s
            · rfl
            · exact absurd (this.mpr e) (by decide)
            · rw [e] at this; exact absurd (this.mp rfl) (by decide)
            · rfl) s (sb_rf s)
        exact ⟨kf, hkf true ⟨fun _ q hq hlt => absurd (sb_le hq) (by omega), fun _ => rfl⟩⟩
      · intro k' N2 ⟨k2, t2⟩
        show w_X10_readsPlaces_32 F 62 (k' + 1) (nI (2 ^ n)) N2
        have k2' : kp (mrd r) M N2 := kp_tr k1 (kp_mono k2 (fun _ _ z => Or.inr (Or.inl z)))
        have i2 := im_mrd h k2'
        simp only [w_X10_readsPlaces_32, w_X10_readsPlaces_148, i2.2.2.2.1]
        refine bt (nI_lt (by omega) (by omega)) ?_
        rw [← eF]
        refine m_178_ok h h24 ?_ k2' ?_ (fun s hs => ?_) (fun M' hm => p1 s0 M' hm)
        · rw [hB]; exact fun p hp' => by
            have : p = 0 := by have := sb_le hp'; omega
            subst this
            show bc 0 ≤ _
            rw [bc_0]; exact Nat.zero_le _
        · rw [(k2.2.2 62 17 (by omega) (by unfold tb; omega)).1, m1.2.1]; exact s0
        · rw [t2 s hs, decide_eq_true hs]; rfl
    · refine ⟨1, ?_⟩
      show w_X10_readsPlaces_32 F 62 (0 + 1) (nI 0) N1
      have e17 := m1.2.1
      simp only [w_X10_readsPlaces_32, w_X10_readsPlaces_148, i1.2.2.2.1, e17]
      refine bf (nI_nlt (by omega) (by omega)) (bf' s0 ?_)
      rw [← eF]
      exact m_178_bad e17 s0 (p0 s0 N1 k1)
end
