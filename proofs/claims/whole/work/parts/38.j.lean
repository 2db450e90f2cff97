/-! less, take, turn, join -/
section
variable {M : pm_M} {n r : Nat} {A : Nat → Nat → Bool}
theorem m_ref {i t d : Nat} (h : im M n r A) (hi : i < r) (ht : t < 2 ^ n) (ed : mI M 69 i = nI d) (hd : d ≤ 3) {Post : Int32 → Prop} (p8 : r = 24 → Post (-8)) (p3 : r < 24 → d = 3 → Post (-3)) (p0 : r < 24 → d < 3 → Post 0) : w_X10_refused 62 (nI i) (nI t) M Post := by
  have hn := h.2.1
  unfold w_X10_refused w_X10_refused_16 w_X10_refused_47
  refine mm_isRule h hi (bf one0 (mm_isSet h ht (bf' one0 ?_)))
  rw [h.2.2.2.2.1]
  have e24 : nI r = 24 ↔ r = 24 := nI_eq (b := 24) (by omega) (by decide)
  rw [e24]
  by_cases q : r = 24
  · exact bt' q (p8 q)
  · refine bf' q ⟨69, lr_62_9 h.1, by rw [ln_69 h.1]; exact vp_in_nI (by omega) (by decide), ?_⟩
    rw [nI_clamp (by omega), ed]
    have e3 : nI d = 3 ↔ d = 3 := nI_eq (b := 3) (by omega) (by decide)
    rw [e3]
    by_cases z : d = 3
    · exact bt' z (p3 (by omega) z)
    · exact bf' z (p0 (by omega) (by omega))
end
section
variable {M : pm_M} {n r : Nat} {w : Nat → Nat} {A : Nat → Nat → Bool} {c : Nat} {Q P : Nat → Nat}
theorem m_ref0 {x y : Int32} (h : iv M n r w A c Q P) (hb : (x < 0 ∨ nI r ≤ x) ∨ (y < 0 ∨ nI (2 ^ n - 1) < y)) {Post : Int32 → Prop} (k : Post (-2)) : w_X10_refused 62 x y M Post := by
  have hn := iv_n h
  unfold w_X10_refused w_X10_refused_16
  rcases ru_cases h x with hx | ⟨i, hi, rfl⟩
  · exact m_isRule0 h hx (bt rfl k)
  · refine m_isRule h hi (bf one0 (m_isSet0 h ?_ (bt' rfl k)))
    rcases hb with hb | hb
    · rcases hb with hb | hb
      · exact absurd hb (nI_pos (by omega))
      · exact absurd hb (nI_ge hi (by omega))
    · exact hb
theorem cad_69 {M0 M1 : pm_M} {B : Nat → Bool} {kd f s d : Int32} (hl : lay M) (k0 : kp (scr r) M M0) (hc : cad M0 M1 n r c Q P B kd f s d) (i : Nat) : mI M1 69 i = mI M 69 i := by
  obtain ⟨q, p0, p, kC, hne, hp0, c2, c4, hq, hr⟩ := hc
  have z := hl.1
  have z0 := k0.1
  rw [(kC.2.2 69 i (by omega) (by unfold cap ft; omega)).1, (k0.2.2 69 i (by omega) (by unfold scr; omega)).1]
theorem q_der1 {kd i t : Nat} (h : iv M n r w A c Q P) (hi : i < r) (ht : t < 2 ^ n) (hkd : kd < 10) (h7 : 7 ≤ kd) (hm : mat n (x2v kd n (A i) (A i) t)) (L : (Int32 → pm_M → Prop) → pm_M → Prop) (hL : ∀ M1 d, im M1 n r A → r < 24 → mI M1 69 i = nI d → ∀ Post : Int32 → pm_M → Prop, (∀ M', mpo M1 M' n r (x2v kd n (A i) (A i) t) (nI kd) (nI i) (-1) (nI (d + 1)) → Post (nI r) M') → L Post M1) {K : Int32 → Int32 → pm_M → Prop} (k : ∀ v M', IV M' → K v v M') : w_X9_addDerived 0 (nI kd) (nI i) (nI i) (nI t) M (fun a M1 => w_X10_refused 62 (nI i) (nI t) M1 (fun r_1 => ((r_1 = 0 → L (fun b M' => K a b M') M1) ∧ (¬ r_1 = 0 → K a r_1 M1)))) := by
  have k0 : ∀ v, K v v M := fun v => k v M ⟨_, _, _, _, _, _, _, h⟩
  obtain ⟨d, d1, d3, ed⟩ := (h.2.2.2.2.2.2.2 i hi).2.2.2.2.2.2.2
  refine c_der h hi hi (by omega) h7 ht ed ed d3 d3 hm (fun _ _ _ _ => rfl) (fun r8 => ?_) (fun r8 dd => ?_) (fun M0 M1 r24 dd _ h0 kM0 hc => ?_)
  · exact m_ref (im_iv h) hi ht ed d3 (fun _ => bf (by decide) (k0 _)) (fun q _ => by omega) (fun q _ => by omega)
  · exact m_ref (im_iv h) hi ht ed d3 (fun q => by omega) (fun _ _ => bf (by decide) (k0 _)) (fun _ q => by omega)
  · have i1 := im_cad h0 hc
    have e1 := (cad_69 h.1 kM0 hc i).trans ed
    refine m_ref i1 hi ht e1 d3 (fun q => by omega) (fun _ q => by omega) (fun _ _ => bt rfl (hL M1 d i1 r24 e1 _ (fun M2 h2 => ?_)))
    rw [Nat.max_self, if_neg (by omega)] at hc
    exact k _ _ (iv_mpo h0 r24 hm hc ⟨by omega, by omega⟩ h2)
theorem x2_7 {i t : Nat} (h : iv M n r w A c Q P) (hi : i < r) : mat n (x2v 7 n (A i) (A i) t) := by
  have hn := iv_n h
  have hm := iv_mat h hi
  refine mat_less (t := t) (by omega) hm (fun s hs => ?_)
  unfold x2v
  rw [if_pos rfl, Bool.and_eq_true, decide_eq_true_iff, decide_eq_true_iff, rk_iff (by omega) hm.1 hs]
theorem x2_8 {i t : Nat} (h : iv M n r w A c Q P) (hi : i < r) (ht : t < 2 ^ n) : mat n (x2v 8 n (A i) (A i) t) := by
  have hn := iv_n h
  have hm := iv_mat h hi
  refine mat_take (t := t) (by omega) hm ht (fun s hs => ?_)
  unfold x2v
  rw [if_neg (by decide), if_pos rfl, Bool.and_eq_true, decide_eq_true_iff, decide_eq_true_iff]
theorem x2_9 {i : Nat} (h : iv M n r w A c Q P) (hi : i < r) : mat n (x2v 9 n (A i) (A i) 0) := by
  have hn := iv_n h
  have hm := iv_mat h hi
  refine mat_turn (by omega) hm rfl (fun s hs => ?_)
  unfold x2v
  rw [if_neg (by decide), if_neg (by decide), if_pos rfl, decide_eq_true_iff]
theorem q_less (h : iv M n r w A c Q P) (x y : Int32) : ∀ K : Int32 → Int32 → pm_M → Prop, (∀ v M', IV M' → K v v M') → w_X9_less 0 x y M (fun a M1 => w_X10_less 62 x y M1 (fun b M' => K a b M')) := by
  intro K k
  have k0 : ∀ v, K v v M := fun v => k v M ⟨_, _, _, _, _, _, _, h⟩
  show w_X9_addDerived 0 (nI 7) x x y M (fun a M1 => w_X10_less 62 x y M1 (fun b M' => K a b M'))
  unfold w_X10_less
  rcases ru_cases h x with hx | ⟨i, hi, rfl⟩
  · exact c_der0 h (Or.inl hx) (m_ref0 h (Or.inl hx) (bf (by decide) (k0 _)))
  rcases se_cases h y with hy | ⟨t, ht, rfl⟩
  · exact c_der0 h (Or.inr (Or.inr hy)) (m_ref0 h (Or.inr hy) (bf (by decide) (k0 _)))
  have hm := x2_7 (t := t) h hi
  exact q_der1 h hi ht (by decide) (by decide) hm (fun Post M1 => ∃ n_5 : Nat, w_X10_less_16 Post 62 (nI i) (nI t) n_5 0 M1) (fun M1 d i1 r24 e1 Post kk => m_less i1 r24 hi ht e1 hm.1 kk) k
theorem q_take (h : iv M n r w A c Q P) (x y : Int32) : ∀ K : Int32 → Int32 → pm_M → Prop, (∀ v M', IV M' → K v v M') → w_X9_take 0 x y M (fun a M1 => w_X10_take 62 x y M1 (fun b M' => K a b M')) := by
  intro K k
  have k0 : ∀ v, K v v M := fun v => k v M ⟨_, _, _, _, _, _, _, h⟩
  show w_X9_addDerived 0 (nI 8) x x y M (fun a M1 => w_X10_take 62 x y M1 (fun b M' => K a b M'))
  unfold w_X10_take
  rcases ru_cases h x with hx | ⟨i, hi, rfl⟩
  · exact c_der0 h (Or.inl hx) (m_ref0 h (Or.inl hx) (bf (by decide) (k0 _)))
  rcases se_cases h y with hy | ⟨t, ht, rfl⟩
  · exact c_der0 h (Or.inr (Or.inr hy)) (m_ref0 h (Or.inr hy) (bf (by decide) (k0 _)))
  have hm := x2_8 (t := t) h hi ht
  exact q_der1 h hi ht (by decide) (by decide) hm (fun Post M1 => ∃ n_5 : Nat, w_X10_take_16 Post 62 (nI i) (nI t) n_5 0 M1) (fun M1 d i1 r24 e1 Post kk => m_take i1 r24 hi ht e1 hm.1 kk) k
theorem q_turn (h : iv M n r w A c Q P) (x : Int32) : ∀ K : Int32 → Int32 → pm_M → Prop, (∀ v M', IV M' → K v v M') → w_X9_turn 0 x M (fun a M1 => w_X10_turn 62 x M1 (fun b M' => K a b M')) := by
  intro K k
  have k0 : ∀ v, K v v M := fun v => k v M ⟨_, _, _, _, _, _, _, h⟩
  show w_X9_addDerived 0 (nI 9) x x (nI 0) M (fun a M1 => w_X10_turn 62 x M1 (fun b M' => K a b M'))
  unfold w_X10_turn
  rcases ru_cases h x with hx | ⟨i, hi, rfl⟩
  · exact c_der0 h (Or.inl hx) (m_ref0 h (Or.inl hx) (bf (by decide) (k0 _)))
  have hm := x2_9 h hi
  exact q_der1 h hi (Nat.two_pow_pos n) (by decide) (by decide) hm (fun Post M1 => ∃ n_5 : Nat, w_X10_turn_15 Post 62 (nI i) n_5 0 M1) (fun M1 d i1 r24 e1 Post kk => m_turn i1 r24 hi e1 hm.1 kk) k
theorem q_join (h : iv M n r w A c Q P) (x y : Int32) : ∀ K : Int32 → Int32 → pm_M → Prop, (∀ v M', IV M' → K v v M') → w_X9_join 0 x y M (fun a M1 => w_X10_join 62 x y M1 (fun b M' => K a b M')) := by
  intro K k
  have hn := iv_n h
  have k0 : ∀ v, K v v M := fun v => k v M ⟨_, _, _, _, _, _, _, h⟩
  show w_X9_addDerived 0 (nI 10) x y (nI 0) M (fun a M1 => w_X10_join 62 x y M1 (fun b M' => K a b M'))
  unfold w_X10_join w_X10_join_16 w_X10_join_51
  rcases ru_cases h x with hx | ⟨i, hi, rfl⟩
  · exact c_der0 h (Or.inl hx) (m_isRule0 h hx (bt rfl (k0 _)))
  rcases ru_cases h y with hy | ⟨j, hj, rfl⟩
  · exact c_der0 h (Or.inr (Or.inl hy)) (m_isRule h hi (bf one0 (m_isRule0 h hy (bt' rfl (k0 _)))))
  obtain ⟨B, hB⟩ : ∃ B : Nat → Bool, ∀ s, (B s = true ↔ jn (A i) (A j) s) := ⟨fun s => @decide _ (Classical.propDecidable (jn (A i) (A j) s)), fun s => @decide_eq_true_iff _ (Classical.propDecidable (jn (A i) (A j) s))⟩
  have hmi := iv_mat h hi
  have hmj := iv_mat h hj
  have hm : mat n B := mat_join (by omega) hmi hmj (fun s _ => hB s)
  obtain ⟨di, di1, di3, edi⟩ := (h.2.2.2.2.2.2.2 i hi).2.2.2.2.2.2.2
  obtain ⟨dj, dj1, dj3, edj⟩ := (h.2.2.2.2.2.2.2 j hj).2.2.2.2.2.2.2
  have mr : ∀ M1, im M1 n r A → mI M1 69 i = nI di → mI M1 69 j = nI dj → ∀ Post : Int32 → pm_M → Prop, ∀ Z : Prop, (r = 24 → Post (-8) M1) → (r < 24 → (di = 3 ∨ dj = 3) → Post (-3) M1) → (r < 24 → di < 3 → dj < 3 → Z) → w_X10_isRule 62 (nI i) M1 (fun r_1 => ((r_1 = 0 → Post (-2) M1) ∧ (¬ r_1 = 0 → w_X10_isRule 62 (nI j) M1 (fun r_3 => ((¬ r_3 = 0 → ((¬ (mI M1 62 3) = (24 : Int32) → (∃ q_6 : Nat, mR M1 62 9 = some q_6 ∧ (vp_in (nI i) (mN M1 q_6) ∧ (((mI M1 q_6 (nI i).toNatClampNeg) = (3 : Int32) → Post (-3) M1) ∧ (¬ (mI M1 q_6 (nI i).toNatClampNeg) = (3 : Int32) → (vp_in (nI j) (mN M1 q_6) ∧ ((¬ (mI M1 q_6 (nI j).toNatClampNeg) = (3 : Int32) → Z) ∧ ((mI M1 q_6 (nI j).toNatClampNeg) = (3 : Int32) → Post (-3) M1)))))))) ∧ ((mI M1 62 3) = (24 : Int32) → Post (-8) M1))) ∧ (r_3 = 0 → Post (-2) M1)))))) := by
    intro M1 i1 e1 e2 Post Z p8 p3 pz
    refine mm_isRule i1 hi (bf one0 (mm_isRule i1 hj (bf' one0 ?_)))
    have e24 : nI r = 24 ↔ r = 24 := nI_eq (b := 24) (by omega) (by decide)
    have ei3 : nI di = 3 ↔ di = 3 := nI_eq (b := 3) (by omega) (by decide)
    have ej3 : nI dj = 3 ↔ dj = 3 := nI_eq (b := 3) (by omega) (by decide)
    rw [i1.2.2.2.2.1, e24]
    by_cases q : r = 24
    · exact bt' q (p8 q)
    · refine bf' q ⟨69, lr_62_9 i1.1, by rw [ln_69 i1.1]; exact vp_in_nI (by omega) (by decide), ?_⟩
      rw [nI_clamp (by omega), nI_clamp (by omega), e1, e2, ei3, ej3]
      by_cases zi : di = 3
      · exact bt zi (p3 (by omega) (Or.inl zi))
      · refine bf zi ⟨by rw [ln_69 i1.1]; exact vp_in_nI (by omega) (by decide), ?_⟩
        by_cases zj : dj = 3
        · exact bt' zj (p3 (by omega) (Or.inr zj))
        · exact bf' zj (pz (by omega) (by omega) (by omega))
  refine c_der (B := B) h hi hj (by decide) (by decide) (Nat.two_pow_pos n) edi edj di3 dj3 hm (fun s s1 hs pt => ?_) (fun r8 => ?_) (fun r8 dd => ?_) (fun M0 M1 r24 d1 d2 h0 kM0 hc => ?_)
  · have e : x2v 10 n (A i) (A j) 0 s = decide (bc s ≤ rk (A i) s + rk (A j) s) := by
      unfold x2v
      rw [if_neg (by decide), if_neg (by decide), if_neg (by decide)]
    rw [e]
    cases b : B s with
    | true =>
      have := (jn_iff (by omega) hmi hmj hs).mp ((hB s).mp b)
      exact decide_eq_true (this s (sb_rf s))
    | false =>
      refine decide_eq_false (fun q => ?_)
      have : B s = true := by
        rw [hB, jn_iff (by omega) hmi hmj hs]
        intro p hp
        by_cases z : p = s
        · subst z; exact q
        · have : ∃ t, s.testBit t = true ∧ p.testBit t = false := by
            apply Classical.byContradiction
            intro qq
            refine z (sb_as hp (fun t ht => ?_))
            cases y : p.testBit t
            · exact absurd ⟨t, ht, y⟩ qq
            · rfl
          obtain ⟨t, t1, t2⟩ := this
          have g := (jn_iff (by omega) hmi hmj (Nat.lt_trans (df_lt t1) hs)).mp ((hB _).mp (pt t t1))
          refine g p (fun u hu => ?_)
          rw [df_bit, hp u hu, b1_bit]
          have : t ≠ u := fun y => by subst y; rw [t2] at hu; cases hu
          simp [this]
      rw [this] at b; cases b
  · exact mr M (im_iv h) edi edj (fun b M' => K (-8) b M') _ (fun _ => k0 _) (fun q _ => by omega) (fun q _ _ => by omega)
  · exact mr M (im_iv h) edi edj (fun b M' => K (-3) b M') _ (fun q => by omega) (fun _ _ => k0 _) (fun _ q1 q2 => by omega)
  · have i1 := im_cad h0 hc
    have e1 := (cad_69 h.1 kM0 hc i).trans edi
    have e2 := (cad_69 h.1 kM0 hc j).trans edj
    rw [if_pos rfl] at hc
    refine mr M1 i1 e1 e2 (fun b M' => K (nI r) b M') _ (fun q => by omega) (fun _ q => by omega) (fun _ _ _ => m_join i1 r24 hi hj e1 e2 di3 dj3 hB (fun M2 h2 => ?_))
    exact k _ _ (iv_mpo h0 r24 hm hc ⟨by omega, by omega⟩ h2)
end
