/-! dealt: the model -/
theorem hp_nb {n k : Nat} {B : Nat → Bool} {g : Nat → Nat} {o e j : Nat} (h : hps n k B g o e) (he : e < n) (hj : j < k) : (g j).testBit e = false := by
  cases q : (g j).testBit e
  · rfl
  · have := and0.mp (h.1 j hj).2.2 e q
    rw [re_b he] at this
    cases this
theorem df_put {x e : Nat} (h : x.testBit e = false) : df (x ||| b1 e) (b1 e) = x := by
  apply Nat.eq_of_testBit_eq
  intro j
  rw [df_bit, Nat.testBit_or, b1_bit]
  by_cases q : e = j
  · subst q; rw [h]; simp
  · simp [q]
section
variable {n r : Nat} {w : Nat → Nat} {A : Nat → Nat → Bool} {c : Nat} {Q P : Nat → Nat}
theorem m_try {i : Nat} (hi : i < r) {k e j o : Nat} {g : Nat → Nat} (hk : k ≤ 12) (he : e < n) {N : pm_M} (hN : iv N n r w A c Q P) (hs : hps n k (A i) g o e) (hj : j < k) (hjo : j ≤ o) (hg : ∀ j, j < k → mI N 82 j = nI (g j)) {R9 : Nat → Int32 → Int32 → Int32 → pm_M → (Int32 → pm_M → Prop) → Prop} {Post : Int32 → pm_M → Prop} {k16 : Int32 → Int32 → pm_M → Prop} {s0 : Int32}
    (h0 : A i (g j ||| b1 e) = false → k16 s0 (nI (j + 1)) N)
    (h1 : A i (g j ||| b1 e) = true → ∀ N', kp (scr r) N N' → (∀ j', j' < k → mI N' 82 j' = nI (va_up g j (g j ||| b1 e) j')) → (∀ t, t < e → mI N' 81 t = mI N 81 t) → mI N' 81 e = nI j → R9 62 (nI i) (nI (e + 1)) (nI k) N' (fun r_14 M_13 => ((r_14 = 0 → (∃ q_16 : Nat, mR M_13 62 25 = some q_16 ∧ (vp_in (nI j) (mN M_13 q_16) ∧ (vp_in (nI j) (mN M_13 q_16) ∧ ∀ M_19 : pm_M, M_19 = sI M_13 q_16 j ((mI M_13 q_16 j) &&& (nI (b1 e) ^^^ (-1 : Int32))) → k16 s0 (nI (j + 1)) M_19)))) ∧ (¬ r_14 = 0 → Post (1 : Int32) M_13)))) : w_X10_deals_42 R9 Post k16 62 (nI i) (nI e) (nI k) (nI j) s0 N := by
  have hn := iv_n hN
  have hp := iv_p hN
  have sc81 : ∀ t, scr r 81 t := fun t => by unfold scr; omega
  have sc82 : ∀ t, scr r 82 t := fun t => by unfold scr; omega
  have vj : ∀ N', lay N' → vp_in (nI j) (mN N' 82) := fun N' hl => by rw [ln_82 hl]; exact vp_in_nI (by omega) (by decide)
  have k8 : kp (scr r) N (sI N 81 e (nI j)) := kp_sI (kp_rf _ _) (sc81 e)
  have l8 := (iv_kp hN k8).1
  have k12 : kp (scr r) N (sI (sI N 81 e (nI j)) 82 j (nI (g j ||| b1 e))) := kp_sI k8 (sc82 j)
  have e8 : mI (sI N 81 e (nI j)) 82 j = nI (g j) := by rw [mI_sI, if_neg (by omega)]; exact hg j hj
  unfold w_X10_deals_42
  refine ⟨82, lr_62_25 hN.1, vj N hN.1, ?_⟩
  simp only [w_X10_deals_113, forall_eq, nI_1, nI_clamp (show j < 2 ^ 31 by omega), nI_clamp (show e < 2 ^ 31 by omega), nI_b1 e (show e < 31 by omega)]
  rw [hg j hj, nI_or]
  refine m_all hN hi (or_lt (hs.1 j hj).1 (b1_lt he)) (b0 (fun ea => ?_) h0)
  refine ⟨81, lr_62_24 hN.1, by rw [ln_81 hN.1]; exact vp_in_nI (by omega) (by decide), 82, lr_62_25 l8, vj _ l8, vj _ l8, ?_⟩
  rw [e8, nI_or]
  refine (fun q => by simpa only [forall_eq] using q) (h1 ea (sI (sI N 81 e (nI j)) 82 j (nI (g j ||| b1 e))) k12 (fun j' hj' => ?_) (fun t ht => ?_) ?_)
  · rw [mI_sI]
    by_cases z : j' = j
    · subst z; rw [if_pos ⟨rfl, rfl⟩, up_s]
    · rw [if_neg (by omega), up_n _ _ z, mI_sI, if_neg (by omega)]; exact hg j' hj'
  · rw [mI_sI, if_neg (by omega), mI_sI, if_neg (by omega)]
  · rw [mI_sI, if_neg (by omega), mI_sI, if_pos ⟨rfl, rfl⟩]
/-- back again -/
theorem m_back {k e j o i : Nat} {g : Nat → Nat} (hk : k ≤ 12) (he : e < n) (hs : hps n k (A i) g o e) (hj : j < k) {N N' : pm_M} (hl : iv N' n r w A c Q P) (hg : ∀ j', j' < k → mI N' 82 j' = nI (va_up g j (g j ||| b1 e) j')) (kN : kp (scr r) N N') (ht : ∀ t, t < e → mI N' 81 t = mI N 81 t) {K : pm_M → Prop} (kk : ∀ N'', kp (scr r) N N'' → (∀ j, j < k → mI N'' 82 j = nI (g j)) → (∀ t, t < e → mI N'' 81 t = mI N 81 t) → K N'') : ∃ q_16 : Nat, mR N' 62 25 = some q_16 ∧ (vp_in (nI j) (mN N' q_16) ∧ (vp_in (nI j) (mN N' q_16) ∧ ∀ M_19 : pm_M, M_19 = sI N' q_16 j ((mI N' q_16 j) &&& (nI (b1 e) ^^^ (-1 : Int32))) → K M_19)) := by
  have sc82 : ∀ t, scr r 82 t := fun t => by unfold scr; omega
  have vj : vp_in (nI j) (mN N' 82) := by rw [ln_82 hl.1]; exact vp_in_nI (by omega) (by decide)
  refine ⟨82, lr_62_25 hl.1, vj, vj, fun M19 e19 => ?_⟩
  rw [hg j hj, up_s, nI_inv, df_put (hp_nb hs he hj)] at e19
  rw [e19]
  refine kk _ (kp_sI kN (sc82 j)) (fun j' hj' => ?_) (fun t h => ?_)
  · rw [mI_sI]
    by_cases z : j' = j
    · subst z; rw [if_pos ⟨rfl, rfl⟩]
    · rw [if_neg (by omega), hg j' hj', up_n _ _ z]
  · rw [mI_sI, if_neg (by omega)]; exact ht t h
theorem m_deals0 {i : Nat} (hi : i < r) {k : Nat} (hk : k ≤ 12) : ∀ (d e : Nat) (N : pm_M) (g : Nat → Nat) (o : Nat), iv N n r w A c Q P → n < e + d → e ≤ n → hps n k (A i) g o e → ¬ dc k (fun _ => A i) g (re n e) → (∀ j, j < k → mI N 82 j = nI (g j)) → ∀ Post : Int32 → pm_M → Prop, (∀ M', kp (scr r) N M' → (∀ j, j < k → mI M' 82 j = nI (g j)) → (∀ t, t < e → mI M' 81 t = mI N 81 t) → Post 0 M') → w_X10_deals d 62 (nI i) (nI e) (nI k) N Post := by
  intro d
  induction d with
  | zero => intro e N g o _ h1 h2; omega
  | succ d ih =>
    intro e N g o hN h1 h2 hs hd hg Post kk
    have hn := iv_n hN
    have hp := iv_p hN
    have hm := iv_mat hN hi
    have en : e < n := by
      by_cases q : e = n
      · subst q
        exfalso
        refine hd (fun p hp => ?_)
        rw [re_n] at hp
        have := sb_le hp
        have : p = 0 := by omega
        subst this
        rw [bc_0]; exact Nat.zero_le _
      · omega
    unfold w_X10_deals
    rw [hN.2.1.2.2.2.2.1]
    refine bf' (by rw [nI_eq (by omega) (by omega)]; omega) ?_
    have T : ∃ T, T ≤ k ∧ T ≤ o + 1 ∧ (T = k ∨ T = o + 1) := ⟨min k (o + 1), by omega, by omega, by omega⟩
    obtain ⟨T, T1, T2, T3⟩ := T
    have hok := hs.2.2.1
    refine ⟨_, lp (fun k' (s : pm_M × Int32) j => w_X10_deals_16 (w_X10_deals d) Post 62 (nI i) (nI e) (nI k) k' s.2 (nI j) s.1) T (fun j s => kp (scr r) N s.1 ∧ (∀ j, j < k → mI s.1 82 j = nI (g j)) ∧ (∀ t, t < e → mI s.1 81 t = mI N 81 t) ∧ (j ≤ o → s.2 = 0) ∧ (j = o + 1 → s.2 = 1)) ?_ ?_ 0 (N, 0) (Nat.zero_le _) ⟨kp_rf _ _, hg, fun _ _ => rfl, fun _ => rfl, fun q => absurd q (by omega)⟩⟩
    · rintro k' j ⟨N1, fl⟩ hj ⟨kN, hN1, ht1, f1, f2⟩ hk'
      have f1' : j ≤ o → fl = 0 := f1
      have kN' : kp (scr r) N N1 := kN
      have hN1' : ∀ j, j < k → mI N1 82 j = nI (g j) := hN1
      have ht1' : ∀ t, t < e → mI N1 81 t = mI N 81 t := ht1
      have i1 := iv_kp hN kN'
      show w_X10_deals_16 (w_X10_deals d) Post 62 (nI i) (nI e) (nI k) (k' + 1) fl (nI j) N1
      rw [f1' (by omega)]
      have next : ∀ N2 s0, kp (scr r) N1 N2 → (∀ j, j < k → mI N2 82 j = nI (g j)) → (∀ t, t < e → mI N2 81 t = mI N1 81 t) → (j + 1 ≤ o → s0 = 0) → (j + 1 = o + 1 → s0 = 1) → w_X10_deals_16 (w_X10_deals d) Post 62 (nI i) (nI e) (nI k) k' s0 (nI (j + 1)) N2 := fun N2 s0 a1 a2 a3 a4 a5 => hk' (N2, s0) ⟨kp_tr kN' a1, a2, fun t ht => (a3 t ht).trans (ht1' t ht), a4, a5⟩
      have try42 : ∀ s0 : Int32, (j + 1 ≤ o → s0 = 0) → (j + 1 = o + 1 → s0 = 1) → w_X10_deals_42 (w_X10_deals d) Post (w_X10_deals_16 (w_X10_deals d) Post 62 (nI i) (nI e) (nI k) k') 62 (nI i) (nI e) (nI k) (nI j) s0 N1 := by
        intro s0 a4 a5
        refine m_try hi hk en i1 hs (by omega) (by omega) hN1' (fun _ => next N1 s0 (kp_rf _ _) hN1' (fun _ _ => rfl) a4 a5) (fun ea N' kN2 hg' ht' _ => ?_)
        have hs' := hps_put hs en (show j < k by omega) (by omega) ea
        refine ih (e + 1) N' _ _ (iv_kp i1 kN2) (by omega) (by omega) hs' (fun q => ?_) hg' _ (fun M' kM hgM htM => bt rfl ?_)
        · refine hd (dc_back (by omega) (fun _ _ => hm) hs.1 (re_lt n e) (re_b en) (show j < k by omega) ea ?_)
          rw [re_s]; exact q
        · exact m_back hk en hs (by omega) (iv_kp (iv_kp i1 kN2) kM) hgM (kp_tr kN2 kM) (fun t ht => (htM t (by omega)).trans (ht' t ht)) (fun N2 b1 b2 b3 => next N2 s0 b1 b2 b3 a4 a5)
      simp only [w_X10_deals_16, w_X10_deals_119]
      refine bf (nI_ge (by omega) (by omega)) ⟨fun q => absurd trivial q, fun _ => ⟨82, lr_62_25 i1.1, by rw [ln_82 i1.1]; exact vp_in_nI (by omega) (by decide), ?_⟩⟩
      rw [nI_clamp (by omega), hN1' j (by omega)]
      have gl := (hs.1 j (by omega)).1
      refine ⟨fun q => try42 0 (fun _ => rfl) (fun q2 => ?_), fun q => try42 1 (fun q2 => ?_) (fun _ => rfl)⟩
      · exact absurd (by rw [hs.2.2.2.1 j (by omega)]; rfl) q
      · rw [nI_z (by omega)] at q
        exact absurd q (hs.2.2.2.2 j (by omega))
    · rintro k' ⟨N1, fl⟩ ⟨kN, hN1, ht1, f1, f2⟩
      have f2' : T = o + 1 → fl = 1 := f2
      have f1' : T ≤ o → fl = 0 := f1
      show w_X10_deals_16 (w_X10_deals d) Post 62 (nI i) (nI e) (nI k) (k' + 1) fl (nI T) N1
      simp only [w_X10_deals_16, w_X10_deals_119]
      by_cases q : T = k
      · rw [q]
        exact bt (nI_le (Nat.le_refl _) (by omega)) (kk N1 kN hN1 ht1)
      · rw [f2' (by omega)]
        exact bf (nI_ge (by omega) (by omega)) (bf' one0 (kk N1 kN hN1 ht1))
theorem m_deals1 {i : Nat} (hi : i < r) {k : Nat} (hk : k ≤ 12) {f : Nat → (Nat → Nat) × Nat × Nat} (hf : ∀ e, e ≤ n → (hps n k (A i) (f e).1 (f e).2.1 e ∧ dc k (fun _ => A i) (f e).1 (re n e)) ∧ (e < n → dst n k (A i) e (f e) (f (e + 1)))) : ∀ (d e : Nat) (N : pm_M), iv N n r w A c Q P → n < e + d → e ≤ n → (∀ j, j < k → mI N 82 j = nI ((f e).1 j)) → ∀ Post : Int32 → pm_M → Prop, (∀ M', kp (scr r) N M' → (∀ t, e ≤ t → t < n → mI M' 81 t = nI (f (t + 1)).2.2) → (∀ t, t < e → mI M' 81 t = mI N 81 t) → Post 1 M') → w_X10_deals d 62 (nI i) (nI e) (nI k) N Post := by
  intro d
  induction d with
  | zero => intro e N _ h1 h2; omega
  | succ d ih =>
    intro e N hN h1 h2 hg Post kk
    have hn := iv_n hN
    have hp := iv_p hN
    unfold w_X10_deals
    rw [hN.2.1.2.2.2.2.1]
    by_cases en : e = n
    · subst en
      exact bt' rfl (kk N (kp_rf _ _) (fun t a b => absurd a (by omega)) (fun _ _ => rfl))
    refine bf' (by rw [nI_eq (by omega) (by omega)]; exact en) ?_
    obtain ⟨⟨hs, hd⟩, hst⟩ := hf e (by omega)
    obtain ⟨d1, d2, d3, d4, d5, d6⟩ := hst (by omega)
    have hok := hs.2.2.1
    refine ⟨_, lp (fun k' (s : pm_M) j => w_X10_deals_16 (w_X10_deals d) Post 62 (nI i) (nI e) (nI k) k' 0 (nI j) s) (f (e + 1)).2.2 (fun j s => kp (scr r) N s ∧ (∀ j, j < k → mI s 82 j = nI ((f e).1 j)) ∧ (∀ t, t < e → mI s 81 t = mI N 81 t)) ?_ ?_ 0 N (Nat.zero_le _) ⟨kp_rf _ _, hg, fun _ _ => rfl⟩⟩
    · intro k' j N1 hj ⟨kN, hN1, ht1⟩ hk'
      have i1 := iv_kp hN kN
      show w_X10_deals_16 (w_X10_deals d) Post 62 (nI i) (nI e) (nI k) (k' + 1) 0 (nI j) N1
      have next : ∀ N2, kp (scr r) N1 N2 → (∀ j, j < k → mI N2 82 j = nI ((f e).1 j)) → (∀ t, t < e → mI N2 81 t = mI N1 81 t) → w_X10_deals_16 (w_X10_deals d) Post 62 (nI i) (nI e) (nI k) k' 0 (nI (j + 1)) N2 := fun N2 a1 a2 a3 => hk' N2 ⟨kp_tr kN a1, a2, fun t ht => (a3 t ht).trans (ht1 t ht)⟩
      have gl := (hs.1 j (by omega)).1
      have gz := hs.2.2.2.2 j (by omega)
      simp only [w_X10_deals_16, w_X10_deals_119]
      refine bf (nI_ge (by omega) (by omega)) ⟨fun q => absurd trivial q, fun _ => ⟨82, lr_62_25 i1.1, by rw [ln_82 i1.1]; exact vp_in_nI (by omega) (by decide), ?_⟩⟩
      rw [nI_clamp (by omega), hN1 j (by omega)]
      refine bf' (by rw [nI_z (by omega)]; exact gz) ?_
      refine m_try hi hk (by omega) i1 hs (by omega) (by omega) hN1 (fun _ => next N1 (kp_rf _ _) hN1 (fun _ _ => rfl)) (fun ea N' kN2 hg' ht' _ => ?_)
      have hs' := hps_put hs (show e < n by omega) (show j < k by omega) (by omega) ea
      refine m_deals0 hi hk d (e + 1) N' _ _ (iv_kp i1 kN2) (by omega) (by omega) hs' (fun q => d6 j hj ⟨ea, q⟩) hg' _ (fun M' kM hgM htM => bt rfl ?_)
      exact m_back hk (show e < n by omega) hs (by omega) (iv_kp (iv_kp i1 kN2) kM) hgM (kp_tr kN2 kM) (fun t ht => (htM t (by omega)).trans (ht' t ht)) (fun N2 b1 b2 b3 => next N2 b1 b2 b3)
    · intro k' N1 ⟨kN, hN1, ht1⟩
      have i1 := iv_kp hN kN
      show w_X10_deals_16 (w_X10_deals d) Post 62 (nI i) (nI e) (nI k) (k' + 1) 0 (nI (f (e + 1)).2.2) N1
      have all42 : ∀ s0 : Int32, w_X10_deals_42 (w_X10_deals d) Post (w_X10_deals_16 (w_X10_deals d) Post 62 (nI i) (nI e) (nI k) k') 62 (nI i) (nI e) (nI k) (nI (f (e + 1)).2.2) s0 N1 := by
        intro s0
        refine m_try hi hk (by omega) i1 hs d1 d2 hN1 (fun q => by rw [d3.1] at q; cases q) (fun ea N' kN2 hg' ht' hte => ?_)
        refine ih (e + 1) N' (iv_kp i1 kN2) (by omega) (by omega) (fun j hj => by rw [d4]; exact hg' j hj) _ (fun M' kM hJ htM => bf one0 (kk M' (kp_tr kN (kp_tr kN2 kM)) (fun t a b => ?_) (fun t ht => ?_)))
        · by_cases z : t = e
          · subst z; rw [htM t (by omega), hte]
          · exact hJ t (by omega) b
        · rw [htM t (by omega), ht' t ht, ht1 t ht]
      simp only [w_X10_deals_16, w_X10_deals_119]
      refine bf (nI_ge (by omega) (by omega)) ⟨fun q => absurd trivial q, fun _ => ⟨82, lr_62_25 i1.1, by rw [ln_82 i1.1]; exact vp_in_nI (by omega) (by decide), fun _ => all42 _, fun _ => all42 _⟩⟩
end
section
variable {M : pm_M} {n r : Nat} {w : Nat → Nat} {A : Nat → Nat → Bool} {c : Nat} {Q P : Nat → Nat}
theorem q_dealt (h : iv M n r w A c Q P) (x y : Int32) : ∀ K : Int32 → Int32 → pm_M → Prop, (∀ v M', kp (scr r) M M' → K v v M') → w_X9_dealt 0 x y M (fun a M1 => w_X10_dealt 62 x y M1 (fun b M' => K a b M')) := by
  intro K k
  have hn := iv_n h
  have hp := iv_p h
  have h0 := Nat.two_pow_pos n
  rcases ru_cases h x with hx | ⟨i, hi, rfl⟩
  · unfold w_X9_dealt w_X9_dealt_18 w_X10_dealt w_X10_undealt w_X10_dealt_19
    exact c_ruleAt0 h hx (on (m_isRule0 h hx (bt' rfl (bt rfl (k _ _ (kp_rf _ _))))))
  · unfold w_X9_dealt
    rw [h.2.1.2.1]
    rcases th_cases h y with hy | ⟨t, ht, rfl⟩
    · unfold w_X9_dealt_18 w_X10_dealt w_X10_dealt_19
      refine c_ruleAt h hi (os (c_isThing0 h hy (bt' rfl ?_)))
      rcases al_dec h i with ha | ⟨j, hj, ha, hb⟩
      · exact m_undealt h hi ha (bf (by decide) (m_isThing0 h hy (bt' rfl (k _ _ (kp_rf _ _)))))
      · exact m_undealt0 h hi hj ha hb (bf (by decide) (m_isThing0 h hy (bt' rfl (k _ _ (kp_rf _ _)))))
    · rcases al_dec h i with ha | ⟨j, hj, ha, hb⟩
      · have hm := iv_mat h hi
        have f1 : ∃ m, fwi (A i) (2 ^ n - 1) m ∧ m ≤ 12 := by
          have : w_X10_fewestOf 62 (nI i) M (fun _ _ => ∃ m, fwi (A i) (2 ^ n - 1) m ∧ m ≤ 12) → ∃ m, fwi (A i) (2 ^ n - 1) m ∧ m ≤ 12 := fun _ => by
            have : cv (A i) 12 (2 ^ n - 1) := by
              rw [cv_iff (by omega) hm (by omega)]
              intro p hp2
              by_cases e : p = 0
              · subst e; rw [bc_0]; exact Nat.zero_le _
              · have hpn : p < 2 ^ n := sb_lt hp2 (by omega)
                rw [← hnd_le (by omega) ha hpn e]
                exact hnd_sm (by omega) ha hpn e
            obtain ⟨m, m1, m2, m3⟩ := least_ex (T := fun k => cv (A i) k (2 ^ n - 1)) 12 this
            exact ⟨m, ⟨m1, fun k' hk' => m3 k' hk'⟩, m2⟩
          exact this (m_fewestOf h hi ha (fun m M' a b _ => ⟨m, a, b⟩))
        obtain ⟨m, fm, m12⟩ := f1
        have hd : dc m (fun _ => A i) (fun _ => 0) (2 ^ n - 1) := dc_const.mpr ((cv_iff (by omega) hm (by omega)).mp fm.1)
        obtain ⟨f, f0, hf⟩ := dealx (by omega) hm hd
        refine c_ruleAt h hi (os (c_isThing h ht (bf' one0 (c_alone h hi ha (bf one0 (c_number h hi ha m12 f0 hf fm ht (fun M' hk => ?_)))))))
        have h1 := iv_kp h hk
        unfold w_X9_dealt_42 w_X10_dealt
        refine m_undealt h1 hi ha (bf (by decide) (m_isThing h1 ht (bf' one0 (bt rfl (m_fewestOf h1 hi ha (fun m' M2 hf2 hm2 hk2 => ?_))))))
        rw [fwi_u hf2 fm]
        have h2 := iv_kp h1 hk2
        have sc82 : ∀ t, scr r 82 t := fun t => by unfold scr; omega
        refine ⟨_, lp (fun k' (N : pm_M) j => w_X10_dealt_37 (fun b M' => K (nI (f (t + 1)).2.2) b M') 62 (nI i) (nI t) (nI m) k' (nI j) N) 12 (fun j N => kp (scr r) M2 N ∧ ∀ j', j' < j → mI N 82 j' = 0) ?_ ?_ 0 M2 (Nat.zero_le _) ⟨kp_rf _ _, fun j hj => absurd hj (Nat.not_lt_zero j)⟩⟩
        · intro k' j N hj ⟨kN, hN⟩ hk'
          show w_X10_dealt_37 (fun b M' => K (nI (f (t + 1)).2.2) b M') 62 (nI i) (nI t) (nI m) (k' + 1) (nI j) N
          have iN := iv_kp h2 kN
          simp only [w_X10_dealt_37, forall_eq, nI_1]
          refine bf (nI_ge (a := j) (b := 12) hj (by decide)) ⟨82, lr_62_25 iN.1, by rw [ln_82 iN.1]; exact vp_in_nI (by omega) (by decide), ?_⟩
          rw [nI_clamp (by omega)]
          refine hk' _ ⟨kp_sI kN (sc82 j), fun j' hj' => ?_⟩
          rw [mI_sI]
          by_cases z : j' = j
          · subst z; rw [if_pos ⟨rfl, rfl⟩]
          · rw [if_neg (by omega)]; exact hN j' (by omega)
        · intro k' N ⟨kN, hN⟩
          show w_X10_dealt_37 (fun b M' => K (nI (f (t + 1)).2.2) b M') 62 (nI i) (nI t) (nI m) (k' + 1) (nI 12) N
          have iN := iv_kp h2 kN
          simp only [w_X10_dealt_37]
          refine bt (nI_le (a := 12) (b := 12) (by decide) (by decide)) (m_deals1 hi m12 hf 14 0 N iN (by omega) (Nat.zero_le _) (fun j hj => ?_) _ (fun M' kM hJ _ => bf one0 ?_))
          · rw [f0, hN j (by omega)]; rfl
          · have iM := iv_kp iN kM
            refine ⟨81, lr_62_24 iM.1, by rw [ln_81 iM.1]; exact vp_in_nI (by omega) (by decide), ?_⟩
            rw [nI_clamp (by omega), hJ t (Nat.zero_le _) ht]
            exact k _ _ (kp_tr hk (kp_tr hk2 (kp_tr kN kM)))
      · refine c_ruleAt h hi (os (c_isThing h ht (bf' one0 (c_alone0 h hi hj ha hb (bt rfl ?_)))))
        unfold w_X9_dealt_42 w_X10_dealt
        exact m_undealt0 h hi hj ha hb (bf (by decide) (m_isThing h ht (bf' one0 (bf (by decide) (k _ _ (kp_rf _ _))))))
end
