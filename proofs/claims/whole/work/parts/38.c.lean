/-! copy, fresh -/
section
variable {M : pm_M} {n r : Nat} {w : Nat → Nat} {A : Nat → Nat → Bool} {c : Nat} {Q P : Nat → Nat}
theorem m_strs {s1 s2 : Nat} (h1 : s1 ≤ 200) (h2 : s2 ≤ 200) {x y z : Int32} {P6 Pk V1 V2 : Prop} (v1 : V1) (v2 : V2) (p6 : (¬ ∃ i l : Nat, x = nI i ∧ z = nI l ∧ i + l ≤ s1) ∨ (¬ ∃ i l : Nat, y = nI i ∧ z = nI l ∧ i + l ≤ s2) → P6) (pk : ∀ i j l : Nat, x = nI i → y = nI j → z = nI l → i + l ≤ s1 → j + l ≤ s2 → Pk) : (x < 0 → P6) ∧ (¬ x < 0 → ((y < 0 → P6) ∧ (¬ y < 0 → ((z < 0 → P6) ∧ (¬ z < 0 → (V1 ∧ ((0 < (lg_cmp (x.toInt64 + z.toInt64) ((nI (s1 + 1) - (1 : Int32)).toInt64)) → P6) ∧ (¬ 0 < (lg_cmp (x.toInt64 + z.toInt64) ((nI (s1 + 1) - (1 : Int32)).toInt64)) → (V2 ∧ (((lg_cmp (y.toInt64 + z.toInt64) ((nI (s2 + 1) - (1 : Int32)).toInt64)) ≤ 0 → Pk) ∧ (¬ (lg_cmp (y.toInt64 + z.toInt64) ((nI (s2 + 1) - (1 : Int32)).toInt64)) ≤ 0 → P6))))))))))) := by
  have neg : ∀ {x : Int32} {i : Nat}, x < 0 → x = nI i → i ≤ 200 → False := fun a b c => nI_pos (by omega) (b ▸ a)
  refine ⟨fun x0 => p6 (Or.inl (fun ⟨i, l, e1, _, e3⟩ => neg x0 e1 (by omega))), fun x0 => ⟨fun y0 => p6 (Or.inr (fun ⟨i, l, e1, _, e3⟩ => neg y0 e1 (by omega))), fun y0 => ⟨fun z0 => p6 (Or.inr (fun ⟨i, l, _, e2, e3⟩ => neg z0 e2 (by omega))), fun z0 => ⟨v1, ?_⟩⟩⟩⟩
  obtain ⟨i, hi, rfl⟩ := nI_of x0
  obtain ⟨j, hj, rfl⟩ := nI_of y0
  obtain ⟨l, hl, rfl⟩ := nI_of z0
  rw [nI_l hi, nI_l hl, nI_l hj, nI_pred, nI_pred, nI_l (by omega), nI_l (by omega), lN_add, lN_add, lg_cmp_gt, lg_cmp_le, lL_lt (by omega) (by omega), lL_le (by omega) (by omega)]
  refine ⟨fun q => p6 (Or.inl ?_), fun q => ⟨v2, fun q2 => pk i j l rfl rfl rfl (by omega) q2, fun q2 => p6 (Or.inr ?_)⟩⟩
  · rintro ⟨i', l', e1, e2, e3⟩
    have := (nI_eq hi (by omega)).mp e1
    have := (nI_eq hl (by omega)).mp e2
    omega
  · rintro ⟨i', l', e1, e2, e3⟩
    have := (nI_eq hj (by omega)).mp e1
    have := (nI_eq hl (by omega)).mp e2
    omega
theorem m_copy (hl : lay M) {k1 k2 i j l : Nat} (hk1 : k1 < 10) (hk2 : k2 < 10) (hi : i + l ≤ 200) (hj : j + l ≤ 200) {Post : Int32 → pm_M → Prop} (kk : ∀ M', kp (slm k2) M M' → mI M' = mI M → (∀ t, t < l → mL M' 73 (200 * k2 + j + t) = mL M 73 (200 * k1 + i + t)) → (∀ t, t < 200 * k2 + j ∨ 200 * k2 + j + l ≤ t → mL M' 73 t = mL M 73 t) → Post 0 M') : ∃ n_22 : Nat, w_X10_copy_115 Post 62 (nI k1) (nI i) (nI k2) (nI j) (nI l) n_22 (0 : Int32) M := by
  have ix : ∀ a b t : Nat, (200 : Int32) * nI a + nI b + nI t = nI (200 * a + b + t) := fun a b t => by rw [ix_200, nI_add]
  refine ⟨_, lp (fun k' (N : pm_M) t => w_X10_copy_115 Post 62 (nI k1) (nI i) (nI k2) (nI j) (nI l) k' (nI t) N) l (fun t N => kp (slm k2) M N ∧ mI N = mI M ∧ (∀ u, mL N 73 u = mL M 73 u) ∧ ∀ u, u < t → mL N 74 u = mL M 73 (200 * k1 + i + u)) ?_ ?_ 0 M (Nat.zero_le _) ⟨kp_rf _ _, rfl, fun _ => rfl, fun u hu => absurd hu (Nat.not_lt_zero u)⟩⟩
  · intro k' t N ht ⟨kN, eI, e1, e2⟩ hk'
    show w_X10_copy_115 Post 62 (nI k1) (nI i) (nI k2) (nI j) (nI l) (k' + 1) (nI t) N
    have lN := kp_lay hl hk2 (kp_m kN)
    simp only [w_X10_copy_115, forall_eq, nI_1, ix]
    refine bf (nI_ge ht (by omega)) ⟨74, lr_62_14 lN, 73, lr_62_13 lN, by rw [ln_73 lN]; exact vp_in_nI (by omega) (by decide), by rw [ln_74 lN]; exact vp_in_nI (by omega) (by decide), ?_⟩
    rw [nI_clamp (by omega), nI_clamp (by omega)]
    refine hk' _ ⟨kp_sL kN (by unfold slm; omega), eI, fun u => ?_, fun u hu => ?_⟩
    · rw [mL_sL, if_neg (by omega)]; exact e1 u
    · rw [mL_sL]
      by_cases z : u = t
      · subst z; rw [if_pos ⟨rfl, rfl⟩]; exact e1 _
      · rw [if_neg (by omega)]; exact e2 u (by omega)
  · intro k' N ⟨kN, eI, e1, e2⟩
    show w_X10_copy_115 Post 62 (nI k1) (nI i) (nI k2) (nI j) (nI l) (k' + 1) (nI l) N
    simp only [w_X10_copy_115]
    refine bt (nI_le (Nat.le_refl _) (by omega)) ⟨_, lp (fun k' (N' : pm_M) t => w_X10_copy_153 Post 62 (nI k2) (nI j) (nI l) k' (nI t) N') l (fun t N' => kp (slm k2) M N' ∧ mI N' = mI M ∧ (∀ u, mL N' 74 u = mL N 74 u) ∧ (∀ u, u < t → mL N' 73 (200 * k2 + j + u) = mL M 73 (200 * k1 + i + u)) ∧ ∀ u, u < 200 * k2 + j ∨ 200 * k2 + j + l ≤ u → mL N' 73 u = mL M 73 u) ?_ ?_ 0 N (Nat.zero_le _) ⟨kN, eI, fun _ => rfl, fun u hu => absurd hu (Nat.not_lt_zero u), fun u _ => e1 u⟩⟩
    · intro k' t N' ht ⟨kN', eI', f1, f2, f3⟩ hk'
      show w_X10_copy_153 Post 62 (nI k2) (nI j) (nI l) (k' + 1) (nI t) N'
      have lN := kp_lay hl hk2 (kp_m kN')
      simp only [w_X10_copy_153, forall_eq, nI_1, ix]
      refine bf (nI_ge ht (by omega)) ⟨73, lr_62_13 lN, 74, lr_62_14 lN, by rw [ln_74 lN]; exact vp_in_nI (by omega) (by decide), by rw [ln_73 lN]; exact vp_in_nI (by omega) (by decide), ?_⟩
      rw [nI_clamp (by omega), nI_clamp (by omega)]
      refine hk' _ ⟨kp_sL kN' (by unfold slm; omega), eI', fun u => ?_, fun u hu => ?_, fun u hu => ?_⟩
      · rw [mL_sL, if_neg (by omega)]; exact f1 u
      · rw [mL_sL]
        by_cases z : u = t
        · subst z; rw [if_pos ⟨rfl, rfl⟩, f1]; exact e2 _ (by omega)
        · rw [if_neg (by omega)]; exact f2 u (by omega)
      · rw [mL_sL, if_neg (by omega)]; exact f3 u hu
    · intro k' N' ⟨kN', eI', f1, f2, f3⟩
      show w_X10_copy_153 Post 62 (nI k2) (nI j) (nI l) (k' + 1) (nI l) N'
      simp only [w_X10_copy_153]
      exact bt (nI_le (Nat.le_refl _) (by omega)) (kk N' kN' eI' f2 f3)
theorem q_copy (h : iv M n r w A c Q P) (x1 x2 x3 x4 x5 : Int32) : ∀ K : Int32 → Int32 → pm_M → Prop, (∀ v M', IV M' → K v v M') → w_X9_copy 0 x1 x2 x3 x4 x5 M (fun a M1 => w_X10_copy 62 x1 x2 x3 x4 x5 M1 (fun b M' => K a b M')) := by
  intro K k
  have k0 : ∀ v, K v v M := fun v => k v M ⟨_, _, _, _, _, _, _, h⟩
  have zz := h.1.1
  have n0 : ∀ s, s ≤ 200 → ¬ nI (s + 1) = 0 := fun s hs => nI_ne0 (by omega) (by omega)
  unfold w_X9_copy w_X9_copy_24 w_X9_copy_43 w_X9_copy_85 w_X10_copy w_X10_copy_14 w_X10_copy_35 w_X10_copy_109
  rcases slot_cases x1 with hx | ⟨a, ha, rfl⟩
  · rcases slot_cases x3 with hy | ⟨b, hb, rfl⟩
    · exact c_slotAt0 h.1 hx (c_slotAt0 h.1 hy (on (m_isSlot0 hx (bt rfl (k0 _)))))
    · exact c_slotAt0 h.1 hx (c_slotAt h.1 hb (on (m_isSlot0 hx (bt rfl (k0 _)))))
  · rcases slot_cases x3 with hy | ⟨b, hb, rfl⟩
    · exact c_slotAt h.1 ha (c_slotAt0 h.1 hy (os (on (m_isSlot ha (bf one0 (m_isSlot0 hy (bt' rfl (k0 _))))))))
    · refine c_slotAt h.1 ha (c_slotAt h.1 hb (os (os (c_hasRow h.2.2.2.1 ha ?_))))
      have va : ∀ N, lay N → vp_in (nI a) (mN N 71) ∧ vp_in (nI a) (mN N 72) := fun N hl => by rw [ln_71 hl, ln_72 hl]; exact ⟨vp_in_nI (by omega) (by decide), vp_in_nI (by omega) (by decide)⟩
      have vb : ∀ N, lay N → vp_in (nI b) (mN N 71) ∧ vp_in (nI b) (mN N 72) := fun N hl => by rw [ln_71 hl, ln_72 hl]; exact ⟨vp_in_nI (by omega) (by decide), vp_in_nI (by omega) (by decide)⟩
      have cla : (nI a).toNatClampNeg = a := nI_clamp (by omega)
      have clb : (nI b).toNatClampNeg = b := nI_clamp (by omega)
      rcases h.2.2.2.1 a ha with ⟨h1, h2⟩ | ⟨wd, sz, a1, a2, a3, a4, a5, a6, a7⟩
      · rw [show hr M a = false by unfold hr; rw [h2]; rfl]
        refine bt rfl (m_isSlot ha (bf one0 (m_isSlot hb (bf' one0 ⟨71, lr_62_11 h.1, (va M h.1).1, ?_⟩))))
        rw [cla, h2]
        exact bt rfl (k0 _)
      · rw [show hr M a = true by unfold hr; rw [a5]; exact decide_eq_true (n0 sz a2)]
        refine bf one0 (c_hasRow h.2.2.2.1 hb ?_)
        rcases h.2.2.2.1 b hb with ⟨h1, h2⟩ | ⟨wd', sz', b1, b2, b3, b4, b5, b6, b7⟩
        · rw [show hr M b = false by unfold hr; rw [h2]; rfl]
          refine bt' rfl (m_isSlot ha (bf one0 (m_isSlot hb (bf' one0 ⟨71, lr_62_11 h.1, (va M h.1).1, ?_⟩))))
          rw [cla, clb, a5, h2]
          exact bf (n0 sz a2) ⟨(vb M h.1).1, bt' rfl (k0 _)⟩
        · rw [show hr M b = true by unfold hr; rw [b5]; exact decide_eq_true (n0 sz' b2)]
          refine bf' one0 ?_
          have mo : ∀ N (Po : Int32 → pm_M → Prop) (Z : Prop), lay N → mI N 71 = mI M 71 → mI N 72 = mI M 72 → (nI wd = nI wd' → (x2 < 0 → Po (-6) N) ∧ (¬ x2 < 0 → ((x4 < 0 → Po (-6) N) ∧ (¬ x4 < 0 → ((x5 < 0 → Po (-6) N) ∧ (¬ x5 < 0 → (vp_in (nI a) (mN N 71) ∧ ((0 < (lg_cmp (x2.toInt64 + x5.toInt64) ((nI (sz + 1) - (1 : Int32)).toInt64)) → Po (-6) N) ∧ (¬ 0 < (lg_cmp (x2.toInt64 + x5.toInt64) ((nI (sz + 1) - (1 : Int32)).toInt64)) → (vp_in (nI b) (mN N 71) ∧ (((lg_cmp (x4.toInt64 + x5.toInt64) ((nI (sz' + 1) - (1 : Int32)).toInt64)) ≤ 0 → Z) ∧ (¬ (lg_cmp (x4.toInt64 + x5.toInt64) ((nI (sz' + 1) - (1 : Int32)).toInt64)) ≤ 0 → Po (-6) N)))))))))))) → (¬ nI wd = nI wd' → Po (-7) N) → w_X10_isSlot (nI a) N (fun r_1 => ((r_1 = 0 → Po (-2) N) ∧ (¬ r_1 = 0 → w_X10_isSlot (nI b) N (fun r_3 => ((¬ r_3 = 0 → (∃ q_5 : Nat, mR N 62 11 = some q_5 ∧ (vp_in (nI a) (mN N q_5) ∧ (((mI N q_5 (nI a).toNatClampNeg) = 0 → Po (-5) N) ∧ (¬ (mI N q_5 (nI a).toNatClampNeg) = 0 → (vp_in (nI b) (mN N q_5) ∧ ((¬ (mI N q_5 (nI b).toNatClampNeg) = 0 → (∃ q_10 : Nat, mR N 62 12 = some q_10 ∧ (vp_in (nI a) (mN N q_10) ∧ (vp_in (nI b) (mN N q_10) ∧ (((mI N q_10 (nI a).toNatClampNeg) = (mI N q_10 (nI b).toNatClampNeg) → ((x2 < 0 → Po (-6) N) ∧ (¬ x2 < 0 → ((x4 < 0 → Po (-6) N) ∧ (¬ x4 < 0 → ((x5 < 0 → Po (-6) N) ∧ (¬ x5 < 0 → (vp_in (nI a) (mN N q_5) ∧ ((0 < (lg_cmp (x2.toInt64 + x5.toInt64) (((mI N q_5 (nI a).toNatClampNeg) - (1 : Int32)).toInt64)) → Po (-6) N) ∧ (¬ 0 < (lg_cmp (x2.toInt64 + x5.toInt64) (((mI N q_5 (nI a).toNatClampNeg) - (1 : Int32)).toInt64)) → (vp_in (nI b) (mN N q_5) ∧ (((lg_cmp (x4.toInt64 + x5.toInt64) (((mI N q_5 (nI b).toNatClampNeg) - (1 : Int32)).toInt64)) ≤ 0 → Z) ∧ (¬ (lg_cmp (x4.toInt64 + x5.toInt64) (((mI N q_5 (nI b).toNatClampNeg) - (1 : Int32)).toInt64)) ≤ 0 → Po (-6) N))))))))))))) ∧ (¬ (mI N q_10 (nI a).toNatClampNeg) = (mI N q_10 (nI b).toNatClampNeg) → Po (-7) N)))))) ∧ ((mI N q_5 (nI b).toNatClampNeg) = 0 → Po (-5) N)))))))) ∧ (r_3 = 0 → Po (-2) N)))))) := by
            intro N Po Z lN e71 e72 g1 g2
            refine m_isSlot ha (bf one0 (m_isSlot hb (bf' one0 ⟨71, lr_62_11 lN, (va N lN).1, ?_⟩)))
            rw [cla, clb, e71, a5, b5]
            refine bf (n0 sz a2) ⟨(vb N lN).1, bf' (n0 sz' b2) ⟨72, lr_62_12 lN, (va N lN).2, (vb N lN).2, ?_⟩⟩
            rw [e72, a6, b6]
            exact ⟨g1, g2⟩
          rw [a3, b3]
          by_cases we : nI wd = nI wd'
          · refine bt we ?_
            by_cases st1 : ∃ i l : Nat, x2 = nI i ∧ x5 = nI l ∧ i + l ≤ sz
            · by_cases st2 : ∃ i l : Nat, x4 = nI i ∧ x5 = nI l ∧ i + l ≤ sz'
              · obtain ⟨i, l, rfl, rfl, h3⟩ := st1
                obtain ⟨j, l', rfl, e5, h4⟩ := st2
                have el := (nI_eq (by omega) (by omega)).mp e5
                subst el
                refine c_stretch a2 a4 h3 (bf one0 (c_stretch b2 b4 h4 (bf' one0 ⟨43 + 2 * a, lr_sn h.1 ha, 43 + 2 * b, lr_sn h.1 hb, ⟨nI_pos (by omega), nI_pos (by omega), nI_pos (by omega), ?_, ?_⟩, ?_⟩)))
                · rw [nI_clamp (by omega), nI_clamp (by omega), ln_sn h.1 ha]; omega
                · rw [nI_clamp (by omega), nI_clamp (by omega), ln_sn h.1 hb]; omega
                · rw [nI_clamp (by omega), nI_clamp (by omega), nI_clamp (by omega)]
                  intro M1 e1
                  have kc : kp (slc b) M M1 := by rw [e1]; exact kp_sC (kp_rf _ _) (fun t => by unfold slc; omega)
                  have l1 := kp_lay h.1 hb (kp_c kc)
                  refine mo M1 (fun v M' => K 0 v M') _ l1 (by rw [e1]; rfl) (by rw [e1]; rfl) (fun _ => ?_) (fun q => absurd we q)
                  refine m_strs a2 b2 (va M1 l1).1 (vb M1 l1).1 (fun q => ?_) (fun i' j' l' ei ej el g1 g2 => ?_)
                  · rcases q with q | q
                    · exact absurd ⟨i, l, rfl, rfl, h3⟩ q
                    · exact absurd ⟨j, l, rfl, rfl, h4⟩ q
                  · refine m_copy l1 ha hb (by omega) (by omega) (fun M2 k2 eI2 f1 f2 => ?_)
                    have eM1 : ∀ x, mL M1 73 x = mL M 73 x := fun x => (kc.2.2 73 x (by omega) (by unfold slc; omega)).2.1
                    have eI1 : mI M1 = mI M := by rw [e1]; rfl
                    refine k 0 M2 ⟨n, r, w, A, c, Q, P, iv_sl h hb (kp_tr (kp_c kc) (kp_m k2)) (Or.inr ⟨wd', sz', b1, b2, ?_, ?_, ?_, ?_, fun t ht => ?_⟩)⟩
                    · rw [eI2, eI1]; exact b3
                    · rw [eI2, eI1]; exact b4
                    · rw [eI2, eI1]; exact b5
                    · rw [eI2, eI1]; exact b6
                    · have z1 := kc.1
                      rw [(k2.2.2 (43 + 2 * b) t (by omega) (by unfold slm; omega)).2.1]
                      have e2 : mL M1 (43 + 2 * b) t = va_cpy (mL M (43 + 2 * a)) (mL M (43 + 2 * b)) i j l t := by
                        rw [e1]
                        show (if 43 + 2 * b = 43 + 2 * b then va_cpy (mL M (43 + 2 * a)) (mL M (43 + 2 * b)) i j l else mL M (43 + 2 * b)) t = _
                        rw [if_pos rfl]
                      rw [e2]
                      by_cases q : j ≤ t ∧ t < j + l
                      · rw [pk_cpy_in q.1 q.2, a7 _ (by omega)]
                        have := f1 (t - j) (by omega)
                        rw [show 200 * b + j + (t - j) = 200 * b + t by omega, eM1, show 200 * a + i + (t - j) = 200 * a + (i + (t - j)) by omega] at this
                        exact this.symm
                      · rw [pk_cpy_out (by omega), b7 t ht]
                        rw [f2 (200 * b + t) (by omega), eM1]
              · obtain ⟨i, l, rfl, rfl, h3⟩ := st1
                refine c_stretch a2 a4 h3 (bf one0 (c_stretch0 b2 b4 st2 (bt' rfl (mo M (fun v M' => K (-6) v M') _ h.1 rfl rfl (fun _ => ?_) (fun q => absurd we q)))))
                exact m_strs a2 b2 (va M h.1).1 (vb M h.1).1 (fun _ => k0 _) (fun i' j' l' ei ej el g1 g2 => absurd ⟨j', l', ej, el, g2⟩ st2)
            · refine c_stretch0 a2 a4 st1 (bt rfl (mo M (fun v M' => K (-6) v M') _ h.1 rfl rfl (fun _ => ?_) (fun q => absurd we q)))
              exact m_strs a2 b2 (va M h.1).1 (vb M h.1).1 (fun _ => k0 _) (fun i' j' l' ei ej el g1 g2 => absurd ⟨i', l', ei, el, g1⟩ st1)
          · exact bf we (mo M (fun v M' => K (-7) v M') _ h.1 rfl rfl (fun q => absurd q we) (fun _ => k0 _))
end
