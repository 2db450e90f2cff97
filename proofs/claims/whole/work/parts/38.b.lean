/-! write, read, copy, weight, fresh -/
theorem lL_lt {a b : Nat} (ha : a < 2 ^ 62) (hb : b < 2 ^ 62) : lN a < lN b ↔ a < b := by
  unfold lN
  rw [Int64.lt_iff_toInt_lt, Int64.toInt_ofNat_of_lt (by omega), Int64.toInt_ofNat_of_lt (by omega)]
  omega
theorem lL_le {a b : Nat} (ha : a < 2 ^ 62) (hb : b < 2 ^ 62) : lN a ≤ lN b ↔ a ≤ b := by
  unfold lN
  rw [Int64.le_iff_toInt_le, Int64.toInt_ofNat_of_lt (by omega), Int64.toInt_ofNat_of_lt (by omega)]
  omega
def cutv (wd : Nat) (v : Int64) : Int64 := if wd = 0 then v.toInt32.toInt8.toInt32.toInt64 else if wd = 1 then v.toInt32.toInt16.toInt32.toInt64 else if wd = 2 then v.toInt32.toInt64 else v
section
variable {M : pm_M} {n r : Nat} {w : Nat → Nat} {A : Nat → Nat → Bool} {c : Nat} {Q P : Nat → Nat}
theorem c_cut {k wd : Nat} (hw : wd ≤ 3) (e : mI M (42 + 2 * k) 1 = nI wd) {v : Int64} {Post : Int64 → Prop} (kk : Post (cutv wd v)) : w_X6_cut (42 + 2 * k) v M Post := by
  unfold w_X6_cut
  rw [e]
  unfold cutv at kk
  have h0 : (nI wd = 0) ↔ wd = 0 := nI_z (by omega)
  have h1 : (nI wd = 1) ↔ wd = 1 := nI_eq (b := 1) (by omega) (by decide)
  have h2 : (nI wd = 2) ↔ wd = 2 := nI_eq (b := 2) (by omega) (by decide)
  refine ⟨fun q => ?_, fun q => ?_, fun q => ?_, fun q => ?_⟩
  · rw [if_pos (h0.mp q)] at kk; exact kk
  · rw [if_neg (by have := h1.mp q; omega), if_pos (h1.mp q)] at kk; exact kk
  · rw [if_neg (by have := h2.mp q; omega), if_neg (by have := h2.mp q; omega), if_pos (h2.mp q)] at kk; exact kk
  · have : ∀ j, j < 3 → wd ≠ j := fun j hj z => q j hj (by rw [z, Nat.zero_add])
    rw [if_neg (this 0 (by decide)), if_neg (this 1 (by decide)), if_neg (this 2 (by decide))] at kk
    exact kk
theorem c_stretch {k sz : Nat} (hsz : sz ≤ 200) (e : mI M (42 + 2 * k) 2 = nI sz) {i l : Nat} (hi : i + l ≤ sz) {Post : Int32 → Prop} (kk : Post 1) : w_X6_hasStretch (42 + 2 * k) (nI i) (nI l) M Post := by
  unfold w_X6_hasStretch w_X6_hasStretch_30 w_X6_hasStretch_31
  rw [e]
  refine bf (nI_pos (by omega)) (bf (nI_pos (by omega)) (bf (nI_nlt (by omega) (by omega)) ?_))
  rw [nI_subN (by omega)]
  exact bf (nI_nlt (by omega) (by omega)) ⟨Or.inr rfl, kk⟩
theorem c_stretch0 {k sz : Nat} (hsz : sz ≤ 200) (e : mI M (42 + 2 * k) 2 = nI sz) {x y : Int32} (hx : ¬ ∃ i l : Nat, x = nI i ∧ y = nI l ∧ i + l ≤ sz) {Post : Int32 → Prop} (kk : Post 0) : w_X6_hasStretch (42 + 2 * k) x y M Post := by
  unfold w_X6_hasStretch w_X6_hasStretch_30 w_X6_hasStretch_31
  rw [e]
  by_cases x0 : x < 0
  · exact bt x0 ⟨Or.inl rfl, kk⟩
  refine bf x0 ?_
  by_cases y0 : y < 0
  · exact bt y0 ⟨Or.inl rfl, kk⟩
  refine bf y0 ?_
  obtain ⟨i, hi, rfl⟩ := nI_of x0
  obtain ⟨l, hl, rfl⟩ := nI_of y0
  by_cases q : sz < l
  · exact bt (nI_lt q hl) ⟨Or.inl rfl, kk⟩
  refine bf (nI_nlt (by omega) (by omega)) ?_
  rw [nI_subN (by omega)]
  refine bt (nI_lt ?_ hi) ⟨Or.inl rfl, kk⟩
  have : ¬ i + l ≤ sz := fun z => hx ⟨i, l, rfl, rfl, z⟩
  omega
theorem one_str {y : Int32} {sz : Nat} (h : y < 0 ∨ nI sz ≤ y) (hs : sz ≤ 200) : ¬ ∃ i l : Nat, y = nI i ∧ (1 : Int32) = nI l ∧ i + l ≤ sz := by
  rintro ⟨i, l, rfl, e, hle⟩
  have : 1 = l := (nI_eq (a := 1) (by decide) (by omega)).mp e
  rcases h with h | h
  · exact nI_pos (by omega) h
  · have := (nI_leI (by omega) (by omega)).mp h
    omega
theorem q_write (h : iv M n r w A c Q P) (x y : Int32) (v : Int64) : ∀ K : Int32 → Int32 → pm_M → Prop, (∀ v M', IV M' → K v v M') → w_X9_write 0 x y v M (fun a M1 => w_X10_write 62 x y v M1 (fun b M' => K a b M')) := by
  intro K k
  have k0 : ∀ v, K v v M := fun v => k v M ⟨_, _, _, _, _, _, _, h⟩
  have zz := h.1.1
  unfold w_X9_write w_X9_write_32 w_X9_numberRefusal w_X9_numberRefusal_38 w_X10_write w_X10_wrong w_X10_wrong_40 w_X10_wrong_46 w_X10_write_71
  rcases slot_cases x with hx | ⟨j, hj, rfl⟩
  · exact c_slotAt0 h.1 hx (on (c_slotAt0 h.1 hx (bf' (by decide) (m_isSlot0 hx (bt' rfl (bf' (by decide) (k0 _)))))))
  · have vj : ∀ N, lay N → vp_in (nI j) (mN N 71) := fun N hl => by rw [ln_71 hl]; exact vp_in_nI (by omega) (by decide)
    have sl2 : ∀ {Po : Option Nat → Prop}, Po (some (42 + 2 * j)) → w_X9_slotAt 0 (nI j) M Po := fun q => c_slotAt h.1 hj q
    rcases h.2.2.2.1 j hj with ⟨h1, h2⟩ | ⟨wd, sz, a1, a2, a3, a4, a5, a6, a7⟩
    · refine sl2 (os (c_hasRow h.2.2.2.1 hj ?_))
      rw [show hr M j = false by unfold hr; rw [h2]; rfl]
      refine ⟨fun q => absurd rfl q, fun _ => sl2 (bf' (by decide) (m_isSlot hj (bf' one0 ⟨71, lr_62_11 h.1, vj M h.1, ?_⟩)))⟩
      rw [nI_clamp (by omega), h2]
      exact ⟨fun q => absurd rfl q, fun _ => bf' (by decide) (k0 _)⟩
    · refine sl2 (os (c_hasRow h.2.2.2.1 hj ?_))
      rw [show hr M j = true by unfold hr; rw [a5]; exact decide_eq_true (nI_ne0 (by omega) (by omega))]
      refine ⟨fun _ => ?_, fun q => absurd q (by decide)⟩
      have n0 : ¬ nI (sz + 1) = 0 := nI_ne0 (by omega) (by omega)
      rcases ix_cases (show sz < 2 ^ 31 by omega) y with hy | ⟨i, hi, rfl⟩
      · refine c_stretch0 a2 a4 (one_str hy a2) (bt rfl (sl2 (bf' (by decide) (m_isSlot hj (bf' one0 ⟨71, lr_62_11 h.1, vj M h.1, ?_⟩)))))
        rw [nI_clamp (by omega), a5, nI_pred]
        refine bf' n0 ?_
        by_cases y0 : y < 0
        · exact bt y0 (bf' (by decide) (k0 _))
        · exact bf y0 ⟨vj M h.1, bf (by have := hy.resolve_left y0; exact Int32.not_lt.mpr this) (bf' (by decide) (k0 _))⟩
      · refine c_stretch (l := 1) a2 a4 (by omega) (bf one0 (sl2 (bt' rfl (os ?_))))
        unfold w_X6_put w_X6_put_23
        rw [a4]
        refine bf (nI_pos (by omega)) (bf (nI_ge hi (by omega)) ⟨43 + 2 * j, lr_sn h.1 hj, c_cut a1 a3 ⟨by rw [ln_sn h.1 hj]; exact vp_in_nI (by omega) (by decide), ?_⟩⟩)
        rw [nI_clamp (by omega)]
        intro M1 e1
        have k1 : kp (slc j) M M1 := by rw [e1]; exact kp_sL (kp_rf _ _) (by unfold slc; omega)
        have l1 := kp_lay h.1 hj (kp_c k1)
        refine m_isSlot hj (bf' one0 ⟨71, lr_62_11 l1, vj M1 l1, ?_⟩)
        rw [nI_clamp (by omega), e1, mI_sL, a5, nI_pred, ← e1]
        refine bf' n0 (bf (nI_pos (by omega)) ⟨vj M1 l1, bt (nI_lt hi (by omega)) (bt' rfl ⟨72, lr_62_12 l1, by rw [ln_72 l1]; exact vp_in_nI (by omega) (by decide), ?_⟩)⟩)
        rw [a6]
        intro x6 e6
        refine ⟨73, lr_62_13 l1, ?_⟩
        have fin : ∀ s2, s2 = cutv wd v → w_X10_write_70 (fun b M' => K 0 b M') 0 73 (200 * nI j + nI i) s2 M1 := by
          intro s2 es
          unfold w_X10_write_70 w_X10_write_71
          rw [ix_200, nI_clamp (by omega)]
          refine ⟨by rw [ln_73 l1]; exact vp_in_nI (by omega) (by decide), fun M2 e2 => ?_⟩
          have k2 : kp (slm j) M1 M2 := by rw [e2]; exact kp_sL (kp_rf _ _) (by unfold slm; omega)
          refine k 0 M2 ⟨n, r, w, A, c, Q, P, iv_sl h hj (kp_tr (kp_c k1) (kp_m k2)) (Or.inr ⟨wd, sz, a1, a2, ?_, ?_, ?_, ?_, fun i' hi' => ?_⟩)⟩
          · rw [e2, mI_sL, e1, mI_sL]; exact a3
          · rw [e2, mI_sL, e1, mI_sL]; exact a4
          · rw [e2, mI_sL, e1, mI_sL]; exact a5
          · rw [e2, mI_sL, e1, mI_sL]; exact a6
          · rw [e2, mL_sL, mL_sL, if_neg (by omega), e1, mL_sL, mL_sL]
            by_cases z : i' = i
            · subst z; rw [if_pos ⟨rfl, rfl⟩, if_pos ⟨rfl, rfl⟩, es]
            · rw [if_neg (by omega), if_neg (by omega), if_neg (by omega)]; exact a7 i' hi'
        have g0 : (x6 = 0) ↔ wd = 0 := by rw [e6]; exact nI_z (by omega)
        have g1 : (x6 = 1) ↔ wd = 1 := by rw [e6]; exact nI_eq (b := 1) (by omega) (by decide)
        have g2 : (x6 = 2) ↔ wd = 2 := by rw [e6]; exact nI_eq (b := 2) (by omega) (by decide)
        refine ⟨fun q0 => ⟨fun q1 => ⟨fun q2 => fin _ ?_, fun q2 => fin _ ?_⟩, fun q1 => fin _ ?_⟩, fun q0 => fin _ ?_⟩
        · unfold cutv; rw [if_neg (by rw [← g0]; exact q0), if_neg (by rw [← g1]; exact q1), if_neg (by rw [← g2]; exact q2)]
        · unfold cutv; rw [if_neg (by rw [← g0]; exact q0), if_neg (by rw [← g1]; exact q1), if_pos (g2.mp q2)]
        · unfold cutv; rw [if_neg (by rw [← g0]; exact q0), if_pos (g1.mp q1)]
        · unfold cutv; rw [if_pos (g0.mp q0)]
theorem q_read (h : iv M n r w A c Q P) (x y : Int32) : ∀ K : Int64 → Int64 → Prop, (∀ v, K v v) → w_X9_read 0 x y M (fun a => w_X10_read 62 x y M (fun b => K a b)) := by
  intro K k
  have zz := h.1.1
  unfold w_X9_read w_X9_read_19 w_X9_read_28 w_X9_numberRefusal w_X9_numberRefusal_38 w_X10_read w_X10_wrong w_X10_wrong_40 w_X10_wrong_46 w_X10_read_25
  rcases slot_cases x with hx | ⟨j, hj, rfl⟩
  · exact c_slotAt0 h.1 hx (on (m_isSlot0 hx (bt' rfl (bf' (by decide) (k _)))))
  · have vj : vp_in (nI j) (mN M 71) := by rw [ln_71 h.1]; exact vp_in_nI (by omega) (by decide)
    have sl2 : ∀ {Po : Option Nat → Prop}, Po (some (42 + 2 * j)) → w_X9_slotAt 0 (nI j) M Po := fun q => c_slotAt h.1 hj q
    rcases h.2.2.2.1 j hj with ⟨h1, h2⟩ | ⟨wd, sz, a1, a2, a3, a4, a5, a6, a7⟩
    · refine sl2 (os (sl2 (os (c_hasRow h.2.2.2.1 hj ?_))))
      rw [show hr M j = false by unfold hr; rw [h2]; rfl]
      refine ⟨fun q => absurd rfl q, fun _ => bf (by decide) (m_isSlot hj (bf' one0 ⟨71, lr_62_11 h.1, vj, ?_⟩))⟩
      rw [nI_clamp (by omega), h2]
      exact ⟨fun q => absurd rfl q, fun _ => bf' (by decide) (k _)⟩
    · refine sl2 (os (sl2 (os (c_hasRow h.2.2.2.1 hj ?_))))
      rw [show hr M j = true by unfold hr; rw [a5]; exact decide_eq_true (nI_ne0 (by omega) (by omega))]
      refine ⟨fun _ => ?_, fun q => absurd q (by decide)⟩
      have n0 : ¬ nI (sz + 1) = 0 := nI_ne0 (by omega) (by omega)
      rcases ix_cases (show sz < 2 ^ 31 by omega) y with hy | ⟨i, hi, rfl⟩
      · refine c_stretch0 a2 a4 (one_str hy a2) (bt rfl (bf (by decide) (m_isSlot hj (bf' one0 ⟨71, lr_62_11 h.1, vj, ?_⟩))))
        rw [nI_clamp (by omega), a5, nI_pred]
        refine bf' n0 ?_
        by_cases y0 : y < 0
        · exact bt y0 (bf' (by decide) (k _))
        · exact bf y0 ⟨vj, bf (by have := hy.resolve_left y0; exact Int32.not_lt.mpr this) (bf' (by decide) (k _))⟩
      · refine c_stretch (l := 1) a2 a4 (by omega) (bf one0 (bt rfl ?_))
        unfold w_X6_number w_X6_number_21 w_X6_number_22
        rw [a4]
        refine bf (nI_pos (by omega)) (bf (nI_ge hi (by omega)) ⟨43 + 2 * j, lr_sn h.1 hj, by rw [ln_sn h.1 hj]; exact vp_in_nI (by omega) (by decide), ?_⟩)
        refine m_isSlot hj (bf' one0 ⟨71, lr_62_11 h.1, vj, ?_⟩)
        rw [nI_clamp (n := j) (by omega), a5, nI_pred]
        refine bf' n0 (bf (nI_pos (by omega)) ⟨vj, bt (nI_lt hi (by omega)) (bt' rfl ⟨73, lr_62_13 h.1, ?_, ?_⟩)⟩)
        · rw [ix_200, ln_73 h.1]; exact vp_in_nI (by omega) (by decide)
        · rw [ix_200, nI_clamp (by omega), nI_clamp (by omega), a7 i hi]
          exact k _
theorem q_weight (h : iv M n r w A c Q P) (x y : Int32) : ∀ K : Int32 → Int32 → pm_M → Prop, (∀ v M', IV M' → K v v M') → w_X9_weight 0 x y M (fun a M1 => w_X10_weight 62 x y M1 (fun b M' => K a b M')) := by
  intro K k
  have hn := iv_n h
  have k0 : ∀ v, K v v M := fun v => k v M ⟨_, _, _, _, _, _, _, h⟩
  have zz := h.1.1
  unfold w_X9_weight w_X9_weight_18 w_X10_weight w_X10_weight_18
  rcases th_cases h x with hx | ⟨i, hi, rfl⟩
  · exact c_isThing0 h hx (bt rfl (m_isThing0 h hx (bt rfl (k0 _))))
  · refine c_isThing h hi (bf one0 ?_)
    by_cases y0 : y < 0
    · exact bt y0 (m_isThing h hi (bf one0 (bt y0 (k0 _))))
    refine bf y0 ?_
    by_cases y1 : y ≤ 1000000
    · obtain ⟨v, hv, rfl⟩ := nI_of y0
      have v1 : v ≤ 1000000 := (nI_leI (b := 1000000) hv (by decide)).mp y1
      have vi : ∀ N, lay N → vp_in (nI i) (mN N 3) ∧ vp_in (nI i) (mN N 63) := fun N hl => by rw [ln_3 hl, ln_63 hl]; exact ⟨vp_in_nI (by omega) (by decide), vp_in_nI (by omega) (by decide)⟩
      refine bt y1 ⟨3, lr_0_2 h.1, (vi M h.1).1, ?_⟩
      intro x7 e7
      refine ⟨(vi M h.1).1, fun M1 e1 => ?_⟩
      rw [nI_clamp (by omega)] at e7 e1
      have k1 : kp (fun a _ => a = 3 ∨ a = 63) M M1 := by rw [e1]; exact kp_sI (kp_rf _ _) (Or.inl rfl)
      have sf : ∀ a j : Nat, (a = 3 ∨ a = 63) → sof a j := fun a j q => by unfold sof; omega
      have l1 := lay_kp h.1 k1 (fun a j q _ => sof_sr (sf a j q))
      have n1 := iN_kp h.2.1 zz k1 (fun j _ => by omega) (fun j _ => by omega)
      have it : ∀ {Po : Int32 → Prop}, Po 1 → w_X10_isThing 62 (nI i) M1 Po := by
        intro Po q
        unfold w_X10_isThing w_X10_isThing_16 w_X10_isThing_17
        rw [n1.2.2.2.2.1]
        exact bf (nI_pos (by omega)) (bf (nI_ge hi (by omega)) ⟨Or.inr rfl, q⟩)
      refine it (bf one0 (bf y0 (bt y1 ⟨63, lr_62_2 l1, (vi M1 l1).2, ?_⟩)))
      intro x8 e8
      refine ⟨(vi M1 l1).2, fun M2 e2 => ?_⟩
      rw [nI_clamp (by omega)] at e8 e2
      have ee : x7 = x8 := by
        rw [e7, e8, (h.2.2.1 i (by omega)).2.1, e1, mI_sI, if_neg (by omega), (h.2.2.1 i (by omega)).2.2]
      rw [ee]
      have k2 : kp (fun a _ => a = 3 ∨ a = 63) M M2 := by rw [e2]; exact kp_sI k1 (Or.inr rfl)
      refine k x8 M2 ⟨n, r, (fun t => if t = i then v else w t), A, c, Q, P, iv_sof h (kp_mono k2 sf) (iN_kp h.2.1 zz k2 (fun j _ => by omega) (fun j _ => by omega)) (fun t ht => ?_) (fun t ht => iS1_kp ht (h.2.2.2.1 t ht) zz k2 (fun _ => by omega) (fun _ => by omega) (by omega) (by omega) (fun _ _ => by omega)) (iB_kp h.2.2.2.2.1 zz k2 (fun j _ => by omega) (fun j => by omega)) (Or.inr ⟨rfl, rfl⟩)⟩
      show (if t = i then v else w t) ≤ 1000000 ∧ mI M2 3 t = nI (if t = i then v else w t) ∧ mI M2 63 t = nI (if t = i then v else w t)
      by_cases z : t = i
      · subst z
        rw [if_pos rfl, e2, mI_sI, if_neg (by omega), mI_sI, if_pos ⟨rfl, rfl⟩, e1, mI_sI, if_pos ⟨rfl, rfl⟩]
        exact ⟨v1, rfl, rfl⟩
      · rw [if_neg z, e2, mI_sI, if_neg (by omega), mI_sI, if_neg (by omega), e1, mI_sI, if_neg (by omega), mI_sI, if_neg (by omega)]
        exact h.2.2.1 t ht
    · exact bf y1 (m_isThing h hi (bf one0 (bf y0 (bf y1 (k0 _)))))
end
