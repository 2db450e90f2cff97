/-! rule: the frame -/
def ctn (Post : Int32 → pm_M → Prop) (kd : Int32) (v : Nat) (M : pm_M) : Prop := ∃ q_14 : Nat, mR M 0 4 = some q_14 ∧ (((mI M q_14 2) = 0 → ((¬ kd = (3 : Int32) → w_X9_rule_96 Post 0 kd v M) ∧ (kd = (3 : Int32) → (∃ q_17 : Nat, mR M 0 6 = some q_17 ∧ w_X0_lieNested q_17 M (fun r_18 => ((¬ r_18 = 0 → w_X9_rule_96 Post 0 kd v M) ∧ (r_18 = 0 → Post (-7 : Int32) M))))))) ∧ (¬ (mI M q_14 2) = 0 → Post (mI M q_14 2) M))
theorem ctn_bad {Post : Int32 → pm_M → Prop} {kd st : Int32} {v : Nat} {M : pm_M} (hl : lay M) (h : mI M 5 2 = st) (h0 : ¬ st = 0) (k : Post st M) : ctn Post kd v M := ⟨5, lr_0_4 hl, by rw [h]; exact bf h0 k⟩
theorem r96_ok {Post : Int32 → pm_M → Prop} {kd v : Nat} {M : pm_M} {n r : Nat} {w : Nat → Nat} {A : Nat → Nat → Bool} {c : Nat} {Q P : Nat → Nat} {B : Nat → Bool} {J : Nat → pm_M → Prop} (h : iv M n r w A c Q P) (hr : r < 24) (hm : mat n B) (hck : cok M n r c Q P B v J) (k0 : 1 ≤ kd) (k6 : kd ≤ 6) (kk : ∀ M1, cad M M1 n r c Q P B (nI kd) (-1) (-1) (nI 1) → Post (nI r) M1) : w_X9_rule_96 Post 0 (nI kd) v M := by
  unfold w_X9_rule_96 w_X9_rule_117
  exact bf' (nI_ne0 (by omega) (by omega)) (c_add h hr hm hck kk)
theorem ctn_ok {Post : Int32 → pm_M → Prop} {kd v : Nat} {M : pm_M} {n r : Nat} {w : Nat → Nat} {A : Nat → Nat → Bool} {c : Nat} {Q P : Nat → Nat} {B : Nat → Bool} {J : Nat → pm_M → Prop} (h : iv M n r w A c Q P) (hr : r < 24) (hm : mat n B) (hck : cok M n r c Q P B v J) (k0 : 1 ≤ kd) (k3 : kd ≠ 3) (k6 : kd ≤ 6) (h5 : mI M 5 2 = 0) (kk : ∀ M1, cad M M1 n r c Q P B (nI kd) (-1) (-1) (nI 1) → Post (nI r) M1) : ctn Post (nI kd) v M := by
  refine ⟨5, lr_0_4 h.1, by rw [h5]; exact bt rfl (bf' (fun q => k3 ((nI_eq (b := 3) (by omega) (by decide)).mp q)) (r96_ok h hr hm hck k0 k6 kk))⟩
def mrd (r a k : Nat) : Prop := (a = 62 ∧ (15 ≤ k ∧ k < 18)) ∨ (a = 64 ∧ 4096 * r ≤ k) ∨ (74 ≤ a ∧ a < 83)
theorem mrd_mad {r a k : Nat} (h : mrd r a k) : mad r a k := by
  rcases h with h | h | h
  · exact Or.inl ⟨h.1, Or.inr h.2⟩
  · exact tb_mad h
  · exact Or.inr (Or.inr (Or.inr h))
theorem mrd_scr {r a k : Nat} (h : mrd r a k) : scr r a k := by
  rcases h with h | h | h
  · exact Or.inr (Or.inr (Or.inr (Or.inr (Or.inr (Or.inr (Or.inr (Or.inr (Or.inr (Or.inr (Or.inr (Or.inr (Or.inr (Or.inr (Or.inl h))))))))))))))
  · exact Or.inr (Or.inr (Or.inr (Or.inr (Or.inr (Or.inr (Or.inr (Or.inr (Or.inr (Or.inr (Or.inr (Or.inr (Or.inr (Or.inr (Or.inr ⟨Or.inl h.1, h.2⟩))))))))))))))
  · exact Or.inr (Or.inr (Or.inr (Or.inr (Or.inr (Or.inr (Or.inr (Or.inr (Or.inr (Or.inr (Or.inr (Or.inr (Or.inr (Or.inl h)))))))))))))
theorem rdm_mrd {r a k : Nat} (h : rdm a k) : mrd r a k := Or.inl ⟨h.1, by have := h.2; omega, by have := h.2; omega⟩
theorem rd5_scr {r a k : Nat} (h : rd5 a k) : scr r a k := Or.inl h
theorem im_mrd {M M' : pm_M} {n r : Nat} {A : Nat → Nat → Bool} (h : im M n r A) (hk : kp (mrd r) M M') : im M' n r A :=
  im_kp h hk (fun _ _ z _ => mad_sr (mrd_mad z)) (fun k _ => by unfold mrd; omega) (fun a k ha hk' => by unfold mrd; omega)
theorem rm_mrd {M M' : pm_M} {r k sz : Nat} {X : Nat → Int64} (hz : 83 ≤ mZ M) (h : rowm M k sz X) (hk : kp (mrd r) M M') : rowm M' k sz X := rowm_kp hz h hk (fun a j ha => by unfold mrd; omega)
theorem rc_scr {M M' : pm_M} {r k sz : Nat} {X : Nat → Int64} (hz : 83 ≤ mZ M) (h : rowc M k sz X) (hk : kp (scr r) M M') : rowc M' k sz X := rowc_kp hz h hk (fun a j h1 h2 => by unfold scr; omega)
section
variable {M : pm_M} {n r : Nat} {w : Nat → Nat} {A : Nat → Nat → Bool} {c : Nat} {Q P : Nat → Nat}
theorem c_frame {kd j sz : Nat} {X : Nat → Int64} (h : iv M n r w A c Q P) (h24 : r < 24) (hj : j < 10) (hkd : kd ≤ 6) (hrow : hr M j = true) (hrc : rowc M j sz X) {Post : Int32 → pm_M → Prop} (kk : ∀ M3, iv M3 n r w A c Q P → kp (scr r) M M3 → rowc M3 j sz X → cst M3 j 0 0 → w_X9_checkFromNumbers 0 (nI kd) M3 (fun v M' => ctn Post (nI kd) v M')) : w_X9_rule 0 (nI kd) (nI j) M Post := by
  unfold w_X9_rule
  refine c_slotAt h.1 hj (os (bf (nI_pos (by omega)) (bt (nI_le (b := 6) hkd (by decide)) ?_)))
  rw [h.2.1.2.2.2.1]
  refine bt (nI_lt (b := 24) h24 (by decide)) (c_hasRow h.2.2.2.1 hj ?_)
  rw [hrow]
  refine bf' one0 ⟨5, lr_0_4 h.1, ?_⟩
  unfold w_X4_start
  intro M1 e1 M2 e2 M3 e3
  have s5 : ∀ k, scr r 5 k := fun k => Or.inl rfl
  have k3 : kp (scr r) M M3 := by rw [e3, e2, e1]; exact kp_sI (kp_sI (kp_sR (kp_rf _ _) (s5 _)) (s5 _)) (s5 _)
  refine kk M3 (iv_kp h k3) k3 (rc_scr h.1.1 hrc k3) ⟨?_, ?_, fun _ => ?_⟩
  · rw [e3, e2, mR_sI, mR_sI, e1, mR_sR, if_pos ⟨rfl, rfl⟩]
  · rw [e3, mI_sI, if_pos ⟨rfl, rfl⟩]
  · rw [e3, mI_sI, if_neg (by omega), e2, mI_sI, if_pos ⟨rfl, rfl⟩]; rfl
end
section
variable {M : pm_M} {n r : Nat} {A : Nat → Nat → Bool}
theorem m_frame {kd j sz : Nat} {X : Nat → Int64} {RK : pm_M → (pm_M → Prop) → Prop} (h : im M n r A) (hr : r < 24) (hj : j < 10) (hkd : kd ≤ 6) (hrm : rowm M j sz X) (hsel : ∀ (N : pm_M) (F : pm_M → Prop), RK N F → ((nI kd = 0 → w_X10_readsTold 62 N F) ∧ (nI kd = 1 → w_X10_readsEven 62 N F) ∧ (nI kd = 2 → w_X10_readsParts 62 N F) ∧ (nI kd = 3 → w_X10_readsNested 62 N F) ∧ (nI kd = 4 → w_X10_readsEdges 62 N F) ∧ (nI kd = 5 → w_X10_readsRows 62 N F) ∧ ((∀ j : Nat, j < 6 → ¬ nI kd = nI (0 + j)) → w_X10_readsPlaces 62 N F))) {Post : Int32 → pm_M → Prop} (kk : ∀ N, im N n r A → kp (mrd r) M N → rowm N j sz X → mst N j 0 0 → (∀ s, s < 2 ^ n → mI N 64 (4096 * r + s) = bI false) → RK N (fun M_2 => w_X10_rule_178 Post 62 (nI kd) M_2)) : w_X10_rule 62 (nI kd) (nI j) M Post := by
  have hp := p2_le h.2.1.2.1
  have hn := h.2.1
  have zz := h.1.1
  unfold w_X10_rule
  refine m_isSlot hj (bf one0 (bf (nI_pos (by omega)) (bt (nI_le (b := 6) hkd (by decide)) ?_)))
  rw [h.2.2.2.2.1]
  refine bf' (fun q => by have := (nI_eq (b := 24) (by omega) (by decide)).mp q; omega) ⟨71, lr_62_11 h.1, by rw [ln_71 h.1]; exact vp_in_nI hj (by decide), ?_⟩
  have hsz := hrm.2.1
  rw [nI_clamp (by omega), hrm.2.2.1]
  refine bf' (nI_ne0 (by omega) (by omega)) (fun M1 e1 M2 e2 M3 e3 => ?_)
  have sm : ∀ k, 15 ≤ k → k < 18 → mrd r 62 k := fun k h1 h2 => Or.inl ⟨rfl, h1, h2⟩
  have k3 : kp (mrd r) M M3 := by rw [e3, e2, e1]; exact kp_sI (kp_sI (kp_sI (kp_rf _ _) (sm 15 (by decide) (by decide))) (sm 16 (by decide) (by decide))) (sm 17 (by decide) (by decide))
  have m3 : mst M3 j 0 0 := by
    refine ⟨?_, ?_, fun _ => ?_⟩
    · rw [e3, mI_sI, if_neg (by omega), e2, mI_sI, if_neg (by omega), e1, mI_sI, if_pos ⟨rfl, rfl⟩]
    · rw [e3, mI_sI, if_pos ⟨rfl, rfl⟩]
    · rw [e3, mI_sI, if_neg (by omega), e2, mI_sI, if_pos ⟨rfl, rfl⟩]; rfl
  refine ⟨_, lp (fun k' (N : pm_M) s => w_X10_rule_61 Post 62 (nI kd) k' (nI s) N) (2 ^ n) (fun s N => kp (mrd r) M N ∧ mst N j 0 0 ∧ ∀ t, t < s → mI N 64 (4096 * r + t) = bI false) ?_ ?_ 0 M3 (Nat.zero_le _) ⟨k3, m3, fun t ht => absurd ht (Nat.not_lt_zero t)⟩⟩
  · intro k' s N hs ⟨kN, mN', hN⟩ hk'
    show w_X10_rule_61 Post 62 (nI kd) (k' + 1) (nI s) N
    have iN := im_mrd h kN
    simp only [w_X10_rule_61, iN.2.2.2.1, iN.2.2.2.2.1, ix_4096, forall_eq, nI_1]
    refine bf (nI_nlt (by omega) (by omega)) ⟨64, lr_62_4 iN.1, by rw [ln_64 iN.1]; exact vp_in_nI (by omega) (by decide), ?_⟩
    rw [nI_clamp (by omega), show (0 : Int32) = bI false from rfl, nar_bI]
    refine hk' _ ⟨kp_sI kN (Or.inr (Or.inl ⟨rfl, by omega⟩)), ⟨?_, ?_, fun _ => ?_⟩, fun t ht => ?_⟩
    · rw [mI_sI, if_neg (by omega)]; exact mN'.1
    · rw [mI_sI, if_neg (by omega)]; exact mN'.2.1
    · rw [mI_sI, if_neg (by omega)]; exact mN'.2.2 rfl
    · rw [mI_sI]
      by_cases z : t = s
      · subst z; rw [if_pos ⟨rfl, rfl⟩]
      · rw [if_neg (by omega)]; exact hN t (by omega)
  · intro k' N ⟨kN, mN', hN⟩
    show w_X10_rule_61 Post 62 (nI kd) (k' + 1) (nI (2 ^ n)) N
    have iN := im_mrd h kN
    have h2 := Nat.two_pow_pos n
    simp only [w_X10_rule_61, iN.2.2.2.1]
    exact bt (nI_lt (by omega) (by omega)) (hsel N _ (kk N iN kN (rm_mrd zz hrm kN) mN' hN))
theorem m_178_bad {Post : Int32 → pm_M → Prop} {kd st : Int32} (h : mI M 62 17 = st) (h0 : ¬ st = 0) (k : Post st M) : w_X10_rule_178 Post 62 kd M := by
  unfold w_X10_rule_178 w_X10_rule_200
  rw [h]
  exact bf h0 k
theorem m_178_ok {N : pm_M} {B : Nat → Bool} {Post : Int32 → pm_M → Prop} {kd : Int32} (h : im M n r A) (hr : r < 24) (h0 : B 0 = true) (kN : kp (mrd r) M N) (e : mI N 62 17 = 0) (hA : ∀ s, s < 2 ^ n → mI N 64 (4096 * r + s) = bI (B s)) (kk : ∀ M', mpo M M' n r B kd (-1) (-1) (nI 1) → Post (nI r) M') : w_X10_rule_178 Post 62 kd N := by
  unfold w_X10_rule_178 w_X10_rule_200
  rw [e]
  refine bt rfl (m_made (im_mrd h kN) hr h0 hA (fun M' k1 k2 k3 k4 k5 k6 k7 => kk M' ⟨kp_tr (kp_mono kN (fun _ _ => mrd_mad)) k1, k2, k3, k4, k5, k6, k7⟩))
end
/-- what the class makes of a row, and what the model makes of it -/
def cRu (M : pm_M) (n r : Nat) (w : Nat → Nat) (A : Nat → Nat → Bool) (c : Nat) (Q P : Nat → Nat) (kd j : Nat) (E : Int32) (B : Nat → Bool) : Prop := ∀ Post : Int32 → pm_M → Prop, (¬ E = 0 → ∀ M', kp (scr r) M M' → Post E M') → (E = 0 → ∀ M0 M1, iv M0 n r w A c Q P → kp (scr r) M M0 → cad M0 M1 n r c Q P B (nI kd) (-1) (-1) (nI 1) → Post (nI r) M1) → w_X9_rule 0 (nI kd) (nI j) M Post
def mRu (n r : Nat) (A : Nat → Nat → Bool) (kd j sz : Nat) (X : Nat → Int64) (E : Int32) (B : Nat → Bool) : Prop := ∀ M, im M n r A → rowm M j sz X → ∀ Post : Int32 → pm_M → Prop, (¬ E = 0 → ∀ M', kp (mrd r) M M' → Post E M') → (E = 0 → ∀ M', mpo M M' n r B (nI kd) (-1) (-1) (nI 1) → Post (nI r) M') → w_X10_rule 62 (nI kd) (nI j) M Post
theorem q_ru {M : pm_M} {n r : Nat} {w : Nat → Nat} {A : Nat → Nat → Bool} {c : Nat} {Q P : Nat → Nat} {kd j sz : Nat} {X : Nat → Int64} {E : Int32} {B : Nat → Bool} (h : iv M n r w A c Q P) (hr : r < 24) (hrm : rowm M j sz X) (hm : E = 0 → mat n B) (hC : cRu M n r w A c Q P kd j E B) (hM : mRu n r A kd j sz X E B) {K : Int32 → Int32 → pm_M → Prop} (k : ∀ v M', IV M' → K v v M') : w_X9_rule 0 (nI kd) (nI j) M (fun a M1 => w_X10_rule 62 (nI kd) (nI j) M1 (fun b M' => K a b M')) := by
  have zz := h.1.1
  refine hC _ (fun e0 M' k1 => ?_) (fun e0 M0 M1 h0 k0 hc => ?_)
  · have h1 := iv_kp h k1
    exact hM M' (im_iv h1) (rowm_kp zz hrm k1 (fun a i ha => by unfold scr; omega)) _ (fun _ M2 k2 => k _ _ ⟨_, _, _, _, _, _, _, iv_kp h1 (kp_mono k2 (fun _ _ => mrd_scr))⟩) (fun q => absurd q e0)
  · have z0 := k0.1
    have r0 := rowm_kp zz hrm k0 (fun a i ha => by unfold scr; omega)
    have r1 : rowm M1 j sz X := by
      obtain ⟨q, p0, p, kC, hne, hp0, c2, c4, hq, hrr⟩ := hc
      exact rowm_kp (by omega) r0 kC (fun a i ha => by unfold cap ft; omega)
    exact hM M1 (im_cad h0 hc) r1 _ (fun q => absurd e0 q) (fun _ M2 h2 => k _ _ (iv_mpo h0 hr (hm e0) hc ⟨by decide, by decide⟩ h2))
