/-! a new rule -/
def cap (r q p a k : Nat) : Prop := a = q ∨ a = p ∨ (a = 2 ∧ k = r) ∨ (a = 0 ∧ k = 11) ∨ ft a k
def cad (M M1 : pm_M) (n r c : Nat) (Q P : Nat → Nat) (B : Nat → Bool) (kd f s d : Int32) : Prop := ∃ q p0 p, kp (cap r q p0) M M1 ∧ (∀ i, i < c → i ≠ r → Q i ≠ q ∧ P i ≠ p0 ∧ P i ≠ p) ∧ (83 ≤ p0 ∧ p0 < mZ M1 ∧ mT M1 p0 = 10) ∧ mR M1 2 r = some q ∧ mR M1 q 4 = some p ∧ (83 ≤ q ∧ q < mZ M1 ∧ mT M1 q = 4) ∧ (83 ≤ p ∧ p < mZ M1 ∧ mT M1 p = 10) ∧ 2 ^ n ≤ mN M1 p ∧ mN M1 p ≤ 4096 ∧ (∀ s, s < 2 ^ n → mI M1 p s = nI (rk B s)) ∧ mI M1 q 0 = kd ∧ mI M1 q 1 = f ∧ mI M1 q 2 = s ∧ mI M1 q 3 = d ∧ mI M1 0 11 = nI (r + 1)
/-- what a check answers, whatever becomes of the new rule's own cells -/
def cok (M : pm_M) (n r c : Nat) (Q P : Nat → Nat) (B : Nat → Bool) (v : Nat) (J : Nat → pm_M → Prop) : Prop := ∀ (q p : Nat) (M9 : pm_M), kp (fun a k => a = q ∨ (a = 2 ∧ k = r)) M M9 → (∀ i, i < c → i ≠ r → Q i ≠ q ∧ P i ≠ p) → 83 ≤ q → 83 ≤ p → mT M9 q = 4 → mT M9 p = 10 → fok n B v (fun a k => a = q ∨ a = p ∨ ft a k) J M9
theorem c_add43 {M M10 : pm_M} {n r c q p v : Nat} {Q P : Nat → Nat} {B : Nat → Bool} {J : Nat → pm_M → Prop} {kd f s d : Int32} (hn : 1 ≤ n ∧ n ≤ 12) (hr : r < 24) (hm : mat n B) (hck : cok M n r c Q P B v J) (hz : 83 ≤ mZ M) (hPz : ∀ i, i < c → P i < mZ M) (hk : kp (fun a k => a = q ∨ (a = 2 ∧ k = r)) M M10) (hne : ∀ i, i < c → i ≠ r → Q i ≠ q ∧ P i ≠ p) (hl : lay M10) (h11 : mI M 0 11 = nI r) (h10 : mI M 0 10 = nI (2 ^ n - 1)) (h2 : mR M10 2 r = some q) (h4 : mR M10 q 4 = some p) (hq : 83 ≤ q ∧ q < mZ M10 ∧ mT M10 q = 4) (hp : 83 ≤ p ∧ p < mZ M10 ∧ mT M10 p = 10) (hN : mN M10 p ≤ 4096) {Post : Int32 → pm_M → Prop} (kk : ∀ M1, cad M M1 n r c Q P B kd f s d → Post (nI r) M1) : w_X9_addRule_43 Post 0 kd f s d v M10 := by
  have qp : q ≠ p := fun e => by have := hq.2.2; rw [e, hp.2.2] at this; cases this
  have e11 : mI M10 0 11 = nI r := by rw [(hk.2.2 0 11 (by omega) (by omega)).1]; exact h11
  have e10 : mI M10 0 10 = nI (2 ^ n - 1) := by rw [(hk.2.2 0 10 (by omega) (by omega)).1]; exact h10
  unfold w_X9_addRule_43
  refine ⟨2, lr_0_1 hl, ?_⟩
  rw [ln_2 hl, e11, nI_clamp (by omega)]
  refine ⟨vp_in_nI hr (by decide), fun o ho => ⟨q, by rw [ho]; exact h2, ?_⟩⟩
  simp only [forall_eq]
  have k9 : kp (fun a k => a = q ∨ (a = 2 ∧ k = r)) M (sI (sI (sI (sI M10 q 0 kd) q 1 f) q 2 s) q 3 d) := kp_sI (kp_sI (kp_sI (kp_sI hk (Or.inl rfl)) (Or.inl rfl)) (Or.inl rfl)) (Or.inl rfl)
  generalize e9 : sI (sI (sI (sI M10 q 0 kd) q 1 f) q 2 s) q 3 d = M9 at k9
  have z9 : mZ M9 = mZ M10 := by rw [← e9]; rfl
  have t9 : mT M9 = mT M10 := by rw [← e9]; rfl
  have n9 : mN M9 = mN M10 := by rw [← e9]; rfl
  have r9 : mR M9 = mR M10 := by rw [← e9]; rfl
  have e10' : mI M9 0 10 = nI (2 ^ n - 1) := by rw [(k9.2.2 0 10 (by omega) (by omega)).1]; exact h10
  rw [e10']
  refine c_fill (W := fun a k => a = q ∨ a = p ∨ ft a k) hn.2 hm (hck q p M9 k9 hne hq.1 hp.1 (by rw [t9]; exact hq.2.2) (by rw [t9]; exact hp.2.2)) (fun a k z => Or.inr (Or.inr z)) (Or.inl rfl) (fun k => Or.inr (Or.inl rfl)) hq.1 hp.1 qp (by rw [z9]; exact hq.2.1) (by rw [z9]; exact hp.2.1) (by rw [r9]; exact h4) (by rw [n9]; exact hN) (by rw [t9]; exact hp.2.2) (fun M' p' hp' k1 k2 k3 k4 k5 k6 k7 k8 k9' => ?_)
  have z1 := k9.1
  have z2 := k1.1
  have e11' : mI M' 0 11 = nI r := by
    rw [(k1.2.2 0 11 (by omega) (by unfold ft; omega)).1, (k9.2.2 0 11 (by omega) (by omega)).1]; exact h11
  rw [e11', nI_1, mI_sI, if_pos ⟨rfl, rfl⟩, nI_pred]
  have p0q : ¬ (0 = q) := by omega
  refine kk _ ⟨q, p, p', kp_sI (kp_tr (kp_mono k9 (fun a k z => ?_)) (kp_mono k1 (fun a k z => ?_))) ?_, fun i hi hne' => ⟨(hne i hi hne').1, (hne i hi hne').2, ?_⟩, ⟨hp.1, ?_, ?_⟩, ?_, k7, ⟨hq.1, ?_, ?_⟩, ⟨?_, k2, k3⟩, k5, k6, fun t ht => ?_, ?_, ?_, ?_, ?_, ?_⟩
  · unfold cap; omega
  · unfold cap ft at *; omega
  · unfold cap; omega
  · rcases hp' with e | e
    · rw [e]; exact (hne i hi hne').2
    · have := hPz i hi; omega
  · show p < mZ M'
    omega
  · show mT M' p = 10
    rw [(k1.2.1 p (by omega)).1, t9]; exact hp.2.2
  · show mR M' 2 r = some q
    rw [(k1.2.2 2 r (by omega) (by unfold ft; omega)).2.2, r9]; exact h2
  · show q < mZ M'
    omega
  · show mT M' q = 4
    rw [k4, t9]; exact hq.2.2
  · omega
  · rw [mI_sI, if_neg (by omega)]; exact k8 t ht
  · rw [mI_sI, if_neg (by omega), k9' 0, ← e9, mI_sI, if_neg (by omega), mI_sI, if_neg (by omega), mI_sI, if_neg (by omega), mI_sI, if_pos ⟨rfl, rfl⟩]
  · rw [mI_sI, if_neg (by omega), k9' 1, ← e9, mI_sI, if_neg (by omega), mI_sI, if_neg (by omega), mI_sI, if_pos ⟨rfl, rfl⟩]
  · rw [mI_sI, if_neg (by omega), k9' 2, ← e9, mI_sI, if_neg (by omega), mI_sI, if_pos ⟨rfl, rfl⟩]
  · rw [mI_sI, if_neg (by omega), k9' 3, ← e9, mI_sI, if_pos ⟨rfl, rfl⟩]
  · rw [mI_sI, if_pos ⟨rfl, rfl⟩]
theorem c_add {M : pm_M} {n r : Nat} {w : Nat → Nat} {A : Nat → Nat → Bool} {c : Nat} {Q P : Nat → Nat} {v : Nat} {B : Nat → Bool} {J : Nat → pm_M → Prop} {kd f s d : Int32} (h : iv M n r w A c Q P) (hr : r < 24) (hm : mat n B) (hck : cok M n r c Q P B v J) {Post : Int32 → pm_M → Prop} (kk : ∀ M1, cad M M1 n r c Q P B kd f s d → Post (nI r) M1) : w_X9_addRule 0 kd f s d v M Post := by
  obtain ⟨hl, hN, hW, hS, hB, hA, hrc, hR⟩ := h
  have zz := hl.1
  have hPz : ∀ i, i < c → P i < mZ M := fun i hi => (hA.2.1 i hi).2.2.2.1.2.1
  unfold w_X9_addRule
  refine ⟨2, lr_0_1 hl, ?_⟩
  rw [hN.2.2.2.1, ln_2 hl, nI_clamp (by omega)]
  refine bt (nI_lt hr (by decide)) ⟨vp_in_nI hr (by decide), fun o ho => ?_⟩
  by_cases rc : r < c
  · obtain ⟨a1, a2, a3, a4, a5⟩ := hA.2.1 r rc
    rw [ho, a1]
    exact os (c_add43 ⟨hN.1.1, hN.1.2.1⟩ hr hm hck zz hPz (kp_rf _ _) (fun i hi hne => ⟨fun e => hne (hA.2.2.2.1 i r hi rc e), fun e => hne (hA.2.2.2.2 i r hi rc e)⟩) hl hN.2.2.2.1 hN.2.2.1 a1 a2 a3 a4 a5.2 kk)
  · rw [ho, hA.2.2.1 r (by omega) hr]
    refine on (fun M6 e6 => ?_)
    unfold w_X5_init
    intro M7 e7 M8 e8
    have k6 : kp (fun a k => a = mZ M ∨ (a = 2 ∧ k = r)) M M6 := by rw [e6]; exact kp_sN (kp_rf _ _)
    have k7 : kp (fun a k => a = mZ M ∨ (a = 2 ∧ k = r)) M M7 := by rw [e7]; exact kp_sN k6
    have k8 : kp (fun a k => a = mZ M ∨ (a = 2 ∧ k = r)) M M8 := by rw [e8]; exact kp_sR k7 (Or.inl rfl)
    have z6 : mZ M6 = mZ M + 1 := by rw [e6]; rfl
    have z8 : mZ M8 = mZ M + 2 := by rw [e8, mZ_sR, e7, mZ_sN, z6]
    have n2 : mN M8 2 = 24 := by rw [(k8.2.1 2 (by omega)).2]; exact ln_2 hl
    refine ⟨by rw [n2]; exact vp_in_nI hr (by decide), fun M10 e10 => ?_⟩
    have k10 : kp (fun a k => a = mZ M ∨ (a = 2 ∧ k = r)) M M10 := by rw [e10]; exact kp_sR k8 (Or.inr ⟨rfl, rfl⟩)
    have l10 : lay M10 := lay_kp hl k10 (fun a k z ha => by
      rcases z with z | z
      · omega
      · rw [z.1]; rfl)
    have t7 : ∀ a, mT M7 a = if a = mZ M6 then 10 else mT M6 a := fun a => by rw [e7, mT_sN]
    have t6 : ∀ a, mT M6 a = if a = mZ M then 4 else mT M a := fun a => by rw [e6, mT_sN]
    refine c_add43 (q := mZ M) (p := mZ M + 1) ⟨hN.1.1, hN.1.2.1⟩ hr hm hck zz hPz k10 (fun i hi _ => ⟨?_, ?_⟩) l10 hN.2.2.2.1 hN.2.2.1 ?_ ?_ ⟨zz, ?_, ?_⟩ ⟨by omega, ?_, ?_⟩ ?_ kk
    · have := (hA.2.1 i hi).2.2.1.2.1; omega
    · have := hPz i hi; omega
    · rw [e10, mR_sR, if_pos ⟨rfl, rfl⟩]
    · rw [e10, mR_sR, if_neg (by omega), e8, mR_sR, if_pos ⟨rfl, rfl⟩, z6]
    · rw [e10, mZ_sR, z8]; omega
    · rw [e10, mT_sR, e8, mT_sR, t7, if_neg (by omega), t6, if_pos rfl]
    · rw [e10, mZ_sR, z8]; omega
    · rw [e10, mT_sR, e8, mT_sR, t7, if_pos z6.symm]
    · rw [e10, mN_sR, e8, mN_sR, e7, mN_sN, if_pos z6.symm]; decide
def mad (r a k : Nat) : Prop := (a = 62 ∧ (k = 3 ∨ (15 ≤ k ∧ k < 18))) ∨ (66 ≤ a ∧ a < 70 ∧ k = r) ∨ ((a = 64 ∨ a = 65) ∧ 4096 * r ≤ k) ∨ (74 ≤ a ∧ a < 83)
theorem mad_sr {r a k : Nat} (h : mad r a k) : sr a k = none := by
  unfold mad at h
  unfold sr
  rw [if_neg (by omega), if_neg (by omega), if_neg (by omega), if_neg (by omega), if_neg (by omega), if_neg (by omega), if_neg (by omega), if_neg (by omega), if_neg (by omega)]
  by_cases e62 : a = 62
  · rw [if_pos e62, if_neg (by omega), if_neg (by omega), if_neg (by omega)]
  rw [if_neg e62]
theorem ft_scr {r a k : Nat} (h : ft a k) : scr r a k := Or.inr (Or.inr (Or.inr (Or.inr (Or.inr (Or.inr (Or.inr (Or.inr (Or.inr (Or.inr (Or.inr (Or.inl h)))))))))))
theorem ncm {r q p a k : Nat} (hq : 83 ≤ q) (hp : 83 ≤ p) (h : (a = 0 ∧ k ≠ 11) ∨ a = 3 ∨ a = 6 ∨ a = 70 ∨ (42 ≤ a ∧ a < 62) ∨ (a = 62 ∧ k < 3) ∨ a = 63 ∨ (71 ≤ a ∧ a < 74) ∨ (a = 2 ∧ k ≠ r) ∨ ((a = 64 ∨ a = 65) ∧ k < 4096 * r) ∨ (66 ≤ a ∧ a < 70 ∧ k ≠ r)) : ¬ (cap r q p a k ∨ mad r a k) := by
  unfold cap mad ft
  rintro (z | z)
  · omega
  · omega
theorem iv_add {M M1 M2 : pm_M} {n r : Nat} {w : Nat → Nat} {A : Nat → Nat → Bool} {c : Nat} {Q P : Nat → Nat} {B : Nat → Bool} {kd f s d : Int32} (h : iv M n r w A c Q P) (hr : r < 24) (hm : mat n B) (hc : cad M M1 n r c Q P B kd f s d) (kM : kp (mad r) M1 M2) (ht : ∀ s, s < 2 ^ n → mI M2 64 (4096 * r + s) = bI (B s) ∧ mI M2 65 (4096 * r + s) = nI (rk B s)) (h66 : mI M2 66 r = kd) (h67 : mI M2 67 r = f) (h68 : mI M2 68 r = s) (h69 : mI M2 69 r = d) (hd : ∃ dd : Nat, 1 ≤ dd ∧ dd ≤ 3 ∧ d = nI dd) (h3 : mI M2 62 3 = nI (r + 1)) : IV M2 := by
  obtain ⟨hl, hN, hW, hS, hB, hA, hrc, hR⟩ := h
  obtain ⟨q, p0, p, kC, hne, hp0, c2, c4, hq, hp, hn1, hn2, hpr, q0, q1, q2, q3, c11⟩ := hc
  have zz := hl.1
  have z1 := kC.1
  have z2 := kM.1
  have hn12 : 2 ^ n ≤ 4096 := p2_le hN.1.2.1
  have kk : kp (fun a k => cap r q p0 a k ∨ mad r a k) M M2 := kp_tr (kp_mono kC (fun _ _ => Or.inl)) (kp_mono kM (fun _ _ => Or.inr))
  have eI : ∀ a k, a < 83 → ¬ (cap r q p0 a k ∨ mad r a k) → mI M2 a k = mI M a k := fun a k ha hn => (kk.2.2 a k (by omega) hn).1
  have eL : ∀ a k, a < 83 → ¬ (cap r q p0 a k ∨ mad r a k) → mL M2 a k = mL M a k := fun a k ha hn => (kk.2.2 a k (by omega) hn).2.1
  have big : ∀ a k, 83 ≤ a → a < mZ M1 → mI M2 a k = mI M1 a k ∧ mR M2 a k = mR M1 a k := fun a k ha hz => ⟨(kM.2.2 a k hz (by unfold mad; omega)).1, (kM.2.2 a k hz (by unfold mad; omega)).2.2⟩
  have capI : ∀ i, i < c → i ≠ r → ∀ k, ¬ cap r q p0 (Q i) k ∧ ¬ cap r q p0 (P i) k := fun i hi hne' k => by
    obtain ⟨b1, b2, b3, b4, b5⟩ := hA.2.1 i hi
    obtain ⟨d1, d2, d3⟩ := hne i hi hne'
    have tq := (kC.2.1 (Q i) b3.2.1).1
    have tp := (kC.2.1 (P i) b4.2.1).1
    have n1 : Q i ≠ p0 := fun e => by rw [e, hp0.2.2] at tq; rw [e] at b3; rw [b3.2.2] at tq; cases tq
    have n2 : P i ≠ q := fun e => by rw [e, hq.2.2] at tp; rw [e] at b4; rw [b4.2.2] at tp; cases tp
    unfold cap ft
    omega
  have old : ∀ i, i < c → i ≠ r → (∀ k, mI M2 (Q i) k = mI M (Q i) k ∧ mR M2 (Q i) k = mR M (Q i) k) ∧ (∀ k, mI M2 (P i) k = mI M (P i) k) := fun i hi hne' => by
    obtain ⟨b1, b2, b3, b4, b5⟩ := hA.2.1 i hi
    refine ⟨fun k => ?_, fun k => ?_⟩
    · rw [(big _ _ b3.1 (by omega)).1, (big _ _ b3.1 (by omega)).2]
      have := kC.2.2 (Q i) k b3.2.1 (capI i hi hne' k).1
      exact ⟨this.1, this.2.2⟩
    · rw [(big _ _ b4.1 (by omega)).1]
      exact (kC.2.2 (P i) k b4.2.1 (capI i hi hne' k).2).1
  refine ⟨n, r + 1, w, va_up A r B, max c (r + 1), va_up Q r q, va_up P r p, lay_kp hl kk (fun a k z ha => ?_), ⟨⟨hN.1.1, hN.1.2.1, by omega⟩, ?_, ?_, ?_, ?_, ?_, h3⟩, fun i hi => ⟨(hW i hi).1, ?_, ?_⟩, fun k hk => ?_, ⟨?_, ?_, ?_⟩, ⟨by have := hA.1; omega, fun i hi => ?_, fun i hi hi2 => ?_, fun i j hi hj e => ?_, fun i j hi hj e => ?_⟩, by omega, fun i hi => ?_⟩
  · rcases z with z | z
    · rcases z with z | z | z | z | z
      · omega
      · omega
      · rw [z.1]; rfl
      · rw [z.1, z.2]; rfl
      · exact scr_sr (r := r) (ft_scr z)
    · exact mad_sr z
  · rw [eI 0 9 (by omega) (ncm hq.1 hp0.1 (Or.inl (⟨rfl, by decide⟩)))]; exact hN.2.1
  · rw [eI 0 10 (by omega) (ncm hq.1 hp0.1 (Or.inl (⟨rfl, by decide⟩)))]; exact hN.2.2.1
  · rw [(kM.2.2 0 11 (by omega) (by unfold mad; omega)).1]; exact c11
  · rw [eI 62 0 (by omega) (ncm hq.1 hp0.1 (Or.inr (Or.inr (Or.inr (Or.inr (Or.inr (Or.inl (⟨rfl, by decide⟩))))))))]; exact hN.2.2.2.2.1
  · rw [eI 62 1 (by omega) (ncm hq.1 hp0.1 (Or.inr (Or.inr (Or.inr (Or.inr (Or.inr (Or.inl (⟨rfl, by decide⟩))))))))]; exact hN.2.2.2.2.2.1
  · rw [eI 3 i (by omega) (ncm hq.1 hp0.1 (Or.inr (Or.inl (rfl))))]; exact (hW i hi).2.1
  · rw [eI 63 i (by omega) (ncm hq.1 hp0.1 (Or.inr (Or.inr (Or.inr (Or.inr (Or.inr (Or.inr (Or.inl (rfl)))))))))]; exact (hW i hi).2.2
  · exact iS1_kp hk (hS k hk) zz kk (fun j => ncm hq.1 hp0.1 (Or.inr (Or.inr (Or.inr (Or.inr (Or.inl (⟨by omega, by omega⟩))))))) (fun j => ncm hq.1 hp0.1 (Or.inr (Or.inr (Or.inr (Or.inr (Or.inl (⟨by omega, by omega⟩))))))) (ncm hq.1 hp0.1 (Or.inr (Or.inr (Or.inr (Or.inr (Or.inr (Or.inr (Or.inr (Or.inl (⟨by decide, by decide⟩)))))))))) (ncm hq.1 hp0.1 (Or.inr (Or.inr (Or.inr (Or.inr (Or.inr (Or.inr (Or.inr (Or.inl (⟨by decide, by decide⟩)))))))))) (fun j hj => ncm hq.1 hp0.1 (Or.inr (Or.inr (Or.inr (Or.inr (Or.inr (Or.inr (Or.inr (Or.inl (⟨by decide, by decide⟩))))))))))
  · rw [eI 70 0 (by omega) (ncm hq.1 hp0.1 (Or.inr (Or.inr (Or.inr (Or.inl (rfl)))))), eI 6 3 (by omega) (ncm hq.1 hp0.1 (Or.inr (Or.inr (Or.inl (rfl)))))]; exact hB.1
  · rw [eI 70 1 (by omega) (ncm hq.1 hp0.1 (Or.inr (Or.inr (Or.inr (Or.inl (rfl)))))), eI 6 4 (by omega) (ncm hq.1 hp0.1 (Or.inr (Or.inr (Or.inl (rfl)))))]; exact hB.2.1
  · rw [eI 70 2 (by omega) (ncm hq.1 hp0.1 (Or.inr (Or.inr (Or.inr (Or.inl (rfl)))))), eI 6 5 (by omega) (ncm hq.1 hp0.1 (Or.inr (Or.inr (Or.inl (rfl)))))]; exact hB.2.2
  · by_cases e : i = r
    · subst e
      rw [up_s, up_s, (big q 4 hq.1 hq.2.1).2, (kM.2.2 2 i (by omega) (by unfold mad; omega)).2.2, (kM.2.1 q hq.2.1).1, (kM.2.1 p hp.2.1).1, (kM.2.1 p hp.2.1).2]
      exact ⟨c2, c4, ⟨hq.1, by omega, hq.2.2⟩, ⟨hp.1, by omega, hp.2.2⟩, Nat.le_trans (Nat.two_pow_pos n) hn1, hn2⟩
    · have hi2 : i < c := by omega
      rw [up_n _ _ e, up_n _ _ e]
      obtain ⟨b1, b2, b3, b4, b5⟩ := hA.2.1 i hi2
      rw [((old i hi2 e).1 4).2, (kk.2.2 2 i (by omega) (ncm hq.1 hp0.1 (Or.inr (Or.inr (Or.inr (Or.inr (Or.inr (Or.inr (Or.inr (Or.inr (Or.inl (⟨rfl, by omega⟩)))))))))))).2.2, (kk.2.1 _ b3.2.1).1, (kk.2.1 _ b4.2.1).1, (kk.2.1 _ b4.2.1).2]
      exact ⟨b1, b2, ⟨b3.1, by omega, b3.2.2⟩, ⟨b4.1, by omega, b4.2.2⟩, b5⟩
  · rw [(kk.2.2 2 i (by omega) (ncm hq.1 hp0.1 (Or.inr (Or.inr (Or.inr (Or.inr (Or.inr (Or.inr (Or.inr (Or.inr (Or.inl (⟨rfl, by omega⟩)))))))))))).2.2]; exact hA.2.2.1 i (by omega) hi2
  · by_cases ei : i = r
    · by_cases ej : j = r
      · omega
      · subst ei
        rw [up_s, up_n _ _ ej] at e
        exact absurd e.symm (hne j (by omega) ej).1
    · by_cases ej : j = r
      · subst ej
        rw [up_s, up_n _ _ ei] at e
        exact absurd e (hne i (by omega) ei).1
      · rw [up_n _ _ ei, up_n _ _ ej] at e
        exact hA.2.2.2.1 i j (by omega) (by omega) e
  · by_cases ei : i = r
    · by_cases ej : j = r
      · omega
      · subst ei
        rw [up_s, up_n _ _ ej] at e
        exact absurd e.symm (hne j (by omega) ej).2.2
    · by_cases ej : j = r
      · subst ej
        rw [up_s, up_n _ _ ei] at e
        exact absurd e (hne i (by omega) ei).2.2
      · rw [up_n _ _ ei, up_n _ _ ej] at e
        exact hA.2.2.2.2 i j (by omega) (by omega) e
  · by_cases e : i = r
    · subst e
      rw [up_s, up_s, up_s]
      refine ⟨hm, by rw [(kM.2.1 p hp.2.1).2]; exact hn1, fun t ht' => ⟨?_, ht t ht'⟩, ?_, ?_, ?_, ?_, ?_⟩
      · rw [(big p t hp.1 hp.2.1).1]; exact hpr t ht'
      · rw [(big q 0 hq.1 hq.2.1).1, q0, h66]
      · rw [(big q 1 hq.1 hq.2.1).1, q1, h67]
      · rw [(big q 2 hq.1 hq.2.1).1, q2, h68]
      · rw [(big q 3 hq.1 hq.2.1).1, q3, h69]
      · rw [h69]; exact hd
    · rw [up_n _ _ e, up_n _ _ e, up_n _ _ e]
      have hi2 : i < r := by omega
      have hp' := (hA.2.1 i (by omega)).2.2.2.1
      exact iR1_of (hR i hi2) (kk.2.1 _ hp'.2.1).2 (fun s => (old i (by omega) e).2 s) (fun s => ((old i (by omega) e).1 s).1) (fun s hs => eI _ _ (by omega) (ncm hq.1 hp0.1 (Or.inr (Or.inr (Or.inr (Or.inr (Or.inr (Or.inr (Or.inr (Or.inr (Or.inr (Or.inl (⟨Or.inl rfl, by omega⟩))))))))))))) (fun s hs => eI _ _ (by omega) (ncm hq.1 hp0.1 (Or.inr (Or.inr (Or.inr (Or.inr (Or.inr (Or.inr (Or.inr (Or.inr (Or.inr (Or.inl (⟨Or.inr rfl, by omega⟩))))))))))))) ⟨eI _ _ (by omega) (ncm hq.1 hp0.1 (Or.inr (Or.inr (Or.inr (Or.inr (Or.inr (Or.inr (Or.inr (Or.inr (Or.inr (Or.inr (⟨by decide, by decide, e⟩)))))))))))), eI _ _ (by omega) (ncm hq.1 hp0.1 (Or.inr (Or.inr (Or.inr (Or.inr (Or.inr (Or.inr (Or.inr (Or.inr (Or.inr (Or.inr (⟨by decide, by decide, e⟩)))))))))))), eI _ _ (by omega) (ncm hq.1 hp0.1 (Or.inr (Or.inr (Or.inr (Or.inr (Or.inr (Or.inr (Or.inr (Or.inr (Or.inr (Or.inr (⟨by decide, by decide, e⟩)))))))))))), eI _ _ (by omega) (ncm hq.1 hp0.1 (Or.inr (Or.inr (Or.inr (Or.inr (Or.inr (Or.inr (Or.inr (Or.inr (Or.inr (Or.inr (⟨by decide, by decide, e⟩))))))))))))⟩
