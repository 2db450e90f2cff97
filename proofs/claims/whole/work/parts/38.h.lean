/-! rules made of rules: the class -/
def x2v (kd n : Nat) (A1 A2 : Nat → Bool) (t s : Nat) : Bool := if kd = 7 then decide (s &&& t = 0) && decide (rk A1 s = bc s) else if kd = 8 then decide (s &&& t = 0) && decide (rk A1 (s ||| t) = rk A1 t + bc s) else if kd = 9 then decide (rk A1 (df (2 ^ n - 1) s) = rk A1 (2 ^ n - 1)) else decide (bc s ≤ rk A1 s + rk A2 s)
theorem c_x2 {M : pm_M} {v kd n q1 q2 t : Nat} {A1 A2 : Nat → Bool} (hn : n ≤ 12) (hkd : kd < 11) (h7 : 7 ≤ kd) (ht : t < 2 ^ n) (e0 : mI M v 0 = nI kd) (e1 : mR M v 1 = some q1) (e2 : mR M v 2 = some q2) (e3 : mI M v 3 = nI t) (e4 : mI M v 4 = nI (2 ^ n - 1)) (m1 : ∀ s, rk A1 s ≤ 16) (m2 : ∀ s, rk A2 s ≤ 16) (r1 : ∀ s, s < 2 ^ n → ∀ Po : Int32 → Prop, Po (nI (rk A1 s)) → w_X5_rankOf q1 (nI s) M Po) (r2 : ∀ s, s < 2 ^ n → ∀ Po : Int32 → Prop, Po (nI (rk A2 s)) → w_X5_rankOf q2 (nI s) M Po) {s : Nat} (hs : s < 2 ^ n) {Post : Int32 → Prop} (k : Post (bI (x2v kd n A1 A2 t s))) : w_X2_fits v (nI s) M Post := by
  have hp := p2_le hn
  have h0 := Nat.two_pow_pos n
  have b16 := bc_16 s
  have b1 := m1 s
  have b2 := m1 (s ||| t)
  have b3 := m1 t
  have b4 := m1 (df (2 ^ n - 1) s)
  have b5 := m1 (2 ^ n - 1)
  have b6 := m2 s
  have ale : s &&& t ≤ s := Nat.and_le_left
  have ne : ∀ j : Nat, j < 16 → kd ≠ j → ¬ nI kd = nI j := fun j hj hne q => hne ((nI_eq (by omega) (by omega)).mp q)
  unfold w_X2_fits w_X2_fits_61 w_X2_fits_62 w_X2_fits_105 w_X2_fits_106 w_X2_fits_141 w_X2_fits_168
  rw [e0, e3, e4, nI_and]
  refine w_bc (by omega) ⟨fun q => ?_, fun q => ?_, fun q => ?_, fun q => ?_⟩
  · have kd7 : kd = 7 := (nI_eq (b := 7) (by omega) (by decide)).mp q
    unfold x2v at k
    rw [if_pos kd7] at k
    by_cases z : s &&& t = 0
    · refine bt' ((nI_z (by omega)).mpr z) ⟨q1, e1, r1 s hs _ ?_⟩
      rw [nI_eq (by omega) (by omega)]
      by_cases y : rk A1 s = bc s
      · rw [decide_eq_true z, decide_eq_true y] at k
        exact bt' y ⟨Or.inr rfl, k⟩
      · rw [decide_eq_false y, Bool.and_false] at k
        exact bf' y ⟨Or.inl rfl, k⟩
    · rw [decide_eq_false z, Bool.false_and] at k
      exact bf' (by rw [nI_z (by omega)]; exact z) ⟨Or.inl rfl, k⟩
  · have kd7 : kd = 8 := (nI_eq (b := 8) (by omega) (by decide)).mp q
    unfold x2v at k
    rw [if_neg (by omega), if_pos kd7] at k
    by_cases z : s &&& t = 0
    · rw [nI_or]
      refine bt' ((nI_z (by omega)).mpr z) ⟨q1, e1, r1 _ (or_lt hs ht) _ (r1 t ht _ ?_)⟩
      rw [nI_add, nI_eq (by omega) (by omega)]
      by_cases y : rk A1 (s ||| t) = rk A1 t + bc s
      · rw [decide_eq_true z, decide_eq_true y] at k
        exact bt' y ⟨Or.inr rfl, k⟩
      · rw [decide_eq_false y, Bool.and_false] at k
        exact bf' y ⟨Or.inl rfl, k⟩
    · rw [decide_eq_false z, Bool.false_and] at k
      exact bf' (by rw [nI_z (by omega)]; exact z) ⟨Or.inl rfl, k⟩
  · have kd7 : kd = 9 := (nI_eq (b := 9) (by omega) (by decide)).mp q
    unfold x2v at k
    rw [if_neg (by omega), if_neg (by omega), if_pos kd7] at k
    rw [nI_inv]
    refine ⟨q1, e1, r1 _ (sb_lt (sb_df _ _) (by omega)) _ (r1 _ (by omega) _ ?_)⟩
    rw [nI_eq (by omega) (by omega)]
    by_cases y : rk A1 (df (2 ^ n - 1) s) = rk A1 (2 ^ n - 1)
    · rw [decide_eq_true y] at k
      exact bt' y ⟨Or.inr rfl, k⟩
    · rw [decide_eq_false y] at k
      exact bf' y ⟨Or.inl rfl, k⟩
  · have n7 : kd ≠ 7 := fun z => q 0 (by decide) (by rw [z])
    have n8 : kd ≠ 8 := fun z => q 1 (by decide) (by rw [z])
    have n9 : kd ≠ 9 := fun z => q 2 (by decide) (by rw [z])
    unfold x2v at k
    rw [if_neg n7, if_neg n8, if_neg n9] at k
    refine ⟨q1, e1, r1 s hs _ ⟨q2, e2, r2 s hs _ ?_⟩⟩
    rw [nI_add, nI_ltI (by omega) (by omega)]
    by_cases y : bc s ≤ rk A1 s + rk A2 s
    · rw [decide_eq_true y] at k
      exact bf (by omega) ⟨Or.inr rfl, k⟩
    · rw [decide_eq_false y] at k
      exact bt (by omega) ⟨Or.inl rfl, k⟩
section
variable {M : pm_M} {n r : Nat} {w : Nat → Nat} {A : Nat → Nat → Bool} {c : Nat} {Q P : Nat → Nat}
theorem c_cok {i1 i2 v kd t : Nat} {B : Nat → Bool} (h : iv M n r w A c Q P) (hi1 : i1 < r) (hi2 : i2 < r) (hkd : kd < 11) (h7 : 7 ≤ kd) (ht : t < 2 ^ n) (vz : v < mZ M) (v83 : 83 ≤ v) (vT : mT M v = 1) (e0 : mI M v 0 = nI kd) (e1 : mR M v 1 = some (Q i1)) (e2 : mR M v 2 = some (Q i2)) (e3 : mI M v 3 = nI t) (e4 : mI M v 4 = nI (2 ^ n - 1)) (hx : ∀ s, 1 ≤ s → s < 2 ^ n → prt B s → x2v kd n (A i1) (A i2) t s = B s) : cok M n r c Q P B v (fun _ _ => True) := by
  intro q p M9 k9 hne q83 p83 tq tp
  have hn := iv_n h
  obtain ⟨hl, hN, hW, hS, hB, hA, hrc, hR⟩ := h
  have hp2 := p2_le hn.2.1
  refine ⟨trivial, fun _ _ _ _ _ => trivial, fun _ _ _ _ => trivial, fun s M' kM _ s1 hs pt K9 kk => ?_⟩
  have z9 := k9.1
  have zM := kM.1
  have v9 : mT M9 v = 1 := ((k9.2.1 v vz).1).trans vT
  have vq : v ≠ q := fun e => by rw [e, tq] at v9; cases v9
  have vp : v ≠ p := fun e => by rw [e, tp] at v9; cases v9
  have tv : mT M' v = 1 := ((kM.2.1 v (by omega)).1).trans v9
  have av : ∀ k, mI M' v k = mI M v k ∧ mR M' v k = mR M v k := fun k => by
    have a := kM.2.2 v k (by omega) (by unfold ft; omega)
    have b := k9.2.2 v k vz (by omega)
    exact ⟨a.1.trans b.1, a.2.2.trans b.2.2⟩
  have rko : ∀ i, i < r → ∀ s, s < 2 ^ n → ∀ Po : Int32 → Prop, Po (nI (rk (A i) s)) → w_X5_rankOf (Q i) (nI s) M' Po := fun i hi s hs Po k => by
    obtain ⟨b1, b2, b3, b4, b5⟩ := hA.2.1 i (by omega)
    obtain ⟨d1, d2⟩ := hne i (by omega) (by omega)
    have tQ : mT M9 (Q i) = 4 := ((k9.2.1 _ b3.2.1).1).trans b3.2.2
    have tP : mT M9 (P i) = 10 := ((k9.2.1 _ b4.2.1).1).trans b4.2.2
    have n1 : Q i ≠ p := fun e => by rw [e, tp] at tQ; cases tQ
    have n2 : P i ≠ q := fun e => by rw [e, tq] at tP; cases tP
    have a1 : mR M' (Q i) 4 = some (P i) := by
      rw [(kM.2.2 (Q i) 4 (by omega) (by unfold ft; omega)).2.2, (k9.2.2 (Q i) 4 b3.2.1 (by omega)).2.2]; exact b2
    have a2 : mI M' (P i) s = nI (rk (A i) s) := by
      rw [(kM.2.2 (P i) s (by omega) (by unfold ft; omega)).1, (k9.2.2 (P i) s b4.2.1 (by omega)).1]
      exact ((hR i hi).2.2.1 s hs).1
    have a3 : mN M' (P i) = mN M (P i) := ((kM.2.1 _ (by omega)).2).trans (k9.2.1 _ b4.2.1).2
    have a4 := (hR i hi).2.1
    exact c_rank0 a1 (by omega) (by omega) (by rw [a2]; exact k)
  have sm : ∀ i, i < r → ∀ s, rk (A i) s ≤ 16 := fun i hi s => Nat.le_trans (rk_le (hR i hi).1.1) (bc_16 s)
  refine ⟨fun e => ?_, fun _ => ?_, fun e => ?_, fun e => ?_, fun e => ?_⟩
  · rw [tv] at e; cases e
  · refine c_x2 (A1 := A i1) (A2 := A i2) hn.2.1 hkd h7 ht ((av 0).1.trans e0) ((av 1).2.trans e1) ((av 2).2.trans e2) ((av 3).1.trans e3) ((av 4).1.trans e4) (sm i1 hi1) (sm i2 hi2) (rko i1 hi1) (rko i2 hi2) hs ?_
    rw [hx s s1 hs pt]
    exact kk M' (kp_rf _ _) trivial
  · rw [tv] at e; cases e
  · rw [tv] at e; cases e
  · rw [tv] at e; cases e
theorem c_der {i1 i2 kd t d1 d2 : Nat} {B : Nat → Bool} (h : iv M n r w A c Q P) (hi1 : i1 < r) (hi2 : i2 < r) (hkd : kd < 11) (h7 : 7 ≤ kd) (ht : t < 2 ^ n) (e1 : mI M 69 i1 = nI d1) (e2 : mI M 69 i2 = nI d2) (hd1 : d1 ≤ 3) (hd2 : d2 ≤ 3) (hm : mat n B) (hx : ∀ s, 1 ≤ s → s < 2 ^ n → prt B s → x2v kd n (A i1) (A i2) t s = B s) {Post : Int32 → pm_M → Prop} (p8 : r = 24 → Post (-8) M) (p3 : r < 24 → (d1 = 3 ∨ d2 = 3) → Post (-3) M) (kk : ∀ M0 M1, r < 24 → d1 < 3 → d2 < 3 → iv M0 n r w A c Q P → kp (scr r) M M0 → cad M0 M1 n r c Q P B (nI kd) (nI i1) (if kd = 10 then nI i2 else -1) (nI (max d1 d2 + 1)) → Post (nI r) M1) : w_X9_addDerived 0 (nI kd) (nI i1) (nI i2) (nI t) M Post := by
  have hn := iv_n h
  have zz := h.1.1
  have q1 := (h.2.2.2.2.2.2.2 i1 hi1).2.2.2.2.2.2.1
  have q2 := (h.2.2.2.2.2.2.2 i2 hi2).2.2.2.2.2.2.1
  unfold w_X9_addDerived
  refine c_ruleAt h hi1 (c_ruleAt h hi2 (os (os (c_isSet h ht (bf' one0 ?_)))))
  rw [h.2.1.2.2.2.1, q1, q2, e1, e2]
  by_cases r24 : r = 24
  · rw [r24]
    exact bf (by decide) (p8 r24)
  · refine bt (nI_lt (b := 24) (by omega) (by decide)) (w_max (by omega) (by omega) ?_)
    by_cases d3 : max d1 d2 < 3
    · refine bt (nI_lt (b := 3) d3 (by decide)) (fun M13 e13 => ?_)
      unfold w_X2_init
      intro N1 f1 N2 f2 N3 f3 N4 f4 N5 f5
      have z13 : mZ M13 = mZ M + 1 := by rw [e13]; rfl
      have kn : kp (fun a k => scr r a k ∨ mZ M ≤ a) M N5 := by
        rw [f5, f4, f3, f2, f1, e13]
        exact kp_sI (kp_sI (kp_sR (kp_sR (kp_sI (kp_sN (kp_rf _ _)) (Or.inr (Nat.le_refl _))) (Or.inr (Nat.le_refl _))) (Or.inr (Nat.le_refl _))) (Or.inr (Nat.le_refl _))) (Or.inr (Nat.le_refl _))
      have k5 := kp_new kn
      have h5 := iv_kp h k5
      have z5 : mZ N5 = mZ M + 1 := by rw [f5, f4, f3, f2, f1]; exact z13
      have e10 : mI M13 0 10 = nI (2 ^ n - 1) := by rw [e13, mI_sN, if_neg (by omega)]; exact h.2.1.2.2.1
      have ck : cok N5 n r c Q P B (mZ M) (fun _ _ => True) := by
        refine c_cok h5 hi1 hi2 hkd h7 ht (by omega) zz ?_ ?_ ?_ ?_ ?_ ?_ hx
        · rw [f5, f4, f3, f2, f1]
          show mT M13 (mZ M) = 1
          rw [e13, mT_sN, if_pos rfl]
        · rw [f5, mI_sI, if_neg (by omega), f4, mI_sI, if_neg (by omega), f3, mI_sR, f2, mI_sR, f1, mI_sI, if_pos ⟨rfl, rfl⟩]
        · rw [f5, f4]
          show mR N3 (mZ M) 1 = some (Q i1)
          rw [f3, mR_sR, if_neg (by omega), f2, mR_sR, if_pos ⟨rfl, rfl⟩]
        · rw [f5, f4]
          show mR N3 (mZ M) 2 = some (Q i2)
          rw [f3, mR_sR, if_pos ⟨rfl, rfl⟩]
        · rw [f5, mI_sI, if_neg (by omega), f4, mI_sI, if_pos ⟨rfl, rfl⟩]
        · rw [f5, mI_sI, if_pos ⟨rfl, rfl⟩]; exact e10
      unfold w_X9_addDerived_106
      rw [nI_1]
      have fin : ∀ x : Int32, x = (if kd = 10 then nI i2 else -1) → w_X9_addRule 0 (nI kd) (nI i1) x (nI (max d1 d2 + 1)) (mZ M) N5 (fun r_2 M_1 => Post r_2 M_1) := fun x ex => by
        rw [ex]
        exact c_add h5 (by omega) hm ck (fun M1 hc => kk N5 M1 (by omega) (by omega) (by omega) h5 k5 hc)
      refine ⟨fun q => fin _ ?_, fun q => fin _ ?_⟩
      · rw [if_neg (fun z => q (by rw [z]; rfl))]
      · rw [if_pos ((nI_eq (b := 10) (by omega) (by decide)).mp q)]
    · refine bf (nI_nlt (b := 3) (by omega) (by omega)) (p3 (by omega) (by omega))
theorem c_der0 {x y z : Int32} {kd : Nat} (h : iv M n r w A c Q P) (hb : (x < 0 ∨ nI r ≤ x) ∨ (y < 0 ∨ nI r ≤ y) ∨ (z < 0 ∨ nI (2 ^ n - 1) < z)) {Post : Int32 → pm_M → Prop} (k : Post (-2) M) : w_X9_addDerived 0 (nI kd) x y z M Post := by
  unfold w_X9_addDerived w_X9_addDerived_33
  rcases ru_cases h x with hx | ⟨i, hi, rfl⟩
  · rcases ru_cases h y with hy | ⟨j, hj, rfl⟩
    · exact c_ruleAt0 h hx (c_ruleAt0 h hy (on k))
    · exact c_ruleAt0 h hx (c_ruleAt h hj (on k))
  · rcases ru_cases h y with hy | ⟨j, hj, rfl⟩
    · exact c_ruleAt h hi (c_ruleAt0 h hy (os (on k)))
    · refine c_ruleAt h hi (c_ruleAt h hj (os (os (c_isSet0 h ?_ (bt' rfl k)))))
      have hn := iv_n h
      rcases hb with hb | hb | hb
      · rcases hb with hb | hb
        · exact absurd hb (nI_pos (by omega))
        · exact absurd hb (nI_ge hi (by omega))
      · rcases hb with hb | hb
        · exact absurd hb (nI_pos (by omega))
        · exact absurd hb (nI_ge hj (by omega))
      · exact hb
end
