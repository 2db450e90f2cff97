/-! pack -/
theorem nI_subN {a b : Nat} (h : b ≤ a) : nI a - nI b = nI (a - b) := by
  have : nI a = nI (a - b) + nI b := by rw [nI_add, Nat.sub_add_cancel h]
  rw [this, Int32.add_sub_cancel]
theorem bc_all : ∀ n, n ≤ 12 → bc (2 ^ n - 1) = n := by decide
theorem sb_all {n s : Nat} (h : s < 2 ^ n) : sb s (2 ^ n - 1) := fun i hi => by
  rw [Nat.testBit_two_pow_sub_one]
  simpa using bit_lt h hi
def pki (A : Nat → Bool) (R s k : Nat) : Prop := pk A R k s ∧ ∀ k', pk A R k' s → k' ≤ k
theorem pk_bc {n : Nat} {A : Nat → Bool} (hm : mat n A) {R : Nat} (hR : 0 < R) {k s : Nat} (hs : s < 2 ^ n) (h : pk A R k s) : k ≤ bc s := by
  have h1 := pk_nec hm k s hs h 0 (Nat.two_pow_pos n)
  have h2 : rk A 0 = 0 := by
    have := rk_le (s := 0) hm.1
    rw [bc_0] at this
    omega
  have h3 : df s 0 = s := by
    apply Nat.eq_of_testBit_eq
    intro j
    rw [df_bit, Nat.zero_testBit]; simp
  rw [h2, h3, Nat.sub_zero] at h1
  have : k * 1 ≤ k * R := Nat.mul_le_mul_left k hR
  omega
section
variable {M : pm_M} {n r : Nat} {w : Nat → Nat} {A : Nat → Nat → Bool} {c : Nat} {Q P : Nat → Nat}
theorem c_pack (h : iv M n r w A c Q P) {i : Nat} (hi : i < r) (hR : 0 < rk (A i) (2 ^ n - 1)) {Post : Int32 → Prop} (k : ∀ v, pki (A i) (rk (A i) (2 ^ n - 1)) (2 ^ n - 1) v → Post (nI v)) : ∃ n_10 : Nat, w_X9_pack_37 Post 0 (Q i) (nI (rk (A i) (2 ^ n - 1))) M n_10 (nI n) (0 : Int32) := by
  have hn := iv_n h
  have hp := iv_p h
  have h0 := Nat.two_pow_pos n
  have kR := rk_sm h (s := 2 ^ n - 1) hi
  have hm := iv_mat h hi
  have bcd : ∀ s, s < 2 ^ n → bc (df (2 ^ n - 1) s) = n - bc s := fun s hs => by
    have e := bc_df (sb_all hs)
    rw [bc_all n hn.2.1] at e
    omega
  refine ⟨_, lp (fun k (v : Nat) t => w_X9_pack_37 Post 0 (Q i) (nI (rk (A i) (2 ^ n - 1))) M k (nI v) (nI t)) (2 ^ n) (fun t v => v ≤ n ∧ (∀ s, s < t → v * (rk (A i) (2 ^ n - 1) - rk (A i) s) ≤ n - bc s) ∧ ∀ k', pk (A i) (rk (A i) (2 ^ n - 1)) k' (2 ^ n - 1) → k' ≤ v) ?_ ?_ 0 n (by omega) ⟨Nat.le_refl n, fun s hs => absurd hs (by omega), fun k' hk' => ?_⟩⟩
  · intro k t v ht ⟨v1, v2, v3⟩ hk
    show w_X9_pack_37 Post 0 (Q i) (nI (rk (A i) (2 ^ n - 1))) M (k + 1) (nI v) (nI t)
    simp only [w_X9_pack_37, w_X9_pack_81, nI_1, forall_eq, h.2.1.2.2.1, h.2.1.2.1]
    refine bf (nI_nlt (by omega) (by omega)) (c_rank h hi ht ?_)
    have le := rk_mono hm.1 (sb_all ht)
    have kt := rk_sm h (s := t) hi
    have bt1 := bc_le_n ht
    rw [nI_subN le]
    by_cases e : rk (A i) (2 ^ n - 1) - rk (A i) t = 0
    · rw [e]
      refine bt (by decide) (hk v ⟨v1, fun s hs => ?_, v3⟩)
      by_cases z : s = t
      · subst z; rw [e, Nat.mul_zero]; exact Nat.zero_le _
      · exact v2 s (by omega)
    · refine bf (nI_nle (by omega) (by omega)) (w_bc (by omega) ⟨nI_ne0 (by omega) (by omega), ?_⟩)
      rw [nI_subN bt1, pk_div (by omega) (by omega) (by omega)]
      have q1 : (n - bc t) / (rk (A i) (2 ^ n - 1) - rk (A i) t) ≤ n - bc t := Nat.div_le_self _ _
      refine w_min (by omega) (by omega) (hk _ ⟨by omega, fun s hs => ?_, fun k' hk' => ?_⟩)
      · by_cases z : s = t
        · subst z
          refine Nat.le_trans (Nat.mul_le_mul_right _ (Nat.min_le_right _ _)) ?_
          exact Nat.div_mul_le_self _ _
        · exact Nat.le_trans (Nat.mul_le_mul_right _ (Nat.min_le_left _ _)) (v2 s (by omega))
      · have a1 := v3 k' hk'
        have a2 := pk_nec hm k' _ (by omega) hk' t ht
        rw [bcd t ht] at a2
        have a3 := (Nat.le_div_iff_mul_le (by omega)).mpr a2
        omega
  · intro k' v ⟨v1, v2, v3⟩
    show w_X9_pack_37 Post 0 (Q i) (nI (rk (A i) (2 ^ n - 1))) M (k' + 1) (nI v) (nI (2 ^ n))
    simp only [w_X9_pack_37, h.2.1.2.2.1]
    refine bt (nI_lt (by omega) (by omega)) (k v ⟨pk_suf (by omega) hm (by omega) rfl (fun s hs => ?_), v3⟩)
    have := sb_le hs
    rw [bcd s (by omega)]
    exact v2 s (by omega)
  · have := pk_bc hm hR (by omega) hk'
    rw [bc_all n hn.2.1] at this
    exact this
theorem m_pack (h : iv M n r w A c Q P) {i : Nat} (hi : i < r) (hR : 0 < rk (A i) (2 ^ n - 1)) {Post : Int32 → pm_M → Prop} (k : ∀ v M', pki (A i) (rk (A i) (2 ^ n - 1)) (2 ^ n - 1) v → kp (scr r) M M' → Post (nI v) M') : ∃ q_5 : Nat, mR M 62 23 = some q_5 ∧ (vp_in (0 : Int32) (mN M q_5) ∧ ∀ M_7 : pm_M, M_7 = sI M q_5 (0 : Int32).toNatClampNeg (vp_nar .byte (0 : Int32)) → (∃ n_9 : Nat, w_X10_pack_34 Post 62 (nI i) n_9 (1 : Int32) M_7)) := by
  have hn := iv_n h
  have hp := iv_p h
  have h0 := Nat.two_pow_pos n
  have hm := iv_mat h hi
  have sc80 : ∀ t, scr r 80 t := fun t => by unfold scr; omega
  generalize eR : rk (A i) (2 ^ n - 1) = R at hR k
  have flR : ∀ s, fl n (A i) s = true ↔ A i s = true ∧ bc s = R := fun s => by
    unfold fl; rw [eR]; simp
  refine ⟨80, lr_62_23 h.1, by rw [ln_80 h.1]; exact vp_in_nI (n := 0) (by decide) (by decide), ?_⟩
  intro M3 e3
  have k3 : kp (scr r) M M3 := by rw [e3]; exact kp_sI (kp_rf _ _) (sc80 _)
  refine ⟨_, lp (fun k (N : pm_M) s => w_X10_pack_34 Post 62 (nI i) k (nI s) N) (2 ^ n) (fun s N => 1 ≤ s ∧ kp (scr r) M N ∧ ∀ t, t < s → ∃ m, mI N 80 t = nI m ∧ pki (A i) R t m) ?_ ?_ 1 M3 (by omega) ⟨Nat.le_refl 1, k3, fun t ht => ⟨0, ?_, trivial, fun k' hk' => ?_⟩⟩⟩
  · intro k s N hs ⟨s1, kN, hd⟩ hk
    show w_X10_pack_34 Post 62 (nI i) (k + 1) (nI s) N
    have s0 : s ≠ 0 := by omega
    have hN := iv_kp h kN
    obtain ⟨l, hl, hb, hlow, -⟩ := low_ex s0 (by omega)
    simp only [w_X10_pack_34, forall_eq, hN.2.1.2.2.2.2.2.1, hlow, nI_inv]
    have ln : l < n := bit_lt hs hb
    have rs : df s (b1 l) < s := df_lt hb
    have hps : ∀ p, sb p (df s (b1 l)) → p ||| b1 l < 2 ^ n := fun p hp => sb_add (by have := sb_le hp; omega) ln
    have dfe : ∀ p, sb p (df s (b1 l)) → df s (p ||| b1 l) = df (df s (b1 l)) p := fun p hp => by
      apply Nat.eq_of_testBit_eq
      intro j
      rw [df_bit, df_bit, df_bit, Nat.testBit_or]
      cases s.testBit j <;> cases p.testBit j <;> cases (b1 l).testBit j <;> rfl
    have sbe : ∀ p, sb p (df s (b1 l)) → sb (p ||| b1 l) s := fun p hp => sb_or (sb_tr hp (sb_df _ _)) (sb_b1.mpr hb)
    have bs : ∀ v, pk (A i) R v s → v ≤ 16 := fun v hv => by
      have := pk_bc hm hR hs hv
      have := bc_16 s
      omega
    refine bf (nI_nlt (by omega) (by omega)) ⟨80, lr_62_23 hN.1, by rw [ln_80 hN.1]; exact vp_in_nI (by omega) (by decide), ?_⟩
    rw [nI_clamp (by omega)]
    obtain ⟨m0, e0, hf0⟩ := hd _ rs
    rw [e0]
    have step : ∀ (K : Int32 → Prop) (p v : Nat), sb p (df s (b1 l)) → pk (A i) R v s → m0 ≤ v → (∀ q, sb q (df s (b1 l)) → p < q → fl n (A i) (q ||| b1 l) = true → ∀ m, pk (A i) R m (df (df s (b1 l)) q) → m + 1 ≤ v) → (∀ v', pk (A i) R v' s → m0 ≤ v' → (∀ q, sb q (df s (b1 l)) → p ≤ q → fl n (A i) (q ||| b1 l) = true → ∀ m, pk (A i) R m (df (df s (b1 l)) q) → m + 1 ≤ v') → K (nI v')) → w_X10_isFull 62 (nI i) (nI p ||| nI (b1 l)) N (fun r_7 => (r_7 = 0 → K (nI v)) ∧ (¬ r_7 = 0 → ∃ q_9 : Nat, mR N 62 23 = some q_9 ∧ (vp_in (nI (df s (b1 l)) &&& (nI p ^^^ (-1 : Int32))) (mN N q_9) ∧ w_J9_max_7cf53 (nI v) ((1 : Int32) + (mI N q_9 (nI (df s (b1 l)) &&& (nI p ^^^ (-1 : Int32))).toNatClampNeg)) N (fun r_11 => K r_11)))) := by
      intro K p v hsp hv1 hv2 hv3 hK
      rw [nI_or]
      refine m_isFull hN hi (hps p hsp) (b0 (fun eA => ?_) (fun eA => ?_))
      · have hlt : df (df s (b1 l)) p < s := by have := sb_le (sb_df (df s (b1 l)) p); omega
        rw [nI_inv]
        refine ⟨80, lr_62_23 hN.1, by rw [ln_80 hN.1]; exact vp_in_nI (by omega) (by decide), ?_⟩
        obtain ⟨m, e, hf⟩ := hd _ hlt
        have c1 : pk (A i) R (m + 1) s := by
          refine ⟨p ||| b1 l, sbe p hsp, ((flR _).mp eA).1, ((flR _).mp eA).2, ?_⟩
          rw [dfe p hsp]; exact hf.1
        have b1' := bs _ c1
        have b2' := bs _ hv1
        rw [nI_clamp (by omega), e, show (1 : Int32) = nI 1 from rfl, nI_add, Nat.add_comm]
        refine w_max (by omega) (by omega) (hK _ ?_ (by omega) (fun q hq hpq hA m' hm' => ?_))
        · by_cases z : v ≤ m + 1
          · rw [Nat.max_eq_right z]; exact c1
          · rw [Nat.max_eq_left (by omega)]; exact hv1
        · by_cases z : p = q
          · subst z
            have := hf.2 m' hm'
            omega
          · have := hv3 q hq (by omega) hA m' hm'
            omega
      · refine hK v hv1 hv2 (fun q hq hpq hA m' hm' => ?_)
        by_cases z : p = q
        · subst z; rw [eA] at hA; cases hA
        · exact hv3 q hq (by omega) hA m' hm'
    obtain ⟨kf, hkf⟩ := lps (fun k' (v : Nat) p => w_X10_pack_67 Post (w_X10_pack_34 Post 62 (nI i) k) 62 (nI i) (nI s) (nI (b1 l)) (nI (df s (b1 l))) N k' (nI v) (nI p)) (df s (b1 l)) (fun p v => pk (A i) R v s ∧ m0 ≤ v ∧ (∀ q, sb q (df s (b1 l)) → p < q → fl n (A i) (q ||| b1 l) = true → ∀ m, pk (A i) R m (df (df s (b1 l)) q) → m + 1 ≤ v)) (by
        intro k' p v hsp p0 ⟨v1, v2, v3⟩ hk'
        show w_X10_pack_67 Post (w_X10_pack_34 Post 62 (nI i) k) 62 (nI i) (nI s) (nI (b1 l)) (nI (df s (b1 l))) N (k' + 1) (nI v) (nI p)
        have hpl := sb_le hsp
        simp only [w_X10_pack_67, w_X10_pack_105, w_X10_pack_121]
        refine bf (nI_pos (by omega)) (step (fun x => (¬ nI p = 0 → w_X10_pack_67 Post (w_X10_pack_34 Post 62 (nI i) k) 62 (nI i) (nI s) (nI (b1 l)) (nI (df s (b1 l))) N k' x ((nI p - 1) &&& nI (df s (b1 l)))) ∧ (nI p = 0 → w_X10_pack_67 Post (w_X10_pack_34 Post 62 (nI i) k) 62 (nI i) (nI s) (nI (b1 l)) (nI (df s (b1 l))) N k' x (-1))) p v hsp v1 v2 v3 ?_)
        intro v' w1 w2 w3
        refine bf' (by rw [nI_z (by omega)]; exact p0) ?_
        rw [nI_prev p0]
        refine hk' v' ⟨w1, w2, fun q hq hlt => w3 q hq ?_⟩
        by_cases z : q < p
        · have := part_prev _ p q hsp hq z
          omega
        · omega) (by
        intro k' v ⟨v1, v2, v3⟩
        show w_X10_pack_67 Post (w_X10_pack_34 Post 62 (nI i) k) 62 (nI i) (nI s) (nI (b1 l)) (nI (df s (b1 l))) N (k' + 1 + 1) (nI v) (nI 0)
        have s00 : sb 0 (df s (b1 l)) := fun j hj => by rw [Nat.zero_testBit] at hj; cases hj
        obtain ⟨k1, e1⟩ : ∃ k1, k1 = k' + 1 := ⟨_, rfl⟩
        rw [← e1]
        simp only [w_X10_pack_67, w_X10_pack_105, w_X10_pack_121]
        refine bf (nI_pos (n := 0) (by omega)) (step (fun x => (¬ nI 0 = 0 → w_X10_pack_67 Post (w_X10_pack_34 Post 62 (nI i) k) 62 (nI i) (nI s) (nI (b1 l)) (nI (df s (b1 l))) N k1 x ((nI 0 - 1) &&& nI (df s (b1 l)))) ∧ (nI 0 = 0 → w_X10_pack_67 Post (w_X10_pack_34 Post 62 (nI i) k) 62 (nI i) (nI s) (nI (b1 l)) (nI (df s (b1 l))) N k1 x (-1))) 0 v s00 v1 v2 v3 ?_)
        intro v' w1 w2 w3
        refine bt' rfl ?_
        rw [e1]
        simp only [w_X10_pack_67, forall_eq]
        refine bt (by decide) ⟨80, lr_62_23 hN.1, by rw [ln_80 hN.1]; exact vp_in_nI (by omega) (by decide), ?_⟩
        have b2' := bs _ w1
        rw [nar_b _ (by omega), nI_clamp (by omega), nI_1]
        refine hk _ ⟨by omega, kp_sI kN (sc80 _), fun t ht => ?_⟩
        rw [mI_sI]
        by_cases z : t = s
        · subst z
          rw [if_pos ⟨rfl, rfl⟩]
          refine ⟨v', rfl, w1, fun k2 hk2 => ?_⟩
          rcases pk_low _ _ l hk2 hb with g | ⟨k3, e3, b, b1', b2', b3', b4', b5'⟩
          · have := hf0.2 _ g
            omega
          have sbq : sb (df b (b1 l)) (df t (b1 l)) := fun j hj => by
            rw [df_bit] at hj ⊢
            have := b1' j
            revert hj this
            cases b.testBit j <;> cases (b1 l).testBit j <;> simp
          have bq : df b (b1 l) ||| b1 l = b := by
            apply Nat.eq_of_testBit_eq
            intro j
            rw [Nat.testBit_or, df_bit]
            have := (sb_b1 (i := l) (s := b)).mpr b2' j
            revert this
            cases b.testBit j <;> cases (b1 l).testBit j <;> simp
          have := w3 _ sbq (by omega) (by rw [bq, flR]; exact ⟨b3', b4'⟩) k3 (by rw [← dfe _ sbq, bq]; exact b5')
          omega
        · rw [if_neg (by omega)]
          exact hd t (by omega)) _ (sb_rf _)
    exact ⟨kf, hkf m0 ⟨pk_mono _ _ _ (sb_df _ _) hf0.1, Nat.le_refl _, fun q hq hlt => absurd (sb_le hq) (by omega)⟩⟩
  · intro k' N ⟨_, kN, hd⟩
    show w_X10_pack_34 Post 62 (nI i) (k' + 1) (nI (2 ^ n)) N
    have hN := iv_kp h kN
    simp only [w_X10_pack_34, hN.2.1.2.2.2.2.2.1]
    obtain ⟨m, e, hf⟩ := hd (2 ^ n - 1) (by omega)
    refine bt (nI_lt (by omega) (by omega)) ⟨80, lr_62_23 hN.1, by rw [ln_80 hN.1]; exact vp_in_nI (by omega) (by decide), ?_⟩
    rw [nI_clamp (by omega), e]
    exact k m N hf kN
  · have : t = 0 := by omega
    subst this
    rw [e3, mI_sI, if_pos ⟨rfl, rfl⟩, nar_0]
  · have : t = 0 := by omega
    subst this
    have := pk_bc hm hR (by omega) hk'
    rw [bc_0] at this
    exact this
theorem pki_u {B : Nat → Bool} {R s k k' : Nat} (h : pki B R s k) (g : pki B R s k') : k = k' := Nat.le_antisymm (g.2 _ h.1) (h.2 _ g.1)
theorem q_pack (h : iv M n r w A c Q P) (x : Int32) : ∀ K : Int32 → Int32 → pm_M → Prop, (∀ v M', kp (scr r) M M' → K v v M') → w_X9_pack 0 x M (fun a => w_X10_pack 62 x M (fun b M' => K a b M')) := by
  intro K k
  have hn := iv_n h
  have h0 := Nat.two_pow_pos n
  rcases ru_cases h x with hx | ⟨i, hi, rfl⟩
  · unfold w_X9_pack w_X10_pack
    exact c_ruleAt0 h hx (on (m_isRule0 h hx (bt' rfl (k _ _ (kp_rf _ _)))))
  · unfold w_X9_pack
    have kR := rk_sm h (s := 2 ^ n - 1) hi
    rw [h.2.1.2.1, h.2.1.2.2.1]
    refine c_ruleAt h hi (os (c_rank h hi (by omega) ?_))
    have mm : ∀ {Post : Int32 → pm_M → Prop}, w_X10_rankOf 62 (nI i) (mI M 62 1) M (fun r_3 => ((¬ r_3 = 0 → (∃ q_5 : Nat, mR M 62 23 = some q_5 ∧ (vp_in (0 : Int32) (mN M q_5) ∧ ∀ M_7 : pm_M, M_7 = sI M q_5 (0 : Int32).toNatClampNeg (vp_nar .byte (0 : Int32)) → (∃ n_9 : Nat, w_X10_pack_34 Post 62 (nI i) n_9 (1 : Int32) M_7)))) ∧ (r_3 = 0 → Post (-2 : Int32) M))) → w_X10_pack 62 (nI i) M Post := by
      intro Post g
      unfold w_X10_pack
      exact m_isRule h hi (bf' one0 g)
    by_cases e : rk (A i) (2 ^ n - 1) = 0
    · rw [e]
      refine bt' rfl (mm ?_)
      rw [h.2.1.2.2.2.2.2.1]
      refine m_rnk h hi (by omega) ?_
      rw [e]
      exact bt' rfl (k _ _ (kp_rf _ _))
    · simp only [forall_eq]
      refine bf' (nI_ne0 (by omega) (by omega)) (c_pack h hi (by omega) (fun v hv => mm ?_))
      rw [h.2.1.2.2.2.2.2.1]
      refine m_rnk h hi (by omega) (bf' (nI_ne0 (by omega) (by omega)) (m_pack h hi (by omega) (fun v' M' hv' hk => ?_)))
      rw [pki_u hv' hv]
      exact k _ _ hk
end
