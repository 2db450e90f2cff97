/-! fewest, crowd: asked -/
section
variable {M : pm_M} {n r : Nat} {w : Nat → Nat} {A : Nat → Nat → Bool} {c : Nat} {Q P : Nat → Nat}
theorem q_fewest (h : iv M n r w A c Q P) (x : Int32) : ∀ K : Int32 → Int32 → pm_M → Prop, (∀ v M', kp (scr r) M M' → K v v M') → w_X9_fewest 0 x M (fun a => w_X10_fewest 62 x M (fun b M' => K a b M')) := by
  intro K k
  have hn := iv_n h
  rcases ru_cases h x with hx | ⟨i, hi, rfl⟩
  · unfold w_X9_fewest w_X10_fewest w_X10_undealt
    exact c_ruleAt0 h hx (on (m_isRule0 h hx (bt' rfl (bf (by decide) (k _ _ (kp_rf _ _))))))
  · unfold w_X9_fewest
    rw [h.2.1.2.1]
    rcases al_dec h i with ha | ⟨j, hj, ha, hb⟩
    · refine c_ruleAt h hi (os (c_alone h hi ha (bf one0 (c_crowded h hi ha (fun cr hcr => c_heaps h hi ha hcr.2.1 (by have := hcr.1; omega) ?_)))))
      unfold w_X9_fewest_38 w_X10_fewest
      refine m_undealt h hi ha (bt rfl (m_fewestOf h hi ha (fun m M' hf hm hk => ?_)))
      rw [fwi_u hf (crw_fwi (by omega) (iv_mat h hi) ha hcr)]
      exact k _ _ hk
    · refine c_ruleAt h hi (os (c_alone0 h hi hj ha hb (bt rfl ?_)))
      unfold w_X9_fewest_38 w_X10_fewest
      exact m_undealt0 h hi hj ha hb (bf (by decide) (k _ _ (kp_rf _ _)))
theorem q_crowd (h : iv M n r w A c Q P) (x : Int32) : ∀ K : Int32 → Int32 → pm_M → Prop, (∀ v M', kp (scr r) M M' → K v v M') → w_X9_crowd 0 x M (fun a => w_X10_crowd 62 x M (fun b M' => K a b M')) := by
  intro K k
  have hn := iv_n h
  have hp := iv_p h
  rcases ru_cases h x with hx | ⟨i, hi, rfl⟩
  · unfold w_X9_crowd w_X10_crowd w_X10_undealt
    exact c_ruleAt0 h hx (on (m_isRule0 h hx (bt' rfl (bf (by decide) (k _ _ (kp_rf _ _))))))
  · unfold w_X9_crowd
    rw [h.2.1.2.1]
    rcases al_dec h i with ha | ⟨j, hj, ha, hb⟩
    · refine c_ruleAt h hi (os (c_alone h hi ha (bf one0 (c_crowded h hi ha (fun cr hcr => ?_)))))
      unfold w_X9_crowd_33 w_X10_crowd
      refine m_undealt h hi ha (bt rfl (m_fewestOf h hi ha (fun m M' hf hm hk => ?_)))
      rw [fwi_u hf (crw_fwi (by omega) (iv_mat h hi) ha hcr)]
      have hN := iv_kp h hk
      obtain ⟨c1, c2, c3, c4⟩ := hcr
      refine ⟨_, lp (fun k' (_ : Unit) s => w_X10_crowd_21 (fun b M' => K (nI cr) b M') 62 (nI i) (nI (hnd (A i) cr)) M' k' (nI s)) cr (fun s _ => 1 ≤ s) ?_ ?_ 1 () (by omega) (Nat.le_refl 1)⟩
      · intro k' s _ hs s1 hk'
        show w_X10_crowd_21 (fun b M' => K (nI cr) b M') 62 (nI i) (nI (hnd (A i) cr)) M' (k' + 1) (nI s)
        simp only [w_X10_crowd_21, forall_eq, hN.2.1.2.2.2.2.2.1, nI_1]
        have hr := rk_pos (by omega) ha (show s < 2 ^ n by omega) (by omega)
        refine bf (nI_nlt (by omega) (by omega)) (m_rnk hN hi (by omega) (m_bits (by omega) ⟨nI_ne0 hr (by have := rk_sm h (s := s) hi; omega), ?_⟩))
        rw [hnd_nI h hi hr]
        have b1 := hnd_sm (by omega) ha c2 (by omega)
        have := c4 s s1 hs
        exact bf' (by rw [nI_eq (by omega) (by omega)]; omega) (hk' () (by omega))
      · intro k' _ s1
        show w_X10_crowd_21 (fun b M' => K (nI cr) b M') 62 (nI i) (nI (hnd (A i) cr)) M' (k' + 1) (nI cr)
        simp only [w_X10_crowd_21, forall_eq, hN.2.1.2.2.2.2.2.1, nI_1]
        have hr := rk_pos (by omega) ha (show cr < 2 ^ n by omega) (by omega)
        refine bf (nI_nlt (by omega) (by omega)) (m_rnk hN hi (by omega) (m_bits (by omega) ⟨nI_ne0 hr (by have := rk_sm h (s := cr) hi; omega), ?_⟩))
        rw [hnd_nI h hi hr]
        exact bt' rfl (k _ _ hk)
    · refine c_ruleAt h hi (os (c_alone0 h hi hj ha hb (bt rfl ?_)))
      unfold w_X9_crowd_33 w_X10_crowd
      exact m_undealt0 h hi hj ha hb (bf (by decide) (k _ _ (kp_rf _ _)))
end
