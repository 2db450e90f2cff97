/-! rule -/
theorem cls_ex (T : Nat → Prop) : ∃ B : Nat → Bool, ∀ s, (B s = true ↔ T s) := ⟨fun s => @decide _ (Classical.propDecidable (T s)), fun s => @decide_eq_true_iff _ (Classical.propDecidable (T s))⟩
section
variable {M : pm_M} {n r : Nat} {w : Nat → Nat} {A : Nat → Nat → Bool} {c : Nat} {Q P : Nat → Nat}
theorem q_rule (h : iv M n r w A c Q P) (x y : Int32) : ∀ K : Int32 → Int32 → pm_M → Prop, (∀ v M', IV M' → K v v M') → w_X9_rule 0 x y M (fun a M1 => w_X10_rule 62 x y M1 (fun b M' => K a b M')) := by
  intro K k
  have hn := iv_n h
  have hp := iv_p h
  have k0 : ∀ v, K v v M := fun v => k v M ⟨_, _, _, _, _, _, _, h⟩
  rcases slot_cases y with hy | ⟨j, hj, rfl⟩
  · unfold w_X9_rule w_X9_rule_20 w_X10_rule w_X10_rule_17
    exact c_slotAt0 h.1 hy (on (m_isSlot0 hy (bt rfl (k0 _))))
  by_cases x0 : x < 0
  · unfold w_X9_rule w_X9_rule_20 w_X10_rule w_X10_rule_17
    exact c_slotAt h.1 hj (os (bt x0 (m_isSlot hj (bf one0 (bt x0 (k0 _))))))
  by_cases x6 : x ≤ 6
  case neg =>
    unfold w_X9_rule w_X9_rule_20 w_X10_rule w_X10_rule_17
    exact c_slotAt h.1 hj (os (bf x0 (bf x6 (m_isSlot hj (bf one0 (bf x0 (bf x6 (k0 _))))))))
  obtain ⟨kd, hkd, rfl⟩ := nI_of x0
  have kd6 : kd ≤ 6 := (nI_leI (b := 6) hkd (by decide)).mp x6
  have e24 : nI r = 24 ↔ r = 24 := nI_eq (b := 24) (by omega) (by decide)
  by_cases r24 : r = 24
  · unfold w_X9_rule w_X10_rule
    refine c_slotAt h.1 hj (os (bf x0 (bt x6 ?_)))
    rw [h.2.1.2.2.2.1]
    refine bf (by rw [r24]; decide) (m_isSlot hj (bf one0 (bf x0 (bt x6 ?_))))
    rw [h.2.1.2.2.2.2.2.2]
    exact bt' (e24.mpr r24) (k0 _)
  have rlt : r < 24 := by omega
  rcases h.2.2.2.1 j hj with ⟨h1, h2⟩ | ⟨wd, sz, a1, a2, a3, a4, a5, a6, a7⟩
  · unfold w_X9_rule w_X10_rule
    refine c_slotAt h.1 hj (os (bf x0 (bt x6 ?_)))
    rw [h.2.1.2.2.2.1]
    refine bt (nI_lt (b := 24) rlt (by decide)) (c_hasRow h.2.2.2.1 hj ?_)
    rw [show hr M j = false by unfold hr; rw [h2]; rfl]
    refine bt' rfl (m_isSlot hj (bf one0 (bf x0 (bt x6 ?_))))
    rw [h.2.1.2.2.2.2.2.2]
    refine bf' (fun q => r24 (e24.mp q)) ⟨71, lr_62_11 h.1, by rw [ln_71 h.1]; exact vp_in_nI hj (by decide), ?_⟩
    rw [nI_clamp (by omega), h2]
    exact bt' rfl (k0 _)
  · have hrow : hr M j = true := by unfold hr; rw [a5]; exact decide_eq_true (nI_ne0 (by omega) (by omega))
    have hrm : rowm M j sz (fun i => mL M 73 (200 * j + i)) := ⟨hj, a2, a5, fun _ _ => rfl⟩
    have hrc : rowc M j sz (fun i => mL M 73 (200 * j + i)) := ⟨hj, a2, a4, a7⟩
    generalize (fun i => mL M 73 (200 * j + i)) = X at hrm hrc
    match kd, kd6 with
    | 0, _ => exact q_told h rlt hj hrow hrc hrm k
    | 1, _ => exact q_ru h rlt hrm (fun _ => bB_mat (by omega) lam_1) (c_even h rlt hj hrow hrc) (m_even rlt hj) k
    | 2, _ => exact q_ru h rlt hrm (fun _ => bB_mat (by omega) (pS_lam X n _)) (c_parts h rlt hj hrow hrc) (m_parts rlt hj) k
    | 3, _ =>
      by_cases s0 : nE0 X sz n = 0
      · by_cases hl : lam (vl X 0) (nS X)
        · exact q_ru (E := 0) h rlt hrm (fun _ => bB_mat (by omega) hl) (c_nested h rlt hj hrow hrc (fun q => absurd s0 q) (fun _ _ => rfl) (fun _ q => absurd hl q)) (m_nested rlt hj (fun q => absurd s0 q) (fun _ _ => rfl) (fun _ q => absurd hl q)) k
        · exact q_ru (E := -7) h rlt hrm (fun q => absurd q (by decide)) (c_nested h rlt hj hrow hrc (fun q => absurd s0 q) (fun _ q => absurd q hl) (fun _ _ => rfl)) (m_nested rlt hj (fun q => absurd s0 q) (fun _ q => absurd q hl) (fun _ _ => rfl)) k
      · exact q_ru (E := nE0 X sz n) h rlt hrm (fun q => absurd q s0) (c_nested h rlt hj hrow hrc (fun _ => rfl) (fun q => absurd q s0) (fun q => absurd q s0)) (m_nested rlt hj (fun _ => rfl) (fun q => absurd q s0) (fun q => absurd q s0)) k
    | 4, _ =>
      obtain ⟨B, hB⟩ := cls_ex (fun s => fine (eu X) (ev X) s n)
      exact q_ru h rlt hrm (fun s0 => mat_edges (u := eu X) (v := ev X) (by omega) (ends_lt s0) (fun s _ => hB s)) (c_edges h rlt hj hrow hrc hB) (m_edges rlt hj hB) k
    | 5, _ =>
      obtain ⟨B, hB⟩ := cls_ex (fun s => nr (vl X 0 : Int) (vl X 1) (fun i c => (rwR X i c : Int)) (bl n s))
      exact q_ru h rlt hrm (fun s0 => mat_rows (p := (vl X 0 : Int)) (w := vl X 1) (r := fun i c => (rwR X i c : Int)) (rw_p (sq_le (T := 1) s0 (by omega))).2 (by omega) (fun s _ => hB s)) (c_rows h rlt hj hrow hrc (fun s _ => hB s)) (m_rows rlt hj (fun s _ => hB s)) k
    | 6, _ =>
      obtain ⟨B, hB⟩ := cls_ex (fun s => gd (fun p => bc (nb (vl X) p n)) s)
      exact q_ru h rlt hrm (fun _ => mat_places (m := n) (f := vl X) (by omega) (fun s _ => hB s)) (c_places h rlt hj hrow hrc hB) (m_places rlt hj hB) k
    | kd + 7, hk => omega
end
