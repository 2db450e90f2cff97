set_option maxHeartbeats 4000000 in
set_option maxRecDepth 100000 in
theorem c_X9_heapsNeeded_24 {p : Program} {l : Launch} {e : Env} {s : State} {m : MethodId} {args : Array Value} {below : List Frame} {meth : Method} {c : Code} {G : pm_G} {H0 : Heap} {Post : Int32 → Prop} {s0 : Int32} {M : pm_M} (E : pm_E G p s m args meth c cX9_heapsNeeded 4 RX9) (hret : meth.sig.returnType = (some .int)) {H : Heap} {locs : List Loc} {ls : Array Slot} (hI : pm_I G H0 M H locs) (hl : lv_has ls 4 []) (hw : w_X9_heapsNeeded_24 Post s0 M) : W p l e rm_X9_heapsNeeded s m args below meth c H locs 0 0 (pm_Z G H0 M (pm_Pi (fun r9 M9 => M = M9 ∧ Post r9)) below args s rm_X9_heapsNeeded.cells rm_X9_heapsNeeded.slots) (F0 m 24 ls [.int s0]) := by
  have hx := E.1
  have hb := E.2.1
  have hown := E.2.2.2.1
  have hts := E.2.2.2.2.1
  unfold w_X9_heapsNeeded_24 at hw
  exact pm_iret E hret hI pm_X.rf ⟨_, rfl, rfl, hw⟩ (by decide) (by decide) dX9_heapsNeeded_24
set_option maxHeartbeats 4000000 in
set_option maxRecDepth 100000 in
theorem k_X9_heapsNeeded {l : Launch} {G : pm_G} {H0 : Heap} {th : Nat} {a1 : Nat} {a2 : Int32} {M : pm_M} {Post : Int32 → Prop} (t_th : pm_is M th 8) (t_a1 : pm_is M a1 4) (hw : w_X9_heapsNeeded th a1 a2 M Post) : pm_C l G H0 yX9_heapsNeeded cX9_heapsNeeded 4 (some .int) rm_X9_heapsNeeded [.ref (H0.size + th), .ref (H0.size + a1), .int a2] M (pm_Pi (fun r9 M9 => M = M9 ∧ Post r9)) := by
  refine pm_start (by decide +kernel) (Nat.le_of_ble_eq_true rfl) ?_
  intro p e s m args below meth c H ls E hret hnm hI hl
  have hl : lv_has ls 4 [(0, .ref (H0.size + th)), (1, .ref (H0.size + a1)), (2, .int a2)] := hl
  have hx := E.1
  have hb := E.2.1
  have hown := E.2.2.2.1
  have hts := E.2.2.2.2.1
  unfold w_X9_heapsNeeded at hw
  refine lv_aload_n hx hb dX9_heapsNeeded_0 rfl (lv_at hl 1 rfl) ?_
  refine lv_iload_n hx hb dX9_heapsNeeded_1 rfl (lv_at hl 2 rfl) ?_
  refine pm_callV (As := [.int a2]) (rest := []) 1 E hI (k_X5_rankOf t_a1 hw) t_a1 (by decide) rfl kc_X5_rankOf kl_X9_165 km_X5_rankOf ks_X5_rankOf ki_X5 (by decide +kernel) ⟨by decide, by decide⟩ rfl hl.1 rfl (by first | exact Nat.le_of_ble_eq_true rfl | (simp only [List.map, pm_rf_cat]; exact Nat.le_of_ble_eq_true rfl)) dX9_heapsNeeded_2 ⟨by decide, by decide⟩ (fun r9 M9 H locs hp hX1 hI => ?_)
  clear hw
  obtain ⟨r_1, rfl, rfl, hw⟩ := hp
  refine pm_nrm (cells' := 0) (slots' := 0) (g2 := F0 m 5 ls [.int r_1]) rfl rfl rfl ?_
  refine lv_istore_n (lv' := [(3, .int r_1), (0, .ref (H0.size + th)), (1, .ref (H0.size + a1)), (2, .int a2)]) hx hb dX9_heapsNeeded_5 rfl hl (by decide) rfl (fun ls hl_2 => ?_)
  refine lv_iload_n hx hb dX9_heapsNeeded_6 rfl (lv_at hl_2 0 rfl) ?_
  refine lv_if_le (tgt := 23) hx hb dX9_heapsNeeded_7 (by decide) (fun h_3 => ?_) (fun h_3 => ?_)
  · replace hw := hw.1 h_3
    refine lv_iconst (v := (0 : Int32)) hx hb dX9_heapsNeeded_23 (by decide) ?_
    exact c_X9_heapsNeeded_24 E hret hI (lv_sub hl_2 [] rfl) hw
  · replace hw := hw.2 h_3
    refine lv_iload_n hx hb dX9_heapsNeeded_10 rfl (lv_at hl_2 3 rfl) ?_
    refine pm_callS (As := [.int a2]) (rest := []) 1 E hI (k_J6_bitCount_0f7a4 hw) kc_J6_bitCount_0f7a4 kl_X9_202 kt_J6_bitCount_0f7a4 ki_J6 (by decide +kernel) ⟨by decide, by decide⟩ rfl hl_2.1 rfl (by first | exact Nat.le_of_ble_eq_true rfl | (simp only [List.map, pm_rf_cat]; exact Nat.le_of_ble_eq_true rfl)) dX9_heapsNeeded_11 ⟨by decide, by decide⟩ (fun r9 M9 H locs hp hX1 hI => ?_)
    clear hw
    obtain ⟨r_4, rfl, rfl, hw⟩ := hp
    refine pm_nrm (cells' := 0) (slots' := 0) (g2 := F0 m 14 ls [.int r_4]) rfl rfl rfl ?_
    refine lv_iload_n hx hb dX9_heapsNeeded_14 rfl (lv_at hl_2 0 rfl) ?_
    refine lv_iadd hx hb dX9_heapsNeeded_15 ?_
    refine lv_iconst (v := (1 : Int32)) hx hb dX9_heapsNeeded_16 (by decide) ?_
    refine lv_isub hx hb dX9_heapsNeeded_17 ?_
    refine lv_iload_n hx hb dX9_heapsNeeded_18 rfl (lv_at hl_2 0 rfl) ?_
    obtain ⟨h9, hw⟩ := hw
    refine lv_idiv hx hb dX9_heapsNeeded_19 h9 ?_
    refine lv_goto (tgt := 24) hx hb dX9_heapsNeeded_20 (by decide) ?_
    exact c_X9_heapsNeeded_24 E hret hI (lv_sub hl_2 [] rfl) hw
set_option maxHeartbeats 4000000 in
set_option maxRecDepth 100000 in
theorem c_X9_mostCrowded_42 {p : Program} {l : Launch} {e : Env} {s : State} {m : MethodId} {args : Array Value} {below : List Frame} {meth : Method} {c : Code} {G : pm_G} {H0 : Heap} {Post : Int32 → Prop} {v0 : Nat} {v1 : Nat} {v2 : Int32} {v3 : Int32} {v4 : Int32} {M : pm_M} {k_12 : Int32 → Int32 → Int32 → Prop} (E : pm_E G p s m args meth c cX9_mostCrowded 6 RX9) (hret : meth.sig.returnType = (some .int)) (hk_12 : ∀ (v2 : Int32) (v3 : Int32) (v4 : Int32) (H : Heap) (locs : List Loc) (ls : Array Slot), pm_I G H0 M H locs → (pm_is M v0 8) → (pm_is M v1 4) → lv_has ls 6 [(0, .ref (H0.size + v0)), (1, .ref (H0.size + v1)), (2, .int v2), (3, .int v3), (4, .int v4)] → k_12 v2 v3 v4 → W p l e rm_X9_mostCrowded s m args below meth c H locs 0 0 (pm_Z G H0 M (pm_Pi (fun r9 M9 => M = M9 ∧ Post r9)) below args s rm_X9_mostCrowded.cells rm_X9_mostCrowded.slots) (F0 m 12 ls [])) {H : Heap} {locs : List Loc} {ls : Array Slot} (hI : pm_I G H0 M H locs) (t_v0 : pm_is M v0 8) (t_v1 : pm_is M v1 4) (hl : lv_has ls 6 [(0, .ref (H0.size + v0)), (1, .ref (H0.size + v1)), (2, .int v2), (3, .int v3), (4, .int v4)]) (hw : w_X9_mostCrowded_42 Post k_12 v0 v1 v2 v3 v4 M) : W p l e rm_X9_mostCrowded s m args below meth c H locs 0 0 (pm_Z G H0 M (pm_Pi (fun r9 M9 => M = M9 ∧ Post r9)) below args s rm_X9_mostCrowded.cells rm_X9_mostCrowded.slots) (F0 m 42 ls []) := by
  have hx := E.1
  have hb := E.2.1
  have hown := E.2.2.2.1
  have hts := E.2.2.2.2.1
  unfold w_X9_mostCrowded_42 at hw
  obtain ⟨x_1, e_x_1⟩ : ∃ z : Int32, z = v4 + (1 : Int32) := ⟨_, rfl⟩
  refine lv_iinc (v := x_1) (lv' := [(4, .int x_1), (0, .ref (H0.size + v0)), (1, .ref (H0.size + v1)), (2, .int v2), (3, .int v3)]) hx hb dX9_mostCrowded_42 hl (k := 4) rfl (by rw [e_x_1]; rfl) (by decide) rfl (fun ls hl_2 => ?_)
  replace hw := hw x_1 e_x_1
  refine lv_goto (tgt := 12) hx hb dX9_mostCrowded_45 (by decide) ?_
  exact hk_12 _ _ _ _ _ _ hI t_v0 t_v1 (lv_sub hl_2 [1, 2, 3, 4, 0] rfl) hw
set_option maxHeartbeats 4000000 in
set_option maxRecDepth 100000 in
theorem c_X9_mostCrowded_12 {p : Program} {l : Launch} {e : Env} {s : State} {m : MethodId} {args : Array Value} {below : List Frame} {meth : Method} {c : Code} {G : pm_G} {H0 : Heap} {Post : Int32 → Prop} {v0 : Nat} {v1 : Nat} {M : pm_M} (E : pm_E G p s m args meth c cX9_mostCrowded 6 RX9) (hret : meth.sig.returnType = (some .int)) : ∀ (n : Nat) (v2 : Int32) (v3 : Int32) (v4 : Int32) (H : Heap) (locs : List Loc) (ls : Array Slot), pm_I G H0 M H locs → (pm_is M v0 8) → (pm_is M v1 4) → lv_has ls 6 [(0, .ref (H0.size + v0)), (1, .ref (H0.size + v1)), (2, .int v2), (3, .int v3), (4, .int v4)] → w_X9_mostCrowded_12 Post v0 v1 M n v2 v3 v4 → W p l e rm_X9_mostCrowded s m args below meth c H locs 0 0 (pm_Z G H0 M (pm_Pi (fun r9 M9 => M = M9 ∧ Post r9)) below args s rm_X9_mostCrowded.cells rm_X9_mostCrowded.slots) (F0 m 12 ls []) := by
  have hx := E.1
  have hb := E.2.1
  have hown := E.2.2.2.1
  have hts := E.2.2.2.2.1
  intro n
  induction n with
  | zero =>
    intro v2 v3 v4 H locs ls hI t_v0 t_v1 hl hw
    unfold w_X9_mostCrowded_12 at hw
    exact hw.elim
  | succ n ih =>
    intro v2 v3 v4 H locs ls hI t_v0 t_v1 hl hw
    unfold w_X9_mostCrowded_12 at hw
    refine lv_iload hx hb dX9_mostCrowded_12 (lv_at hl 4 rfl) ?_
    refine lv_aload_n hx hb dX9_mostCrowded_14 rfl (lv_at hl 0 rfl) ?_
    refine gf_X9_135 E hI t_v0 dX9_mostCrowded_15 ?_
    refine lv_icmp_gt (tgt := 48) hx hb dX9_mostCrowded_18 (by decide) (fun h_1 => ?_) (fun h_1 => ?_)
    · replace hw := hw.1 h_1
      refine lv_iload_n hx hb dX9_mostCrowded_48 rfl (lv_at hl 2 rfl) ?_
      exact pm_iret E hret hI pm_X.rf ⟨_, rfl, rfl, hw⟩ (by decide) (by decide) dX9_mostCrowded_49
    · replace hw := hw.2 h_1
      refine lv_aload_n hx hb dX9_mostCrowded_21 rfl (lv_at hl 0 rfl) ?_
      refine lv_aload_n hx hb dX9_mostCrowded_22 rfl (lv_at hl 1 rfl) ?_
      refine lv_iload hx hb dX9_mostCrowded_23 (lv_at hl 4 rfl) ?_
      refine pm_callV (As := [.ref (H0.size + v1), .int v4]) (rest := []) 2 E hI (k_X9_heapsNeeded t_v0 t_v1 hw) t_v0 (by decide) rfl kc_X9_heapsNeeded kl_X9_222 km_X9_heapsNeeded ks_X9_heapsNeeded ki_X9 (by decide +kernel) ⟨by decide, by decide⟩ rfl hl.1 rfl (by first | exact Nat.le_of_ble_eq_true rfl | (simp only [List.map, pm_rf_cat]; exact Nat.le_of_ble_eq_true rfl)) dX9_mostCrowded_25 ⟨by decide, by decide⟩ (fun r9 M9 H locs hp hX1 hI => ?_)
      clear hw
      obtain ⟨r_2, rfl, rfl, hw⟩ := hp
      refine pm_nrm (cells' := 0) (slots' := 0) (g2 := F0 m 28 ls [.int r_2]) rfl rfl rfl ?_
      refine lv_istore (lv' := [(5, .int r_2), (0, .ref (H0.size + v0)), (1, .ref (H0.size + v1)), (2, .int v2), (3, .int v3), (4, .int v4)]) hx hb dX9_mostCrowded_28 hl (by decide) rfl (fun ls hl_3 => ?_)
      refine lv_iload hx hb dX9_mostCrowded_30 (lv_at hl_3 0 rfl) ?_
      refine lv_iload_n hx hb dX9_mostCrowded_32 rfl (lv_at hl_3 4 rfl) ?_
      refine lv_icmp_le (tgt := 42) hx hb dX9_mostCrowded_33 (by decide) (fun h_4 => ?_) (fun h_4 => ?_)
      · replace hw := hw.1 h_4
        exact c_X9_mostCrowded_42 E hret ih hI t_v0 t_v1 (lv_sub hl_3 [1, 2, 3, 4, 5] rfl) hw
      · replace hw := hw.2 h_4
        refine lv_iload hx hb dX9_mostCrowded_36 (lv_at hl_3 5 rfl) ?_
        refine lv_istore_n (lv' := [(2, .int v4), (5, .int r_2), (0, .ref (H0.size + v0)), (1, .ref (H0.size + v1)), (3, .int v3), (4, .int v4)]) hx hb dX9_mostCrowded_38 rfl hl_3 (by decide) rfl (fun ls hl_5 => ?_)
        refine lv_iload hx hb dX9_mostCrowded_39 (lv_at hl_5 1 rfl) ?_
        refine lv_istore_n (lv' := [(3, .int r_2), (2, .int v4), (5, .int r_2), (0, .ref (H0.size + v0)), (1, .ref (H0.size + v1)), (4, .int v4)]) hx hb dX9_mostCrowded_41 rfl hl_5 (by decide) rfl (fun ls hl_6 => ?_)
        exact c_X9_mostCrowded_42 E hret ih hI t_v0 t_v1 (lv_sub hl_6 [3, 4, 1, 0, 5] rfl) hw
set_option maxHeartbeats 4000000 in
set_option maxRecDepth 100000 in
theorem k_X9_mostCrowded {l : Launch} {G : pm_G} {H0 : Heap} {th : Nat} {a1 : Nat} {M : pm_M} {Post : Int32 → Prop} (t_th : pm_is M th 8) (t_a1 : pm_is M a1 4) (hw : w_X9_mostCrowded th a1 M Post) : pm_C l G H0 yX9_mostCrowded cX9_mostCrowded 6 (some .int) rm_X9_mostCrowded [.ref (H0.size + th), .ref (H0.size + a1)] M (pm_Pi (fun r9 M9 => M = M9 ∧ Post r9)) := by
  refine pm_start (by decide +kernel) (Nat.le_of_ble_eq_true rfl) ?_
  intro p e s m args below meth c H ls E hret hnm hI hl
  have hl : lv_has ls 6 [(0, .ref (H0.size + th)), (1, .ref (H0.size + a1))] := hl
  have hx := E.1
  have hb := E.2.1
  have hown := E.2.2.2.1
  have hts := E.2.2.2.2.1
  unfold w_X9_mostCrowded at hw
  refine lv_iconst (v := (1 : Int32)) hx hb dX9_mostCrowded_0 (by decide) ?_
  refine lv_istore_n (lv' := [(2, .int (1 : Int32)), (0, .ref (H0.size + th)), (1, .ref (H0.size + a1))]) hx hb dX9_mostCrowded_1 rfl hl (by decide) rfl (fun ls hl_1 => ?_)
  refine lv_aload_n hx hb dX9_mostCrowded_2 rfl (lv_at hl_1 1 rfl) ?_
  refine lv_aload_n hx hb dX9_mostCrowded_3 rfl (lv_at hl_1 2 rfl) ?_
  refine lv_iload_n hx hb dX9_mostCrowded_4 rfl (lv_at hl_1 0 rfl) ?_
  refine pm_callV (As := [.ref (H0.size + a1), .int (1 : Int32)]) (rest := []) 2 E hI (k_X9_heapsNeeded t_th t_a1 hw) t_th (by decide) rfl kc_X9_heapsNeeded kl_X9_222 km_X9_heapsNeeded ks_X9_heapsNeeded ki_X9 (by decide +kernel) ⟨by decide, by decide⟩ rfl hl_1.1 rfl (by first | exact Nat.le_of_ble_eq_true rfl | (simp only [List.map, pm_rf_cat]; exact Nat.le_of_ble_eq_true rfl)) dX9_mostCrowded_5 ⟨by decide, by decide⟩ (fun r9 M9 H locs hp hX1 hI => ?_)
  clear hw
  obtain ⟨r_2, rfl, rfl, hw⟩ := hp
  refine pm_nrm (cells' := 0) (slots' := 0) (g2 := F0 m 8 ls [.int r_2]) rfl rfl rfl ?_
  refine lv_istore_n (lv' := [(3, .int r_2), (2, .int (1 : Int32)), (0, .ref (H0.size + th)), (1, .ref (H0.size + a1))]) hx hb dX9_mostCrowded_8 rfl hl_1 (by decide) rfl (fun ls hl_3 => ?_)
  refine lv_iconst (v := (2 : Int32)) hx hb dX9_mostCrowded_9 (by decide) ?_
  refine lv_istore (lv' := [(4, .int (2 : Int32)), (3, .int r_2), (2, .int (1 : Int32)), (0, .ref (H0.size + th)), (1, .ref (H0.size + a1))]) hx hb dX9_mostCrowded_10 hl_3 (by decide) rfl (fun ls hl_4 => ?_)
  obtain ⟨n_5, hw⟩ := hw
  exact c_X9_mostCrowded_12 E hret n_5 _ _ _ _ _ _ hI t_th t_a1 (lv_sub hl_4 [3, 4, 2, 1, 0] rfl) hw
set_option maxHeartbeats 4000000 in
set_option maxRecDepth 100000 in
theorem c_X9_fewest_38 {p : Program} {l : Launch} {e : Env} {s : State} {m : MethodId} {args : Array Value} {below : List Frame} {meth : Method} {c : Code} {G : pm_G} {H0 : Heap} {Post : Int32 → Prop} {s0 : Int32} {M : pm_M} (E : pm_E G p s m args meth c cX9_fewest 3 RX9) (hret : meth.sig.returnType = (some .int)) {H : Heap} {locs : List Loc} {ls : Array Slot} (hI : pm_I G H0 M H locs) (hl : lv_has ls 3 []) (hw : w_X9_fewest_38 Post s0 M) : W p l e rm_X9_fewest s m args below meth c H locs 0 0 (pm_Z G H0 M (pm_Pi (fun r9 M9 => M = M9 ∧ Post r9)) below args s rm_X9_fewest.cells rm_X9_fewest.slots) (F0 m 38 ls [.int s0]) := by
  have hx := E.1
  have hb := E.2.1
  have hown := E.2.2.2.1
  have hts := E.2.2.2.2.1
  unfold w_X9_fewest_38 at hw
  exact pm_iret E hret hI pm_X.rf ⟨_, rfl, rfl, hw⟩ (by decide) (by decide) dX9_fewest_38
set_option maxHeartbeats 4000000 in
set_option maxRecDepth 100000 in
theorem k_X9_fewest {l : Launch} {G : pm_G} {H0 : Heap} {th : Nat} {a1 : Int32} {M : pm_M} {Post : Int32 → Prop} (t_th : pm_is M th 8) (hw : w_X9_fewest th a1 M Post) : pm_C l G H0 yX9_fewest cX9_fewest 3 (some .int) rm_X9_fewest [.ref (H0.size + th), .int a1] M (pm_Pi (fun r9 M9 => M = M9 ∧ Post r9)) := by
  refine pm_start (by decide +kernel) (Nat.le_of_ble_eq_true rfl) ?_
  intro p e s m args below meth c H ls E hret hnm hI hl
  have hl : lv_has ls 3 [(0, .ref (H0.size + th)), (1, .int a1)] := hl
  have hx := E.1
  have hb := E.2.1
  have hown := E.2.2.2.1
  have hts := E.2.2.2.2.1
  unfold w_X9_fewest at hw
  refine lv_aload_n hx hb dX9_fewest_0 rfl (lv_at hl 0 rfl) ?_
  refine lv_iload_n hx hb dX9_fewest_1 rfl (lv_at hl 1 rfl) ?_
  refine pm_callV (As := [.int a1]) (rest := []) 1 E hI (k_X9_ruleAt t_th hw) t_th (by decide) rfl kc_X9_ruleAt kl_X9_158 km_X9_ruleAt ks_X9_ruleAt ki_X9 (by decide +kernel) ⟨by decide, by decide⟩ rfl hl.1 rfl (by first | exact Nat.le_of_ble_eq_true rfl | (simp only [List.map, pm_rf_cat]; exact Nat.le_of_ble_eq_true rfl)) dX9_fewest_2 ⟨by decide, by decide⟩ (fun r9 M9 H locs hp hX1 hI => ?_)
  clear hw
  obtain ⟨r_1, rfl, o_r_1, rfl, hw⟩ := hp
  refine pm_nrm (cells' := 0) (slots' := 0) (g2 := F0 m 5 ls [pm_rf H0.size r_1]) rfl rfl rfl ?_
  refine pm_astore_n (lv' := [(2, pm_rf H0.size r_1), (0, .ref (H0.size + th)), (1, .int a1)]) hx hb dX9_fewest_5 rfl hl (by decide) (by first | rfl | simp [List.filter, pm_rf_cat]) (fun ls hl_2 => ?_)
  refine pm_aload_n hx hb dX9_fewest_6 rfl (lv_at hl_2 0 rfl) ?_
  refine pm_ifnonnull (tgt := 12) hx hb dX9_fewest_7 (by decide) (fun q_3 hq => ?_) (fun hq => ?_)
  · replace hw := hw.2 q_3 hq
    subst hq
    have t_q_3 := o_r_1 q_3 rfl
    replace hl_2 : lv_has ls 3 [(2, .ref (H0.size + q_3)), (0, .ref (H0.size + th)), (1, .int a1)] := hl_2
    refine lv_aload_n hx hb dX9_fewest_12 rfl (lv_at hl_2 0 rfl) ?_
    refine lv_aload_n hx hb dX9_fewest_13 rfl (lv_at hl_2 1 rfl) ?_
    refine gf_X9_187 E hI t_th dX9_fewest_14 ?_
    refine pm_callV (As := [.int (mI M th 9)]) (rest := []) 1 E hI (k_X5_permitsEachAlone t_q_3 hw) t_q_3 (by decide) rfl kc_X5_permitsEachAlone kl_X9_215 km_X5_permitsEachAlone ks_X5_permitsEachAlone ki_X5 (by decide +kernel) ⟨by decide, by decide⟩ rfl hl_2.1 rfl (by first | exact Nat.le_of_ble_eq_true rfl | (simp only [List.map, pm_rf_cat]; exact Nat.le_of_ble_eq_true rfl)) dX9_fewest_17 ⟨by decide, by decide⟩ (fun r9 M9 H locs hp hX1 hI => ?_)
    clear hw
    obtain ⟨r_4, rfl, rfl, hw⟩ := hp
    refine pm_nrm (cells' := 0) (slots' := 0) (g2 := F0 m 20 ls [.int r_4]) rfl rfl rfl ?_
    refine lv_if_eq (tgt := 36) hx hb dX9_fewest_20 (by decide) (fun h_5 => ?_) (fun h_5 => ?_)
    · replace hw := hw.1 h_5
      refine lv_bipush (v := (-2 : Int32)) hx hb dX9_fewest_36 (by decide) ?_
      exact c_X9_fewest_38 E hret hI (lv_sub hl_2 [] rfl) hw
    · replace hw := hw.2 h_5
      refine lv_aload_n hx hb dX9_fewest_23 rfl (lv_at hl_2 1 rfl) ?_
      refine lv_aload_n hx hb dX9_fewest_24 rfl (lv_at hl_2 0 rfl) ?_
      refine lv_aload_n hx hb dX9_fewest_25 rfl (lv_at hl_2 1 rfl) ?_
      refine lv_aload_n hx hb dX9_fewest_26 rfl (lv_at hl_2 0 rfl) ?_
      refine pm_callV (As := [.ref (H0.size + q_3)]) (rest := [.ref (H0.size + q_3), .ref (H0.size + th)]) 1 E hI (k_X9_mostCrowded t_th t_q_3 hw) t_th (by decide) rfl kc_X9_mostCrowded kl_X9_218 km_X9_mostCrowded ks_X9_mostCrowded ki_X9 (by decide +kernel) ⟨by decide, by decide⟩ rfl hl_2.1 rfl (by first | exact Nat.le_of_ble_eq_true rfl | (simp only [List.map, pm_rf_cat]; exact Nat.le_of_ble_eq_true rfl)) dX9_fewest_27 ⟨by decide, by decide⟩ (fun r9 M9 H locs hp hX1 hI => ?_)
      clear hw
      obtain ⟨r_6, rfl, rfl, hw⟩ := hp
      refine pm_nrm (cells' := 0) (slots' := 0) (g2 := F0 m 30 ls [.int r_6, .ref (H0.size + q_3), .ref (H0.size + th)]) rfl rfl rfl ?_
      refine pm_callV (As := [.ref (H0.size + q_3), .int r_6]) (rest := []) 2 E hI (k_X9_heapsNeeded t_th t_q_3 hw) t_th (by decide) rfl kc_X9_heapsNeeded kl_X9_222 km_X9_heapsNeeded ks_X9_heapsNeeded ki_X9 (by decide +kernel) ⟨by decide, by decide⟩ rfl hl_2.1 rfl (by first | exact Nat.le_of_ble_eq_true rfl | (simp only [List.map, pm_rf_cat]; exact Nat.le_of_ble_eq_true rfl)) dX9_fewest_30 ⟨by decide, by decide⟩ (fun r9 M9 H locs hp hX1 hI => ?_)
      clear hw
      obtain ⟨r_7, rfl, rfl, hw⟩ := hp
      refine pm_nrm (cells' := 0) (slots' := 0) (g2 := F0 m 33 ls [.int r_7]) rfl rfl rfl ?_
      refine lv_goto (tgt := 38) hx hb dX9_fewest_33 (by decide) ?_
      exact c_X9_fewest_38 E hret hI (lv_sub hl_2 [] rfl) hw
  · replace hw := hw.1 hq
    subst hq
    replace hl_2 : lv_has ls 3 [(2, .null), (0, .ref (H0.size + th)), (1, .int a1)] := hl_2
    refine lv_iconst (v := (-1 : Int32)) hx hb dX9_fewest_10 (by decide) ?_
    exact pm_iret E hret hI pm_X.rf ⟨_, rfl, rfl, hw⟩ (by decide) (by decide) dX9_fewest_11
set_option maxHeartbeats 4000000 in
set_option maxRecDepth 100000 in
theorem c_X9_roomFor_15 {p : Program} {l : Launch} {e : Env} {s : State} {m : MethodId} {args : Array Value} {below : List Frame} {meth : Method} {c : Code} {G : pm_G} {H0 : Heap} {Post : Int32 → Prop} {v0 : Nat} {v1 : Nat} {v2 : Int32} {v3 : Int32} {M : pm_M} (E : pm_E G p s m args meth c cX9_roomFor 7 RX9) (hret : meth.sig.returnType = (some .int)) : ∀ (n : Nat) (v5 : Int32) (v6 : Int32) (H : Heap) (locs : List Loc) (ls : Array Slot), pm_I G H0 M H locs → (pm_is M v0 8) → (pm_is M v1 4) → lv_has ls 7 [(0, .ref (H0.size + v0)), (1, .ref (H0.size + v1)), (2, .int v2), (3, .int v3), (5, .int v5), (6, .int v6)] → w_X9_roomFor_15 Post v0 v1 v2 v3 M n v5 v6 → W p l e rm_X9_roomFor s m args below meth c H locs 0 0 (pm_Z G H0 M (pm_Pi (fun r9 M9 => M = M9 ∧ Post r9)) below args s rm_X9_roomFor.cells rm_X9_roomFor.slots) (F0 m 15 ls []) := by
  have hx := E.1
  have hb := E.2.1
  have hown := E.2.2.2.1
  have hts := E.2.2.2.2.1
  intro n
  induction n with
  | zero =>
    intro v5 v6 H locs ls hI t_v0 t_v1 hl hw
    unfold w_X9_roomFor_15 at hw
    exact hw.elim
  | succ n ih =>
    intro v5 v6 H locs ls hI t_v0 t_v1 hl hw
    unfold w_X9_roomFor_15 at hw
    refine lv_iload hx hb dX9_roomFor_15 (lv_at hl 5 rfl) ?_
    refine lv_iload_n hx hb dX9_roomFor_17 rfl (lv_at hl 3 rfl) ?_
    refine lv_icmp_ge (tgt := 56) hx hb dX9_roomFor_18 (by decide) (fun h_1 => ?_) (fun h_1 => ?_)
    · replace hw := hw.1 h_1
      refine lv_iload hx hb dX9_roomFor_56 (lv_at hl 4 rfl) ?_
      exact pm_iret E hret hI pm_X.rf ⟨_, rfl, rfl, hw⟩ (by decide) (by decide) dX9_roomFor_58
    · replace hw := hw.2 h_1
      refine lv_iload hx hb dX9_roomFor_21 (lv_at hl 4 rfl) ?_
      refine lv_aload_n hx hb dX9_roomFor_23 rfl (lv_at hl 1 rfl) ?_
      refine lv_aload_n hx hb dX9_roomFor_24 rfl (lv_at hl 0 rfl) ?_
      obtain ⟨q_2, e_q_2, hw⟩ := hw
      refine gf_X9_25 E hI t_v0 dX9_roomFor_25 e_q_2 (fun t_q_2 => ?_)
      refine lv_iload hx hb dX9_roomFor_28 (lv_at hl 5 rfl) ?_
      obtain ⟨h_3, hw⟩ := hw
      refine pm_iald E hI t_q_2 h_3 dX9_roomFor_30 ?_
      refine lv_iload_n hx hb dX9_roomFor_31 rfl (lv_at hl 2 rfl) ?_
      refine lv_ior hx hb dX9_roomFor_32 ?_
      refine pm_callV (As := [.int ((mI M q_2 v6.toNatClampNeg) ||| v2)]) (rest := [.int v5]) 1 E hI (k_X5_rankOf t_v1 hw) t_v1 (by decide) rfl kc_X5_rankOf kl_X9_165 km_X5_rankOf ks_X5_rankOf ki_X5 (by decide +kernel) ⟨by decide, by decide⟩ rfl hl.1 rfl (by first | exact Nat.le_of_ble_eq_true rfl | (simp only [List.map, pm_rf_cat]; exact Nat.le_of_ble_eq_true rfl)) dX9_roomFor_33 ⟨by decide, by decide⟩ (fun r9 M9 H locs hp hX1 hI => ?_)
      clear hw
      obtain ⟨r_4, rfl, rfl, hw⟩ := hp
      refine pm_nrm (cells' := 0) (slots' := 0) (g2 := F0 m 36 ls [.int r_4, .int v5]) rfl rfl rfl ?_
      refine lv_aload_n hx hb dX9_roomFor_36 rfl (lv_at hl 0 rfl) ?_
      refine gf_X9_25 E hI t_v0 dX9_roomFor_37 e_q_2 (fun _ => ?_)
      refine lv_iload hx hb dX9_roomFor_40 (lv_at hl 5 rfl) ?_
      obtain ⟨h_5, hw⟩ := hw
      refine pm_iald E hI t_q_2 h_5 dX9_roomFor_42 ?_
      refine pm_callS (As := [.int (mI M q_2 v6.toNatClampNeg)]) (rest := [.int r_4, .int v5]) 1 E hI (k_J6_bitCount_0f7a4 hw) kc_J6_bitCount_0f7a4 kl_X9_202 kt_J6_bitCount_0f7a4 ki_J6 (by decide +kernel) ⟨by decide, by decide⟩ rfl hl.1 rfl (by first | exact Nat.le_of_ble_eq_true rfl | (simp only [List.map, pm_rf_cat]; exact Nat.le_of_ble_eq_true rfl)) dX9_roomFor_43 ⟨by decide, by decide⟩ (fun r9 M9 H locs hp hX1 hI => ?_)
      clear hw
      obtain ⟨r_6, rfl, rfl, hw⟩ := hp
      refine pm_nrm (cells' := 0) (slots' := 0) (g2 := F0 m 46 ls [.int r_6, .int r_4, .int v5]) rfl rfl rfl ?_
      refine lv_isub hx hb dX9_roomFor_46 ?_
      refine lv_iadd hx hb dX9_roomFor_47 ?_
      refine lv_topi (fun x_7 e_x_7 => ?_)
      replace hw := hw x_7 e_x_7
      refine lv_istore (lv' := [(5, .int x_7), (0, .ref (H0.size + v0)), (1, .ref (H0.size + v1)), (2, .int v2), (3, .int v3), (6, .int v6)]) hx hb dX9_roomFor_48 hl (by decide) rfl (fun ls hl_8 => ?_)
      obtain ⟨x_9, e_x_9⟩ : ∃ z : Int32, z = v6 + (1 : Int32) := ⟨_, rfl⟩
      refine lv_iinc (v := x_9) (lv' := [(6, .int x_9), (5, .int x_7), (0, .ref (H0.size + v0)), (1, .ref (H0.size + v1)), (2, .int v2), (3, .int v3)]) hx hb dX9_roomFor_50 hl_8 (k := 5) rfl (by rw [e_x_9]; rfl) (by decide) rfl (fun ls hl_10 => ?_)
      replace hw := hw x_9 e_x_9
      refine lv_goto (tgt := 15) hx hb dX9_roomFor_53 (by decide) ?_
      exact ih _ _ _ _ _ hI t_v0 t_v1 (lv_sub hl_10 [2, 3, 4, 5, 1, 0] rfl) hw
set_option maxHeartbeats 4000000 in
set_option maxRecDepth 100000 in
theorem k_X9_roomFor {l : Launch} {G : pm_G} {H0 : Heap} {th : Nat} {a1 : Nat} {a2 : Int32} {a3 : Int32} {a4 : Int32} {M : pm_M} {Post : Int32 → Prop} (t_th : pm_is M th 8) (t_a1 : pm_is M a1 4) (hw : w_X9_roomFor th a1 a2 a3 a4 M Post) : pm_C l G H0 yX9_roomFor cX9_roomFor 7 (some .int) rm_X9_roomFor [.ref (H0.size + th), .ref (H0.size + a1), .int a2, .int a3, .int a4] M (pm_Pi (fun r9 M9 => M = M9 ∧ Post r9)) := by
  refine pm_start (by decide +kernel) (Nat.le_of_ble_eq_true rfl) ?_
  intro p e s m args below meth c H ls E hret hnm hI hl
  have hl : lv_has ls 7 [(0, .ref (H0.size + th)), (1, .ref (H0.size + a1)), (2, .int a2), (3, .int a3), (4, .int a4)] := hl
  have hx := E.1
  have hb := E.2.1
  have hown := E.2.2.2.1
  have hts := E.2.2.2.2.1
  unfold w_X9_roomFor at hw
  refine lv_iload hx hb dX9_roomFor_0 (lv_at hl 4 rfl) ?_
  refine lv_iload_n hx hb dX9_roomFor_2 rfl (lv_at hl 3 rfl) ?_
  refine lv_isub hx hb dX9_roomFor_3 ?_
  refine lv_aload_n hx hb dX9_roomFor_4 rfl (lv_at hl 1 rfl) ?_
  refine lv_iload_n hx hb dX9_roomFor_5 rfl (lv_at hl 2 rfl) ?_
  refine pm_callV (As := [.int a2]) (rest := [.int (a4 - a3)]) 1 E hI (k_X5_rankOf t_a1 hw) t_a1 (by decide) rfl kc_X5_rankOf kl_X9_165 km_X5_rankOf ks_X5_rankOf ki_X5 (by decide +kernel) ⟨by decide, by decide⟩ rfl hl.1 rfl (by first | exact Nat.le_of_ble_eq_true rfl | (simp only [List.map, pm_rf_cat]; exact Nat.le_of_ble_eq_true rfl)) dX9_roomFor_6 ⟨by decide, by decide⟩ (fun r9 M9 H locs hp hX1 hI => ?_)
  clear hw
  obtain ⟨r_1, rfl, rfl, hw⟩ := hp
  refine pm_nrm (cells' := 0) (slots' := 0) (g2 := F0 m 9 ls [.int r_1, .int (a4 - a3)]) rfl rfl rfl ?_
  refine lv_imul hx hb dX9_roomFor_9 ?_
  refine lv_topi (fun x_2 e_x_2 => ?_)
  replace hw := hw x_2 e_x_2
  refine lv_istore (lv' := [(5, .int x_2), (0, .ref (H0.size + th)), (1, .ref (H0.size + a1)), (2, .int a2), (3, .int a3), (4, .int a4)]) hx hb dX9_roomFor_10 hl (by decide) rfl (fun ls hl_3 => ?_)
  refine lv_iconst (v := (0 : Int32)) hx hb dX9_roomFor_12 (by decide) ?_
  refine lv_istore (lv' := [(6, .int (0 : Int32)), (5, .int x_2), (0, .ref (H0.size + th)), (1, .ref (H0.size + a1)), (2, .int a2), (3, .int a3), (4, .int a4)]) hx hb dX9_roomFor_13 hl_3 (by decide) rfl (fun ls hl_4 => ?_)
  obtain ⟨n_5, hw⟩ := hw
  exact c_X9_roomFor_15 E hret n_5 _ _ _ _ _ hI t_th t_a1 (lv_sub hl_4 [2, 3, 4, 5, 1, 0] rfl) hw
set_option maxHeartbeats 4000000 in
set_option maxRecDepth 100000 in
theorem c_X9_restCanBeDealt_3 {p : Program} {l : Launch} {e : Env} {s : State} {m : MethodId} {args : Array Value} {below : List Frame} {meth : Method} {c : Code} {G : pm_G} {H0 : Heap} {Post : Int32 → Prop} {v0 : Nat} {v1 : Nat} {v2 : Int32} {v3 : Int32} {v4 : Int32} {M : pm_M} (E : pm_E G p s m args meth c cX9_restCanBeDealt 7 RX9) (hret : meth.sig.returnType = (some .boolean)) : ∀ (n : Nat) (v5 : Int32) (H : Heap) (locs : List Loc) (ls : Array Slot), pm_I G H0 M H locs → (pm_is M v0 8) → (pm_is M v1 4) → lv_has ls 7 [(0, .ref (H0.size + v0)), (1, .ref (H0.size + v1)), (2, .int v2), (3, .int v3), (4, .int v4), (5, .int v5)] → w_X9_restCanBeDealt_3 Post v0 v1 v2 v3 v4 M n v5 → W p l e rm_X9_restCanBeDealt s m args below meth c H locs 0 0 (pm_Z G H0 M (pm_Pi (fun r9 M9 => M = M9 ∧ Post r9)) below args s rm_X9_restCanBeDealt.cells rm_X9_restCanBeDealt.slots) (F0 m 3 ls []) := by
  have hx := E.1
  have hb := E.2.1
  have hown := E.2.2.2.1
  have hts := E.2.2.2.2.1
  intro n
  induction n with
  | zero =>
    intro v5 H locs ls hI t_v0 t_v1 hl hw
    unfold w_X9_restCanBeDealt_3 at hw
    exact hw.elim
  | succ n ih =>
    intro v5 H locs ls hI t_v0 t_v1 hl hw
    unfold w_X9_restCanBeDealt_3 at hw
    refine lv_iload hx hb dX9_restCanBeDealt_3 (lv_at hl 5 rfl) ?_
    refine lv_aload_n hx hb dX9_restCanBeDealt_5 rfl (lv_at hl 0 rfl) ?_
    refine gf_X9_135 E hI t_v0 dX9_restCanBeDealt_6 ?_
    refine lv_iload_n hx hb dX9_restCanBeDealt_9 rfl (lv_at hl 2 rfl) ?_
    refine lv_ishr hx hb dX9_restCanBeDealt_10 ?_
    refine lv_icmp_gt (tgt := 46) hx hb dX9_restCanBeDealt_11 (by decide) (fun h_1 => ?_) (fun h_1 => ?_)
    · replace hw := hw.1 h_1
      refine lv_iconst (v := (1 : Int32)) hx hb dX9_restCanBeDealt_46 (by decide) ?_
      exact pm_zret E hret hI pm_X.rf rfl ⟨_, rfl, rfl, hw⟩ (by decide) (by decide) dX9_restCanBeDealt_47
    · replace hw := hw.2 h_1
      refine lv_iload hx hb dX9_restCanBeDealt_14 (lv_at hl 5 rfl) ?_
      refine lv_iload_n hx hb dX9_restCanBeDealt_16 rfl (lv_at hl 2 rfl) ?_
      refine lv_ishl hx hb dX9_restCanBeDealt_17 ?_
      refine lv_topi (fun x_2 e_x_2 => ?_)
      replace hw := hw x_2 e_x_2
      refine lv_istore (lv' := [(6, .int x_2), (0, .ref (H0.size + v0)), (1, .ref (H0.size + v1)), (2, .int v2), (3, .int v3), (4, .int v4), (5, .int v5)]) hx hb dX9_restCanBeDealt_18 hl (by decide) rfl (fun ls hl_3 => ?_)
      refine lv_aload_n hx hb dX9_restCanBeDealt_20 rfl (lv_at hl_3 1 rfl) ?_
      refine lv_aload_n hx hb dX9_restCanBeDealt_21 rfl (lv_at hl_3 2 rfl) ?_
      refine lv_iload hx hb dX9_restCanBeDealt_22 (lv_at hl_3 0 rfl) ?_
      refine lv_iload_n hx hb dX9_restCanBeDealt_24 rfl (lv_at hl_3 4 rfl) ?_
      refine lv_iload hx hb dX9_restCanBeDealt_25 (lv_at hl_3 5 rfl) ?_
      refine pm_callV (As := [.ref (H0.size + v1), .int x_2, .int v3, .int v4]) (rest := []) 4 E hI (k_X9_roomFor t_v0 t_v1 hw) t_v0 (by decide) rfl kc_X9_roomFor kl_X9_283 km_X9_roomFor ks_X9_roomFor ki_X9 (by decide +kernel) ⟨by decide, by decide⟩ rfl hl_3.1 rfl (by first | exact Nat.le_of_ble_eq_true rfl | (simp only [List.map, pm_rf_cat]; exact Nat.le_of_ble_eq_true rfl)) dX9_restCanBeDealt_27 ⟨by decide, by decide⟩ (fun r9 M9 H locs hp hX1 hI => ?_)
      clear hw
      obtain ⟨r_4, rfl, rfl, hw⟩ := hp
      refine pm_nrm (cells' := 0) (slots' := 0) (g2 := F0 m 30 ls [.int r_4]) rfl rfl rfl ?_
      refine lv_iload hx hb dX9_restCanBeDealt_30 (lv_at hl_3 0 rfl) ?_
      refine pm_callS (As := [.int x_2]) (rest := [.int r_4]) 1 E hI (k_J6_bitCount_0f7a4 hw) kc_J6_bitCount_0f7a4 kl_X9_202 kt_J6_bitCount_0f7a4 ki_J6 (by decide +kernel) ⟨by decide, by decide⟩ rfl hl_3.1 rfl (by first | exact Nat.le_of_ble_eq_true rfl | (simp only [List.map, pm_rf_cat]; exact Nat.le_of_ble_eq_true rfl)) dX9_restCanBeDealt_32 ⟨by decide, by decide⟩ (fun r9 M9 H locs hp hX1 hI => ?_)
      clear hw
      obtain ⟨r_5, rfl, rfl, hw⟩ := hp
      refine pm_nrm (cells' := 0) (slots' := 0) (g2 := F0 m 35 ls [.int r_5, .int r_4]) rfl rfl rfl ?_
      refine lv_icmp_ge (tgt := 40) hx hb dX9_restCanBeDealt_35 (by decide) (fun h_6 => ?_) (fun h_6 => ?_)
      · replace hw := hw.1 h_6
        obtain ⟨x_7, e_x_7⟩ : ∃ z : Int32, z = v5 + (1 : Int32) := ⟨_, rfl⟩
        refine lv_iinc (v := x_7) (lv' := [(5, .int x_7), (6, .int x_2), (0, .ref (H0.size + v0)), (1, .ref (H0.size + v1)), (2, .int v2), (3, .int v3), (4, .int v4)]) hx hb dX9_restCanBeDealt_40 hl_3 (k := 6) rfl (by rw [e_x_7]; rfl) (by decide) rfl (fun ls hl_8 => ?_)
        replace hw := hw x_7 e_x_7
        refine lv_goto (tgt := 3) hx hb dX9_restCanBeDealt_43 (by decide) ?_
        exact ih _ _ _ _ hI t_v0 t_v1 (lv_sub hl_8 [2, 3, 4, 5, 6, 0] rfl) hw
      · replace hw := hw.2 h_6
        refine lv_iconst (v := (0 : Int32)) hx hb dX9_restCanBeDealt_38 (by decide) ?_
        exact pm_zret E hret hI pm_X.rf rfl ⟨_, rfl, rfl, hw⟩ (by decide) (by decide) dX9_restCanBeDealt_39
set_option maxHeartbeats 4000000 in
set_option maxRecDepth 100000 in
theorem k_X9_restCanBeDealt {l : Launch} {G : pm_G} {H0 : Heap} {th : Nat} {a1 : Nat} {a2 : Int32} {a3 : Int32} {a4 : Int32} {M : pm_M} {Post : Int32 → Prop} (t_th : pm_is M th 8) (t_a1 : pm_is M a1 4) (hw : w_X9_restCanBeDealt th a1 a2 a3 a4 M Post) : pm_C l G H0 yX9_restCanBeDealt cX9_restCanBeDealt 7 (some .boolean) rm_X9_restCanBeDealt [.ref (H0.size + th), .ref (H0.size + a1), .int a2, .int a3, .int a4] M (pm_Pi (fun r9 M9 => M = M9 ∧ Post r9)) := by
  refine pm_start (by decide +kernel) (Nat.le_of_ble_eq_true rfl) ?_
  intro p e s m args below meth c H ls E hret hnm hI hl
  have hl : lv_has ls 7 [(0, .ref (H0.size + th)), (1, .ref (H0.size + a1)), (2, .int a2), (3, .int a3), (4, .int a4)] := hl
  have hx := E.1
  have hb := E.2.1
  have hown := E.2.2.2.1
  have hts := E.2.2.2.2.1
  unfold w_X9_restCanBeDealt at hw
  refine lv_iconst (v := (0 : Int32)) hx hb dX9_restCanBeDealt_0 (by decide) ?_
  refine lv_istore (lv' := [(5, .int (0 : Int32)), (0, .ref (H0.size + th)), (1, .ref (H0.size + a1)), (2, .int a2), (3, .int a3), (4, .int a4)]) hx hb dX9_restCanBeDealt_1 hl (by decide) rfl (fun ls hl_1 => ?_)
  obtain ⟨n_2, hw⟩ := hw
  exact c_X9_restCanBeDealt_3 E hret n_2 _ _ _ _ hI t_th t_a1 (lv_sub hl_1 [1, 2, 3, 4, 5, 0] rfl) hw
set_option maxHeartbeats 4000000 in
set_option maxRecDepth 100000 in
theorem c_X9_heapThatMayTake_62 {p : Program} {l : Launch} {e : Env} {s : State} {m : MethodId} {args : Array Value} {below : List Frame} {meth : Method} {c : Code} {G : pm_G} {H0 : Heap} {M0 : pm_M} {Post : Int32 → pm_M → Prop} {v0 : Nat} {v1 : Nat} {v2 : Int32} {v3 : Int32} {v4 : Int32} {v5 : Int32} {v6 : Int32} {M : pm_M} {k_3 : Int32 → pm_M → Prop} (E : pm_E G p s m args meth c cX9_heapThatMayTake 7 RX9) (hret : meth.sig.returnType = (some .int)) (hk_3 : ∀ (v5 : Int32) (M : pm_M) (H : Heap) (locs : List Loc) (ls : Array Slot), pm_X M0 M → pm_I G H0 M H locs → (pm_is M v0 8) → (pm_is M v1 4) → lv_has ls 7 [(0, .ref (H0.size + v0)), (1, .ref (H0.size + v1)), (2, .int v2), (3, .int v3), (4, .int v4), (5, .int v5)] → k_3 v5 M → W p l e rm_X9_heapThatMayTake s m args below meth c H locs 0 0 (pm_Z G H0 M0 (pm_Pi Post) below args s rm_X9_heapThatMayTake.cells rm_X9_heapThatMayTake.slots) (F0 m 3 ls [])) {H : Heap} {locs : List Loc} {ls : Array Slot} (hX : pm_X M0 M) (hI : pm_I G H0 M H locs) (t_v0 : pm_is M v0 8) (t_v1 : pm_is M v1 4) (hl : lv_has ls 7 [(0, .ref (H0.size + v0)), (1, .ref (H0.size + v1)), (2, .int v2), (3, .int v3), (4, .int v4), (5, .int v5), (6, .int v6)]) (hw : w_X9_heapThatMayTake_62 Post k_3 v0 v1 v2 v3 v4 v5 v6 M) : W p l e rm_X9_heapThatMayTake s m args below meth c H locs 0 0 (pm_Z G H0 M0 (pm_Pi Post) below args s rm_X9_heapThatMayTake.cells rm_X9_heapThatMayTake.slots) (F0 m 62 ls []) := by
  have hx := E.1
  have hb := E.2.1
  have hown := E.2.2.2.1
  have hts := E.2.2.2.2.1
  unfold w_X9_heapThatMayTake_62 at hw
  refine lv_aload_n hx hb dX9_heapThatMayTake_62 rfl (lv_at hl 0 rfl) ?_
  obtain ⟨q_1, e_q_1, hw⟩ := hw
  refine gf_X9_25 E hI t_v0 dX9_heapThatMayTake_63 e_q_1 (fun t_q_1 => ?_)
  refine lv_iload hx hb dX9_heapThatMayTake_66 (lv_at hl 5 rfl) ?_
  refine lv_iload hx hb dX9_heapThatMayTake_68 (lv_at hl 6 rfl) ?_
  obtain ⟨h_2, hw⟩ := hw
  refine ps_iast E hI t_q_1 h_2 dX9_heapThatMayTake_70 (fun H locs M_3 e_M_3 hX1 hI => ?_)
  replace hw := hw M_3 e_M_3
  replace t_v0 := t_v0.x hX1
  replace t_v1 := t_v1.x hX1
  replace hX := hX.tr hX1
  obtain ⟨x_4, e_x_4⟩ : ∃ z : Int32, z = v5 + (1 : Int32) := ⟨_, rfl⟩
  refine lv_iinc (v := x_4) (lv' := [(5, .int x_4), (0, .ref (H0.size + v0)), (1, .ref (H0.size + v1)), (2, .int v2), (3, .int v3), (4, .int v4), (6, .int v6)]) hx hb dX9_heapThatMayTake_71 hl (k := 5) rfl (by rw [e_x_4]; rfl) (by decide) rfl (fun ls hl_5 => ?_)
  replace hw := hw x_4 e_x_4
  refine lv_goto (tgt := 3) hx hb dX9_heapThatMayTake_74 (by decide) ?_
  exact hk_3 _ _ _ _ _ hX hI t_v0 t_v1 (lv_sub hl_5 [1, 2, 3, 4, 5, 0] rfl) hw
set_option maxHeartbeats 4000000 in
set_option maxRecDepth 100000 in
theorem c_X9_heapThatMayTake_3 {p : Program} {l : Launch} {e : Env} {s : State} {m : MethodId} {args : Array Value} {below : List Frame} {meth : Method} {c : Code} {G : pm_G} {H0 : Heap} {M0 : pm_M} {Post : Int32 → pm_M → Prop} {v0 : Nat} {v1 : Nat} {v2 : Int32} {v3 : Int32} {v4 : Int32} (E : pm_E G p s m args meth c cX9_heapThatMayTake 7 RX9) (hret : meth.sig.returnType = (some .int)) : ∀ (n : Nat) (v5 : Int32) (M : pm_M) (H : Heap) (locs : List Loc) (ls : Array Slot), pm_X M0 M → pm_I G H0 M H locs → (pm_is M v0 8) → (pm_is M v1 4) → lv_has ls 7 [(0, .ref (H0.size + v0)), (1, .ref (H0.size + v1)), (2, .int v2), (3, .int v3), (4, .int v4), (5, .int v5)] → w_X9_heapThatMayTake_3 Post v0 v1 v2 v3 v4 n v5 M → W p l e rm_X9_heapThatMayTake s m args below meth c H locs 0 0 (pm_Z G H0 M0 (pm_Pi Post) below args s rm_X9_heapThatMayTake.cells rm_X9_heapThatMayTake.slots) (F0 m 3 ls []) := by
  have hx := E.1
  have hb := E.2.1
  have hown := E.2.2.2.1
  have hts := E.2.2.2.2.1
  intro n
  induction n with
  | zero =>
    intro v5 M H locs ls hX hI t_v0 t_v1 hl hw
    unfold w_X9_heapThatMayTake_3 at hw
    exact hw.elim
  | succ n ih =>
    intro v5 M H locs ls hX hI t_v0 t_v1 hl hw
    unfold w_X9_heapThatMayTake_3 at hw
    refine lv_iload hx hb dX9_heapThatMayTake_3 (lv_at hl 5 rfl) ?_
    refine lv_iload_n hx hb dX9_heapThatMayTake_5 rfl (lv_at hl 3 rfl) ?_
    refine lv_icmp_ge (tgt := 77) hx hb dX9_heapThatMayTake_6 (by decide) (fun h_1 => ?_) (fun h_1 => ?_)
    · replace hw := hw.1 h_1
      refine lv_iload_n hx hb dX9_heapThatMayTake_77 rfl (lv_at hl 3 rfl) ?_
      exact pm_iret E hret hI hX ⟨_, rfl, hw⟩ (by decide) (by decide) dX9_heapThatMayTake_78
    · replace hw := hw.2 h_1
      refine lv_aload_n hx hb dX9_heapThatMayTake_9 rfl (lv_at hl 0 rfl) ?_
      obtain ⟨q_2, e_q_2, hw⟩ := hw
      refine gf_X9_25 E hI t_v0 dX9_heapThatMayTake_10 e_q_2 (fun t_q_2 => ?_)
      refine lv_iload hx hb dX9_heapThatMayTake_13 (lv_at hl 5 rfl) ?_
      obtain ⟨h_3, hw⟩ := hw
      refine pm_iald E hI t_q_2 h_3 dX9_heapThatMayTake_15 ?_
      refine lv_topi (fun x_4 e_x_4 => ?_)
      replace hw := hw x_4 e_x_4
      refine lv_istore (lv' := [(6, .int x_4), (0, .ref (H0.size + v0)), (1, .ref (H0.size + v1)), (2, .int v2), (3, .int v3), (4, .int v4), (5, .int v5)]) hx hb dX9_heapThatMayTake_16 hl (by decide) rfl (fun ls hl_5 => ?_)
      refine lv_aload_n hx hb dX9_heapThatMayTake_18 rfl (lv_at hl_5 1 rfl) ?_
      refine gf_X9_25 E hI t_v0 dX9_heapThatMayTake_19 e_q_2 (fun _ => ?_)
      refine lv_iload hx hb dX9_heapThatMayTake_22 (lv_at hl_5 6 rfl) ?_
      refine lv_iload hx hb dX9_heapThatMayTake_24 (lv_at hl_5 0 rfl) ?_
      refine lv_iconst (v := (1 : Int32)) hx hb dX9_heapThatMayTake_26 (by decide) ?_
      refine lv_iload_n hx hb dX9_heapThatMayTake_27 rfl (lv_at hl_5 3 rfl) ?_
      refine lv_ishl hx hb dX9_heapThatMayTake_28 ?_
      refine lv_ior hx hb dX9_heapThatMayTake_29 ?_
      obtain ⟨h_6, hw⟩ := hw
      refine ps_iast E hI t_q_2 h_6 dX9_heapThatMayTake_30 (fun H locs M_7 e_M_7 hX1 hI => ?_)
      replace hw := hw M_7 e_M_7
      replace t_v0 := t_v0.x hX1
      replace t_v1 := t_v1.x hX1
      replace hX := hX.tr hX1
      refine lv_aload_n hx hb dX9_heapThatMayTake_31 rfl (lv_at hl_5 2 rfl) ?_
      refine lv_aload_n hx hb dX9_heapThatMayTake_32 rfl (lv_at hl_5 1 rfl) ?_
      obtain ⟨q_8, e_q_8, hw⟩ := hw
      refine gf_X9_25 E hI t_v0 dX9_heapThatMayTake_33 e_q_8 (fun t_q_8 => ?_)
      refine lv_iload hx hb dX9_heapThatMayTake_36 (lv_at hl_5 6 rfl) ?_
      obtain ⟨h_9, hw⟩ := hw
      refine pm_iald E hI t_q_8 h_9 dX9_heapThatMayTake_38 ?_
      refine pm_callV (As := [.int (mI M_7 q_8 v5.toNatClampNeg)]) (rest := []) 1 E hI (k_X5_permits t_v1 hw) t_v1 (by decide) rfl kc_X5_permits kl_X9_184 km_X5_permits ks_X5_permits ki_X5 (by decide +kernel) ⟨by decide, by decide⟩ rfl hl_5.1 rfl (by first | exact Nat.le_of_ble_eq_true rfl | (simp only [List.map, pm_rf_cat]; exact Nat.le_of_ble_eq_true rfl)) dX9_heapThatMayTake_39 ⟨by decide, by decide⟩ (fun r9 M9 H locs hp hX1 hI => ?_)
      clear hw
      obtain ⟨r_10, rfl, rfl, hw⟩ := hp
      refine pm_nrm (cells' := 0) (slots' := 0) (g2 := F0 m 42 ls [.int r_10]) rfl rfl rfl ?_
      refine lv_if_eq (tgt := 62) hx hb dX9_heapThatMayTake_42 (by decide) (fun h_11 => ?_) (fun h_11 => ?_)
      · replace hw := hw.1 h_11
        exact c_X9_heapThatMayTake_62 E hret ih hX hI t_v0 t_v1 (lv_sub hl_5 [1, 2, 3, 4, 5, 6, 0] rfl) hw
      · replace hw := hw.2 h_11
        refine lv_aload_n hx hb dX9_heapThatMayTake_45 rfl (lv_at hl_5 1 rfl) ?_
        refine lv_aload_n hx hb dX9_heapThatMayTake_46 rfl (lv_at hl_5 2 rfl) ?_
        refine lv_iload_n hx hb dX9_heapThatMayTake_47 rfl (lv_at hl_5 3 rfl) ?_
        refine lv_iconst (v := (1 : Int32)) hx hb dX9_heapThatMayTake_48 (by decide) ?_
        refine lv_iadd hx hb dX9_heapThatMayTake_49 ?_
        refine lv_iload_n hx hb dX9_heapThatMayTake_50 rfl (lv_at hl_5 4 rfl) ?_
        refine lv_iload hx hb dX9_heapThatMayTake_51 (lv_at hl_5 5 rfl) ?_
        refine pm_callV (As := [.ref (H0.size + v1), .int (v2 + (1 : Int32)), .int v3, .int v4]) (rest := []) 4 E hI (k_X9_restCanBeDealt t_v0 t_v1 hw) t_v0 (by decide) rfl kc_X9_restCanBeDealt kl_X9_279 km_X9_restCanBeDealt ks_X9_restCanBeDealt ki_X9 (by decide +kernel) ⟨by decide, by decide⟩ rfl hl_5.1 rfl (by first | exact Nat.le_of_ble_eq_true rfl | (simp only [List.map, pm_rf_cat]; exact Nat.le_of_ble_eq_true rfl)) dX9_heapThatMayTake_53 ⟨by decide, by decide⟩ (fun r9 M9 H locs hp hX1 hI => ?_)
        clear hw
        obtain ⟨r_12, rfl, rfl, hw⟩ := hp
        refine pm_nrm (cells' := 0) (slots' := 0) (g2 := F0 m 56 ls [.int r_12]) rfl rfl rfl ?_
        refine lv_if_eq (tgt := 62) hx hb dX9_heapThatMayTake_56 (by decide) (fun h_13 => ?_) (fun h_13 => ?_)
        · replace hw := hw.1 h_13
          exact c_X9_heapThatMayTake_62 E hret ih hX hI t_v0 t_v1 (lv_sub hl_5 [1, 2, 3, 4, 5, 6, 0] rfl) hw
        · replace hw := hw.2 h_13
          refine lv_iload hx hb dX9_heapThatMayTake_59 (lv_at hl_5 6 rfl) ?_
          exact pm_iret E hret hI hX ⟨_, rfl, hw⟩ (by decide) (by decide) dX9_heapThatMayTake_61
set_option maxHeartbeats 4000000 in
set_option maxRecDepth 100000 in
theorem k_X9_heapThatMayTake {l : Launch} {G : pm_G} {H0 : Heap} {th : Nat} {a1 : Nat} {a2 : Int32} {a3 : Int32} {a4 : Int32} {M : pm_M} {Post : Int32 → pm_M → Prop} (t_th : pm_is M th 8) (t_a1 : pm_is M a1 4) (hw : w_X9_heapThatMayTake th a1 a2 a3 a4 M Post) : pm_C l G H0 yX9_heapThatMayTake cX9_heapThatMayTake 7 (some .int) rm_X9_heapThatMayTake [.ref (H0.size + th), .ref (H0.size + a1), .int a2, .int a3, .int a4] M (pm_Pi Post) := by
  refine pm_start (by decide +kernel) (Nat.le_of_ble_eq_true rfl) ?_
  intro p e s m args below meth c H ls E hret hnm hI hl
  have hX : pm_X M M := pm_X.rf
  have hl : lv_has ls 7 [(0, .ref (H0.size + th)), (1, .ref (H0.size + a1)), (2, .int a2), (3, .int a3), (4, .int a4)] := hl
  have hx := E.1
  have hb := E.2.1
  have hown := E.2.2.2.1
  have hts := E.2.2.2.2.1
  unfold w_X9_heapThatMayTake at hw
  refine lv_iconst (v := (0 : Int32)) hx hb dX9_heapThatMayTake_0 (by decide) ?_
  refine lv_istore (lv' := [(5, .int (0 : Int32)), (0, .ref (H0.size + th)), (1, .ref (H0.size + a1)), (2, .int a2), (3, .int a3), (4, .int a4)]) hx hb dX9_heapThatMayTake_1 hl (by decide) rfl (fun ls hl_1 => ?_)
  obtain ⟨n_2, hw⟩ := hw
  exact c_X9_heapThatMayTake_3 E hret n_2 _ _ _ _ _ hX hI t_th t_a1 (lv_sub hl_1 [1, 2, 3, 4, 5, 0] rfl) hw
set_option maxHeartbeats 4000000 in
set_option maxRecDepth 100000 in
theorem c_X9_numberInDeal_75 {p : Program} {l : Launch} {e : Env} {s : State} {m : MethodId} {args : Array Value} {below : List Frame} {meth : Method} {c : Code} {G : pm_G} {H0 : Heap} {M0 : pm_M} {Post : Int32 → pm_M → Prop} {v5 : Int32} {M : pm_M} (E : pm_E G p s m args meth c cX9_numberInDeal 7 RX9) (hret : meth.sig.returnType = (some .int)) {H : Heap} {locs : List Loc} {ls : Array Slot} (hX : pm_X M0 M) (hI : pm_I G H0 M H locs) (hl : lv_has ls 7 [(5, .int v5)]) (hw : w_X9_numberInDeal_75 Post v5 M) : W p l e rm_X9_numberInDeal s m args below meth c H locs 0 0 (pm_Z G H0 M0 (pm_Pi Post) below args s rm_X9_numberInDeal.cells rm_X9_numberInDeal.slots) (F0 m 75 ls []) := by
  have hx := E.1
  have hb := E.2.1
  have hown := E.2.2.2.1
  have hts := E.2.2.2.2.1
  unfold w_X9_numberInDeal_75 at hw
  refine lv_iload hx hb dX9_numberInDeal_75 (lv_at hl 0 rfl) ?_
  exact pm_iret E hret hI hX ⟨_, rfl, hw⟩ (by decide) (by decide) dX9_numberInDeal_77
set_option maxHeartbeats 4000000 in
set_option maxRecDepth 100000 in
theorem c_X9_numberInDeal_69 {p : Program} {l : Launch} {e : Env} {s : State} {m : MethodId} {args : Array Value} {below : List Frame} {meth : Method} {c : Code} {G : pm_G} {H0 : Heap} {M0 : pm_M} {Post : Int32 → pm_M → Prop} {v0 : Nat} {v1 : Nat} {v2 : Int32} {v3 : Int32} {v4 : Int32} {v5 : Int32} {v6 : Int32} {M : pm_M} {k_20 : Int32 → Int32 → Int32 → pm_M → Prop} (E : pm_E G p s m args meth c cX9_numberInDeal 7 RX9) (hret : meth.sig.returnType = (some .int)) (hk_20 : ∀ (v4 : Int32) (v5 : Int32) (v6 : Int32) (M : pm_M) (H : Heap) (locs : List Loc) (ls : Array Slot), pm_X M0 M → pm_I G H0 M H locs → (pm_is M v0 8) → (pm_is M v1 4) → lv_has ls 7 [(0, .ref (H0.size + v0)), (1, .ref (H0.size + v1)), (2, .int v2), (3, .int v3), (4, .int v4), (5, .int v5), (6, .int v6)] → k_20 v4 v5 v6 M → W p l e rm_X9_numberInDeal s m args below meth c H locs 0 0 (pm_Z G H0 M0 (pm_Pi Post) below args s rm_X9_numberInDeal.cells rm_X9_numberInDeal.slots) (F0 m 20 ls [])) {H : Heap} {locs : List Loc} {ls : Array Slot} (hX : pm_X M0 M) (hI : pm_I G H0 M H locs) (t_v0 : pm_is M v0 8) (t_v1 : pm_is M v1 4) (hl : lv_has ls 7 [(0, .ref (H0.size + v0)), (1, .ref (H0.size + v1)), (2, .int v2), (3, .int v3), (4, .int v4), (5, .int v5), (6, .int v6)]) (hw : w_X9_numberInDeal_69 Post k_20 v0 v1 v2 v3 v4 v5 v6 M) : W p l e rm_X9_numberInDeal s m args below meth c H locs 0 0 (pm_Z G H0 M0 (pm_Pi Post) below args s rm_X9_numberInDeal.cells rm_X9_numberInDeal.slots) (F0 m 69 ls []) := by
  have hx := E.1
  have hb := E.2.1
  have hown := E.2.2.2.1
  have hts := E.2.2.2.2.1
  unfold w_X9_numberInDeal_69 at hw
  obtain ⟨x_1, e_x_1⟩ : ∃ z : Int32, z = v6 + (1 : Int32) := ⟨_, rfl⟩
  refine lv_iinc (v := x_1) (lv' := [(6, .int x_1), (0, .ref (H0.size + v0)), (1, .ref (H0.size + v1)), (2, .int v2), (3, .int v3), (4, .int v4), (5, .int v5)]) hx hb dX9_numberInDeal_69 hl (k := 6) rfl (by rw [e_x_1]; rfl) (by decide) rfl (fun ls hl_2 => ?_)
  replace hw := hw x_1 e_x_1
  refine lv_goto (tgt := 20) hx hb dX9_numberInDeal_72 (by decide) ?_
  exact hk_20 _ _ _ _ _ _ _ hX hI t_v0 t_v1 (lv_sub hl_2 [1, 2, 3, 4, 5, 6, 0] rfl) hw
set_option maxHeartbeats 4000000 in
set_option maxRecDepth 100000 in
theorem c_X9_numberInDeal_20 {p : Program} {l : Launch} {e : Env} {s : State} {m : MethodId} {args : Array Value} {below : List Frame} {meth : Method} {c : Code} {G : pm_G} {H0 : Heap} {M0 : pm_M} {Post : Int32 → pm_M → Prop} {v0 : Nat} {v1 : Nat} {v2 : Int32} {v3 : Int32} (E : pm_E G p s m args meth c cX9_numberInDeal 7 RX9) (hret : meth.sig.returnType = (some .int)) : ∀ (n : Nat) (v4 : Int32) (v5 : Int32) (v6 : Int32) (M : pm_M) (H : Heap) (locs : List Loc) (ls : Array Slot), pm_X M0 M → pm_I G H0 M H locs → (pm_is M v0 8) → (pm_is M v1 4) → lv_has ls 7 [(0, .ref (H0.size + v0)), (1, .ref (H0.size + v1)), (2, .int v2), (3, .int v3), (4, .int v4), (5, .int v5), (6, .int v6)] → w_X9_numberInDeal_20 Post v0 v1 v2 v3 n v4 v5 v6 M → W p l e rm_X9_numberInDeal s m args below meth c H locs 0 0 (pm_Z G H0 M0 (pm_Pi Post) below args s rm_X9_numberInDeal.cells rm_X9_numberInDeal.slots) (F0 m 20 ls []) := by
  have hx := E.1
  have hb := E.2.1
  have hown := E.2.2.2.1
  have hts := E.2.2.2.2.1
  intro n
  induction n with
  | zero =>
    intro v4 v5 v6 M H locs ls hX hI t_v0 t_v1 hl hw
    unfold w_X9_numberInDeal_20 at hw
    exact hw.elim
  | succ n ih =>
    intro v4 v5 v6 M H locs ls hX hI t_v0 t_v1 hl hw
    unfold w_X9_numberInDeal_20 at hw
    refine lv_iload hx hb dX9_numberInDeal_20 (lv_at hl 6 rfl) ?_
    refine lv_iload_n hx hb dX9_numberInDeal_22 rfl (lv_at hl 2 rfl) ?_
    refine lv_icmp_gt (tgt := 75) hx hb dX9_numberInDeal_23 (by decide) (fun h_1 => ?_) (fun h_1 => ?_)
    · replace hw := hw.1 h_1
      exact c_X9_numberInDeal_75 E hret hX hI (lv_sub hl [5] rfl) hw
    · replace hw := hw.2 h_1
      refine lv_iload hx hb dX9_numberInDeal_26 (lv_at hl 4 rfl) ?_
      refine lv_aload_n hx hb dX9_numberInDeal_28 rfl (lv_at hl 0 rfl) ?_
      obtain ⟨q_2, e_q_2, hw⟩ := hw
      refine gf_X9_25 E hI t_v0 dX9_numberInDeal_29 e_q_2 (fun t_q_2 => ?_)
      refine ps_alenI E hI t_q_2 dX9_numberInDeal_32 ?_
      refine lv_icmp_ge (tgt := 75) hx hb dX9_numberInDeal_33 (by decide) (fun h_3 => ?_) (fun h_3 => ?_)
      · replace hw := hw.1 h_3
        exact c_X9_numberInDeal_75 E hret hX hI (lv_sub hl [5] rfl) hw
      · replace hw := hw.2 h_3
        refine lv_aload_n hx hb dX9_numberInDeal_36 rfl (lv_at hl 0 rfl) ?_
        refine lv_aload_n hx hb dX9_numberInDeal_37 rfl (lv_at hl 1 rfl) ?_
        refine lv_iload hx hb dX9_numberInDeal_38 (lv_at hl 6 rfl) ?_
        refine lv_iload hx hb dX9_numberInDeal_40 (lv_at hl 4 rfl) ?_
        refine lv_iload_n hx hb dX9_numberInDeal_42 rfl (lv_at hl 3 rfl) ?_
        refine pm_callV (As := [.ref (H0.size + v1), .int v6, .int v4, .int v3]) (rest := []) 4 E hI (k_X9_heapThatMayTake t_v0 t_v1 hw) t_v0 (by decide) rfl kc_X9_heapThatMayTake kl_X9_275 km_X9_heapThatMayTake ks_X9_heapThatMayTake ki_X9 (by decide +kernel) ⟨by decide, by decide⟩ rfl hl.1 rfl (by first | exact Nat.le_of_ble_eq_true rfl | (simp only [List.map, pm_rf_cat]; exact Nat.le_of_ble_eq_true rfl)) dX9_numberInDeal_43 ⟨by decide, by decide⟩ (fun r9 M_4 H locs hp hX1 hI => ?_)
        clear hw
        obtain ⟨r_5, rfl, hw⟩ := hp
        replace t_v0 := t_v0.x hX1
        replace t_v1 := t_v1.x hX1
        replace hX := hX.tr hX1
        refine pm_nrm (cells' := 0) (slots' := 0) (g2 := F0 m 46 ls [.int r_5]) rfl rfl rfl ?_
        refine lv_istore (lv' := [(5, .int r_5), (0, .ref (H0.size + v0)), (1, .ref (H0.size + v1)), (2, .int v2), (3, .int v3), (4, .int v4), (6, .int v6)]) hx hb dX9_numberInDeal_46 hl (by decide) rfl (fun ls hl_6 => ?_)
        refine lv_iload hx hb dX9_numberInDeal_48 (lv_at hl_6 0 rfl) ?_
        refine lv_iload hx hb dX9_numberInDeal_50 (lv_at hl_6 5 rfl) ?_
        refine lv_icmp_ne (tgt := 69) hx hb dX9_numberInDeal_52 (by decide) (fun h_7 => ?_) (fun h_7 => ?_)
        · replace hw := hw.1 h_7
          exact c_X9_numberInDeal_69 E hret ih hX hI t_v0 t_v1 (lv_sub hl_6 [1, 2, 3, 4, 5, 0, 6] rfl) hw
        · replace hw := hw.2 h_7
          refine lv_aload_n hx hb dX9_numberInDeal_55 rfl (lv_at hl_6 1 rfl) ?_
          obtain ⟨q_8, e_q_8, hw⟩ := hw
          refine gf_X9_25 E hI t_v0 dX9_numberInDeal_56 e_q_8 (fun t_q_8 => ?_)
          refine lv_iload hx hb dX9_numberInDeal_59 (lv_at hl_6 5 rfl) ?_
          refine lv_iconst (v := (1 : Int32)) hx hb dX9_numberInDeal_61 (by decide) ?_
          refine lv_iload hx hb dX9_numberInDeal_62 (lv_at hl_6 6 rfl) ?_
          refine lv_ishl hx hb dX9_numberInDeal_64 ?_
          obtain ⟨h_9, hw⟩ := hw
          refine ps_iast E hI t_q_8 h_9 dX9_numberInDeal_65 (fun H locs M_10 e_M_10 hX1 hI => ?_)
          replace hw := hw M_10 e_M_10
          replace t_v0 := t_v0.x hX1
          replace t_v1 := t_v1.x hX1
          replace hX := hX.tr hX1
          obtain ⟨x_11, e_x_11⟩ : ∃ z : Int32, z = v4 + (1 : Int32) := ⟨_, rfl⟩
          refine lv_iinc (v := x_11) (lv' := [(4, .int x_11), (5, .int r_5), (0, .ref (H0.size + v0)), (1, .ref (H0.size + v1)), (2, .int v2), (3, .int v3), (6, .int v6)]) hx hb dX9_numberInDeal_66 hl_6 (k := 5) rfl (by rw [e_x_11]; rfl) (by decide) rfl (fun ls hl_12 => ?_)
          replace hw := hw x_11 e_x_11
          exact c_X9_numberInDeal_69 E hret ih hX hI t_v0 t_v1 (lv_sub hl_12 [2, 3, 4, 5, 0, 1, 6] rfl) hw
set_option maxHeartbeats 4000000 in
set_option maxRecDepth 100000 in
theorem k_X9_numberInDeal {l : Launch} {G : pm_G} {H0 : Heap} {th : Nat} {a1 : Nat} {a2 : Int32} {M : pm_M} {Post : Int32 → pm_M → Prop} (t_th : pm_is M th 8) (t_a1 : pm_is M a1 4) (hw : w_X9_numberInDeal th a1 a2 M Post) : pm_C l G H0 yX9_numberInDeal cX9_numberInDeal 7 (some .int) rm_X9_numberInDeal [.ref (H0.size + th), .ref (H0.size + a1), .int a2] M (pm_Pi Post) := by
  refine pm_start (by decide +kernel) (Nat.le_of_ble_eq_true rfl) ?_
  intro p e s m args below meth c H ls E hret hnm hI hl
  have hX : pm_X M M := pm_X.rf
  have hl : lv_has ls 7 [(0, .ref (H0.size + th)), (1, .ref (H0.size + a1)), (2, .int a2)] := hl
  have hx := E.1
  have hb := E.2.1
  have hown := E.2.2.2.1
  have hts := E.2.2.2.2.1
  unfold w_X9_numberInDeal at hw
  refine lv_aload_n hx hb dX9_numberInDeal_0 rfl (lv_at hl 0 rfl) ?_
  refine lv_aload_n hx hb dX9_numberInDeal_1 rfl (lv_at hl 1 rfl) ?_
  refine lv_aload_n hx hb dX9_numberInDeal_2 rfl (lv_at hl 0 rfl) ?_
  refine lv_aload_n hx hb dX9_numberInDeal_3 rfl (lv_at hl 1 rfl) ?_
  refine pm_callV (As := [.ref (H0.size + a1)]) (rest := [.ref (H0.size + a1), .ref (H0.size + th)]) 1 E hI (k_X9_mostCrowded t_th t_a1 hw) t_th (by decide) rfl kc_X9_mostCrowded kl_X9_218 km_X9_mostCrowded ks_X9_mostCrowded ki_X9 (by decide +kernel) ⟨by decide, by decide⟩ rfl hl.1 rfl (by first | exact Nat.le_of_ble_eq_true rfl | (simp only [List.map, pm_rf_cat]; exact Nat.le_of_ble_eq_true rfl)) dX9_numberInDeal_4 ⟨by decide, by decide⟩ (fun r9 M9 H locs hp hX1 hI => ?_)
  clear hw
  obtain ⟨r_1, rfl, rfl, hw⟩ := hp
  refine pm_nrm (cells' := 0) (slots' := 0) (g2 := F0 m 7 ls [.int r_1, .ref (H0.size + a1), .ref (H0.size + th)]) rfl rfl rfl ?_
  refine pm_callV (As := [.ref (H0.size + a1), .int r_1]) (rest := []) 2 E hI (k_X9_heapsNeeded t_th t_a1 hw) t_th (by decide) rfl kc_X9_heapsNeeded kl_X9_222 km_X9_heapsNeeded ks_X9_heapsNeeded ki_X9 (by decide +kernel) ⟨by decide, by decide⟩ rfl hl.1 rfl (by first | exact Nat.le_of_ble_eq_true rfl | (simp only [List.map, pm_rf_cat]; exact Nat.le_of_ble_eq_true rfl)) dX9_numberInDeal_7 ⟨by decide, by decide⟩ (fun r9 M9 H locs hp hX1 hI => ?_)
  clear hw
  obtain ⟨r_2, rfl, rfl, hw⟩ := hp
  refine pm_nrm (cells' := 0) (slots' := 0) (g2 := F0 m 10 ls [.int r_2]) rfl rfl rfl ?_
  refine lv_istore_n (lv' := [(3, .int r_2), (0, .ref (H0.size + th)), (1, .ref (H0.size + a1)), (2, .int a2)]) hx hb dX9_numberInDeal_10 rfl hl (by decide) rfl (fun ls hl_3 => ?_)
  refine lv_iconst (v := (0 : Int32)) hx hb dX9_numberInDeal_11 (by decide) ?_
  refine lv_istore (lv' := [(4, .int (0 : Int32)), (3, .int r_2), (0, .ref (H0.size + th)), (1, .ref (H0.size + a1)), (2, .int a2)]) hx hb dX9_numberInDeal_12 hl_3 (by decide) rfl (fun ls hl_4 => ?_)
  refine lv_iconst (v := (0 : Int32)) hx hb dX9_numberInDeal_14 (by decide) ?_
  refine lv_istore (lv' := [(5, .int (0 : Int32)), (4, .int (0 : Int32)), (3, .int r_2), (0, .ref (H0.size + th)), (1, .ref (H0.size + a1)), (2, .int a2)]) hx hb dX9_numberInDeal_15 hl_4 (by decide) rfl (fun ls hl_5 => ?_)
  refine lv_iconst (v := (0 : Int32)) hx hb dX9_numberInDeal_17 (by decide) ?_
  refine lv_istore (lv' := [(6, .int (0 : Int32)), (5, .int (0 : Int32)), (4, .int (0 : Int32)), (3, .int r_2), (0, .ref (H0.size + th)), (1, .ref (H0.size + a1)), (2, .int a2)]) hx hb dX9_numberInDeal_18 hl_5 (by decide) rfl (fun ls hl_6 => ?_)
  obtain ⟨n_7, hw⟩ := hw
  exact c_X9_numberInDeal_20 E hret n_7 _ _ _ _ _ _ _ hX hI t_th t_a1 (lv_sub hl_6 [4, 5, 6, 3, 2, 1, 0] rfl) hw
set_option maxHeartbeats 4000000 in
set_option maxRecDepth 100000 in
theorem c_X9_dealt_42 {p : Program} {l : Launch} {e : Env} {s : State} {m : MethodId} {args : Array Value} {below : List Frame} {meth : Method} {c : Code} {G : pm_G} {H0 : Heap} {M0 : pm_M} {Post : Int32 → pm_M → Prop} {s0 : Int32} {M : pm_M} (E : pm_E G p s m args meth c cX9_dealt 4 RX9) (hret : meth.sig.returnType = (some .int)) {H : Heap} {locs : List Loc} {ls : Array Slot} (hX : pm_X M0 M) (hI : pm_I G H0 M H locs) (hl : lv_has ls 4 []) (hw : w_X9_dealt_42 Post s0 M) : W p l e rm_X9_dealt s m args below meth c H locs 0 0 (pm_Z G H0 M0 (pm_Pi Post) below args s rm_X9_dealt.cells rm_X9_dealt.slots) (F0 m 42 ls [.int s0]) := by
  have hx := E.1
  have hb := E.2.1
  have hown := E.2.2.2.1
  have hts := E.2.2.2.2.1
  unfold w_X9_dealt_42 at hw
  exact pm_iret E hret hI hX ⟨_, rfl, hw⟩ (by decide) (by decide) dX9_dealt_42
set_option maxHeartbeats 4000000 in
set_option maxRecDepth 100000 in
theorem c_X9_dealt_18 {p : Program} {l : Launch} {e : Env} {s : State} {m : MethodId} {args : Array Value} {below : List Frame} {meth : Method} {c : Code} {G : pm_G} {H0 : Heap} {M0 : pm_M} {Post : Int32 → pm_M → Prop} {M : pm_M} (E : pm_E G p s m args meth c cX9_dealt 4 RX9) (hret : meth.sig.returnType = (some .int)) {H : Heap} {locs : List Loc} {ls : Array Slot} (hX : pm_X M0 M) (hI : pm_I G H0 M H locs) (hl : lv_has ls 4 []) (hw : w_X9_dealt_18 Post M) : W p l e rm_X9_dealt s m args below meth c H locs 0 0 (pm_Z G H0 M0 (pm_Pi Post) below args s rm_X9_dealt.cells rm_X9_dealt.slots) (F0 m 18 ls []) := by
  have hx := E.1
  have hb := E.2.1
  have hown := E.2.2.2.1
  have hts := E.2.2.2.2.1
  unfold w_X9_dealt_18 at hw
  refine lv_iconst (v := (-1 : Int32)) hx hb dX9_dealt_18 (by decide) ?_
  exact pm_iret E hret hI hX ⟨_, rfl, hw⟩ (by decide) (by decide) dX9_dealt_19
set_option maxHeartbeats 4000000 in
set_option maxRecDepth 100000 in
theorem k_X9_dealt {l : Launch} {G : pm_G} {H0 : Heap} {th : Nat} {a1 : Int32} {a2 : Int32} {M : pm_M} {Post : Int32 → pm_M → Prop} (t_th : pm_is M th 8) (hw : w_X9_dealt th a1 a2 M Post) : pm_C l G H0 yX9_dealt cX9_dealt 4 (some .int) rm_X9_dealt [.ref (H0.size + th), .int a1, .int a2] M (pm_Pi Post) := by
  refine pm_start (by decide +kernel) (Nat.le_of_ble_eq_true rfl) ?_
  intro p e s m args below meth c H ls E hret hnm hI hl
  have hX : pm_X M M := pm_X.rf
  have hl : lv_has ls 4 [(0, .ref (H0.size + th)), (1, .int a1), (2, .int a2)] := hl
  have hx := E.1
  have hb := E.2.1
  have hown := E.2.2.2.1
  have hts := E.2.2.2.2.1
  unfold w_X9_dealt at hw
  refine lv_aload_n hx hb dX9_dealt_0 rfl (lv_at hl 0 rfl) ?_
  refine lv_iload_n hx hb dX9_dealt_1 rfl (lv_at hl 1 rfl) ?_
  refine pm_callV (As := [.int a1]) (rest := []) 1 E hI (k_X9_ruleAt t_th hw) t_th (by decide) rfl kc_X9_ruleAt kl_X9_158 km_X9_ruleAt ks_X9_ruleAt ki_X9 (by decide +kernel) ⟨by decide, by decide⟩ rfl hl.1 rfl (by first | exact Nat.le_of_ble_eq_true rfl | (simp only [List.map, pm_rf_cat]; exact Nat.le_of_ble_eq_true rfl)) dX9_dealt_2 ⟨by decide, by decide⟩ (fun r9 M9 H locs hp hX1 hI => ?_)
  clear hw
  obtain ⟨r_1, rfl, o_r_1, rfl, hw⟩ := hp
  refine pm_nrm (cells' := 0) (slots' := 0) (g2 := F0 m 5 ls [pm_rf H0.size r_1]) rfl rfl rfl ?_
  refine pm_astore_n (lv' := [(3, pm_rf H0.size r_1), (0, .ref (H0.size + th)), (1, .int a1), (2, .int a2)]) hx hb dX9_dealt_5 rfl hl (by decide) (by first | rfl | simp [List.filter, pm_rf_cat]) (fun ls hl_2 => ?_)
  refine pm_aload_n hx hb dX9_dealt_6 rfl (lv_at hl_2 0 rfl) ?_
  refine pm_ifnull (tgt := 18) hx hb dX9_dealt_7 (by decide) (fun hq => ?_) (fun q_3 hq => ?_)
  · replace hw := hw.1 hq
    subst hq
    replace hl_2 : lv_has ls 4 [(3, .null), (0, .ref (H0.size + th)), (1, .int a1), (2, .int a2)] := hl_2
    exact c_X9_dealt_18 E hret hX hI (lv_sub hl_2 [] rfl) hw
  · replace hw := hw.2 q_3 hq
    subst hq
    have t_q_3 := o_r_1 q_3 rfl
    replace hl_2 : lv_has ls 4 [(3, .ref (H0.size + q_3)), (0, .ref (H0.size + th)), (1, .int a1), (2, .int a2)] := hl_2
    refine lv_aload_n hx hb dX9_dealt_10 rfl (lv_at hl_2 1 rfl) ?_
    refine lv_iload_n hx hb dX9_dealt_11 rfl (lv_at hl_2 3 rfl) ?_
    refine pm_callV (As := [.int a2]) (rest := []) 1 E hI (k_X9_isThing t_th hw) t_th (by decide) rfl kc_X9_isThing kl_X9_68 km_X9_isThing ks_X9_isThing ki_X9 (by decide +kernel) ⟨by decide, by decide⟩ rfl hl_2.1 rfl (by first | exact Nat.le_of_ble_eq_true rfl | (simp only [List.map, pm_rf_cat]; exact Nat.le_of_ble_eq_true rfl)) dX9_dealt_12 ⟨by decide, by decide⟩ (fun r9 M9 H locs hp hX1 hI => ?_)
    clear hw
    obtain ⟨r_4, rfl, rfl, hw⟩ := hp
    refine pm_nrm (cells' := 0) (slots' := 0) (g2 := F0 m 15 ls [.int r_4]) rfl rfl rfl ?_
    refine lv_if_ne (tgt := 20) hx hb dX9_dealt_15 (by decide) (fun h_5 => ?_) (fun h_5 => ?_)
    · replace hw := hw.1 h_5
      refine lv_aload_n hx hb dX9_dealt_20 rfl (lv_at hl_2 0 rfl) ?_
      refine lv_aload_n hx hb dX9_dealt_21 rfl (lv_at hl_2 1 rfl) ?_
      refine gf_X9_187 E hI t_th dX9_dealt_22 ?_
      refine pm_callV (As := [.int (mI M th 9)]) (rest := []) 1 E hI (k_X5_permitsEachAlone t_q_3 hw) t_q_3 (by decide) rfl kc_X5_permitsEachAlone kl_X9_215 km_X5_permitsEachAlone ks_X5_permitsEachAlone ki_X5 (by decide +kernel) ⟨by decide, by decide⟩ rfl hl_2.1 rfl (by first | exact Nat.le_of_ble_eq_true rfl | (simp only [List.map, pm_rf_cat]; exact Nat.le_of_ble_eq_true rfl)) dX9_dealt_25 ⟨by decide, by decide⟩ (fun r9 M9 H locs hp hX1 hI => ?_)
      clear hw
      obtain ⟨r_6, rfl, rfl, hw⟩ := hp
      refine pm_nrm (cells' := 0) (slots' := 0) (g2 := F0 m 28 ls [.int r_6]) rfl rfl rfl ?_
      refine lv_if_eq (tgt := 40) hx hb dX9_dealt_28 (by decide) (fun h_7 => ?_) (fun h_7 => ?_)
      · replace hw := hw.1 h_7
        refine lv_bipush (v := (-2 : Int32)) hx hb dX9_dealt_40 (by decide) ?_
        exact c_X9_dealt_42 E hret hX hI (lv_sub hl_2 [] rfl) hw
      · replace hw := hw.2 h_7
        refine lv_aload_n hx hb dX9_dealt_31 rfl (lv_at hl_2 1 rfl) ?_
        refine lv_aload_n hx hb dX9_dealt_32 rfl (lv_at hl_2 0 rfl) ?_
        refine lv_iload_n hx hb dX9_dealt_33 rfl (lv_at hl_2 3 rfl) ?_
        refine pm_callV (As := [.ref (H0.size + q_3), .int a2]) (rest := []) 2 E hI (k_X9_numberInDeal t_th t_q_3 hw) t_th (by decide) rfl kc_X9_numberInDeal kl_X9_226 km_X9_numberInDeal ks_X9_numberInDeal ki_X9 (by decide +kernel) ⟨by decide, by decide⟩ rfl hl_2.1 rfl (by first | exact Nat.le_of_ble_eq_true rfl | (simp only [List.map, pm_rf_cat]; exact Nat.le_of_ble_eq_true rfl)) dX9_dealt_34 ⟨by decide, by decide⟩ (fun r9 M_8 H locs hp hX1 hI => ?_)
        clear hw
        obtain ⟨r_9, rfl, hw⟩ := hp
        replace t_th := t_th.x hX1
        replace t_q_3 := t_q_3.x hX1
        replace hX := hX.tr hX1
        refine pm_nrm (cells' := 0) (slots' := 0) (g2 := F0 m 37 ls [.int r_9]) rfl rfl rfl ?_
        refine lv_goto (tgt := 42) hx hb dX9_dealt_37 (by decide) ?_
        exact c_X9_dealt_42 E hret hX hI (lv_sub hl_2 [] rfl) hw
    · replace hw := hw.2 h_5
      exact c_X9_dealt_18 E hret hX hI (lv_sub hl_2 [] rfl) hw
set_option maxHeartbeats 4000000 in
set_option maxRecDepth 100000 in
theorem c_X9_crowd_33 {p : Program} {l : Launch} {e : Env} {s : State} {m : MethodId} {args : Array Value} {below : List Frame} {meth : Method} {c : Code} {G : pm_G} {H0 : Heap} {Post : Int32 → Prop} {s0 : Int32} {M : pm_M} (E : pm_E G p s m args meth c cX9_crowd 3 RX9) (hret : meth.sig.returnType = (some .int)) {H : Heap} {locs : List Loc} {ls : Array Slot} (hI : pm_I G H0 M H locs) (hl : lv_has ls 3 []) (hw : w_X9_crowd_33 Post s0 M) : W p l e rm_X9_crowd s m args below meth c H locs 0 0 (pm_Z G H0 M (pm_Pi (fun r9 M9 => M = M9 ∧ Post r9)) below args s rm_X9_crowd.cells rm_X9_crowd.slots) (F0 m 33 ls [.int s0]) := by
  have hx := E.1
  have hb := E.2.1
  have hown := E.2.2.2.1
  have hts := E.2.2.2.2.1
  unfold w_X9_crowd_33 at hw
  exact pm_iret E hret hI pm_X.rf ⟨_, rfl, rfl, hw⟩ (by decide) (by decide) dX9_crowd_33
set_option maxHeartbeats 4000000 in
set_option maxRecDepth 100000 in
theorem k_X9_crowd {l : Launch} {G : pm_G} {H0 : Heap} {th : Nat} {a1 : Int32} {M : pm_M} {Post : Int32 → Prop} (t_th : pm_is M th 8) (hw : w_X9_crowd th a1 M Post) : pm_C l G H0 yX9_crowd cX9_crowd 3 (some .int) rm_X9_crowd [.ref (H0.size + th), .int a1] M (pm_Pi (fun r9 M9 => M = M9 ∧ Post r9)) := by
  refine pm_start (by decide +kernel) (Nat.le_of_ble_eq_true rfl) ?_
  intro p e s m args below meth c H ls E hret hnm hI hl
  have hl : lv_has ls 3 [(0, .ref (H0.size + th)), (1, .int a1)] := hl
  have hx := E.1
  have hb := E.2.1
  have hown := E.2.2.2.1
  have hts := E.2.2.2.2.1
  unfold w_X9_crowd at hw
  refine lv_aload_n hx hb dX9_crowd_0 rfl (lv_at hl 0 rfl) ?_
  refine lv_iload_n hx hb dX9_crowd_1 rfl (lv_at hl 1 rfl) ?_
  refine pm_callV (As := [.int a1]) (rest := []) 1 E hI (k_X9_ruleAt t_th hw) t_th (by decide) rfl kc_X9_ruleAt kl_X9_158 km_X9_ruleAt ks_X9_ruleAt ki_X9 (by decide +kernel) ⟨by decide, by decide⟩ rfl hl.1 rfl (by first | exact Nat.le_of_ble_eq_true rfl | (simp only [List.map, pm_rf_cat]; exact Nat.le_of_ble_eq_true rfl)) dX9_crowd_2 ⟨by decide, by decide⟩ (fun r9 M9 H locs hp hX1 hI => ?_)
  clear hw
  obtain ⟨r_1, rfl, o_r_1, rfl, hw⟩ := hp
  refine pm_nrm (cells' := 0) (slots' := 0) (g2 := F0 m 5 ls [pm_rf H0.size r_1]) rfl rfl rfl ?_
  refine pm_astore_n (lv' := [(2, pm_rf H0.size r_1), (0, .ref (H0.size + th)), (1, .int a1)]) hx hb dX9_crowd_5 rfl hl (by decide) (by first | rfl | simp [List.filter, pm_rf_cat]) (fun ls hl_2 => ?_)
  refine pm_aload_n hx hb dX9_crowd_6 rfl (lv_at hl_2 0 rfl) ?_
  refine pm_ifnonnull (tgt := 12) hx hb dX9_crowd_7 (by decide) (fun q_3 hq => ?_) (fun hq => ?_)
  · replace hw := hw.2 q_3 hq
    subst hq
    have t_q_3 := o_r_1 q_3 rfl
    replace hl_2 : lv_has ls 3 [(2, .ref (H0.size + q_3)), (0, .ref (H0.size + th)), (1, .int a1)] := hl_2
    refine lv_aload_n hx hb dX9_crowd_12 rfl (lv_at hl_2 0 rfl) ?_
    refine lv_aload_n hx hb dX9_crowd_13 rfl (lv_at hl_2 1 rfl) ?_
    refine gf_X9_187 E hI t_th dX9_crowd_14 ?_
    refine pm_callV (As := [.int (mI M th 9)]) (rest := []) 1 E hI (k_X5_permitsEachAlone t_q_3 hw) t_q_3 (by decide) rfl kc_X5_permitsEachAlone kl_X9_215 km_X5_permitsEachAlone ks_X5_permitsEachAlone ki_X5 (by decide +kernel) ⟨by decide, by decide⟩ rfl hl_2.1 rfl (by first | exact Nat.le_of_ble_eq_true rfl | (simp only [List.map, pm_rf_cat]; exact Nat.le_of_ble_eq_true rfl)) dX9_crowd_17 ⟨by decide, by decide⟩ (fun r9 M9 H locs hp hX1 hI => ?_)
    clear hw
    obtain ⟨r_4, rfl, rfl, hw⟩ := hp
    refine pm_nrm (cells' := 0) (slots' := 0) (g2 := F0 m 20 ls [.int r_4]) rfl rfl rfl ?_
    refine lv_if_eq (tgt := 31) hx hb dX9_crowd_20 (by decide) (fun h_5 => ?_) (fun h_5 => ?_)
    · replace hw := hw.1 h_5
      refine lv_bipush (v := (-2 : Int32)) hx hb dX9_crowd_31 (by decide) ?_
      exact c_X9_crowd_33 E hret hI (lv_sub hl_2 [] rfl) hw
    · replace hw := hw.2 h_5
      refine lv_aload_n hx hb dX9_crowd_23 rfl (lv_at hl_2 1 rfl) ?_
      refine lv_aload_n hx hb dX9_crowd_24 rfl (lv_at hl_2 0 rfl) ?_
      refine pm_callV (As := [.ref (H0.size + q_3)]) (rest := []) 1 E hI (k_X9_mostCrowded t_th t_q_3 hw) t_th (by decide) rfl kc_X9_mostCrowded kl_X9_218 km_X9_mostCrowded ks_X9_mostCrowded ki_X9 (by decide +kernel) ⟨by decide, by decide⟩ rfl hl_2.1 rfl (by first | exact Nat.le_of_ble_eq_true rfl | (simp only [List.map, pm_rf_cat]; exact Nat.le_of_ble_eq_true rfl)) dX9_crowd_25 ⟨by decide, by decide⟩ (fun r9 M9 H locs hp hX1 hI => ?_)
      clear hw
      obtain ⟨r_6, rfl, rfl, hw⟩ := hp
      refine pm_nrm (cells' := 0) (slots' := 0) (g2 := F0 m 28 ls [.int r_6]) rfl rfl rfl ?_
      refine lv_goto (tgt := 33) hx hb dX9_crowd_28 (by decide) ?_
      exact c_X9_crowd_33 E hret hI (lv_sub hl_2 [] rfl) hw
  · replace hw := hw.1 hq
    subst hq
    replace hl_2 : lv_has ls 3 [(2, .null), (0, .ref (H0.size + th)), (1, .int a1)] := hl_2
    refine lv_iconst (v := (-1 : Int32)) hx hb dX9_crowd_10 (by decide) ?_
    exact pm_iret E hret hI pm_X.rf ⟨_, rfl, rfl, hw⟩ (by decide) (by decide) dX9_crowd_11
set_option maxHeartbeats 4000000 in
set_option maxRecDepth 100000 in
theorem c_X9_pack_81 {p : Program} {l : Launch} {e : Env} {s : State} {m : MethodId} {args : Array Value} {below : List Frame} {meth : Method} {c : Code} {G : pm_G} {H0 : Heap} {Post : Int32 → Prop} {v0 : Nat} {v2 : Nat} {v3 : Int32} {v4 : Int32} {v5 : Int32} {M : pm_M} {k_37 : Int32 → Int32 → Prop} (E : pm_E G p s m args meth c cX9_pack 7 RX9) (hret : meth.sig.returnType = (some .int)) (hk_37 : ∀ (v4 : Int32) (v5 : Int32) (H : Heap) (locs : List Loc) (ls : Array Slot), pm_I G H0 M H locs → (pm_is M v0 8) → (pm_is M v2 4) → lv_has ls 7 [(0, .ref (H0.size + v0)), (2, .ref (H0.size + v2)), (3, .int v3), (4, .int v4), (5, .int v5)] → k_37 v4 v5 → W p l e rm_X9_pack s m args below meth c H locs 0 0 (pm_Z G H0 M (pm_Pi (fun r9 M9 => M = M9 ∧ Post r9)) below args s rm_X9_pack.cells rm_X9_pack.slots) (F0 m 37 ls [])) {H : Heap} {locs : List Loc} {ls : Array Slot} (hI : pm_I G H0 M H locs) (t_v0 : pm_is M v0 8) (t_v2 : pm_is M v2 4) (hl : lv_has ls 7 [(0, .ref (H0.size + v0)), (2, .ref (H0.size + v2)), (3, .int v3), (4, .int v4), (5, .int v5)]) (hw : w_X9_pack_81 Post k_37 v0 v2 v3 v4 v5 M) : W p l e rm_X9_pack s m args below meth c H locs 0 0 (pm_Z G H0 M (pm_Pi (fun r9 M9 => M = M9 ∧ Post r9)) below args s rm_X9_pack.cells rm_X9_pack.slots) (F0 m 81 ls []) := by
  have hx := E.1
  have hb := E.2.1
  have hown := E.2.2.2.1
  have hts := E.2.2.2.2.1
  unfold w_X9_pack_81 at hw
  obtain ⟨x_1, e_x_1⟩ : ∃ z : Int32, z = v5 + (1 : Int32) := ⟨_, rfl⟩
  refine lv_iinc (v := x_1) (lv' := [(5, .int x_1), (0, .ref (H0.size + v0)), (2, .ref (H0.size + v2)), (3, .int v3), (4, .int v4)]) hx hb dX9_pack_81 hl (k := 4) rfl (by rw [e_x_1]; rfl) (by decide) rfl (fun ls hl_2 => ?_)
  replace hw := hw x_1 e_x_1
  refine lv_goto (tgt := 37) hx hb dX9_pack_84 (by decide) ?_
  exact hk_37 _ _ _ _ _ hI t_v0 t_v2 (lv_sub hl_2 [1, 2, 3, 4, 0] rfl) hw
set_option maxHeartbeats 4000000 in
set_option maxRecDepth 100000 in
theorem c_X9_pack_37 {p : Program} {l : Launch} {e : Env} {s : State} {m : MethodId} {args : Array Value} {below : List Frame} {meth : Method} {c : Code} {G : pm_G} {H0 : Heap} {Post : Int32 → Prop} {v0 : Nat} {v2 : Nat} {v3 : Int32} {M : pm_M} (E : pm_E G p s m args meth c cX9_pack 7 RX9) (hret : meth.sig.returnType = (some .int)) : ∀ (n : Nat) (v4 : Int32) (v5 : Int32) (H : Heap) (locs : List Loc) (ls : Array Slot), pm_I G H0 M H locs → (pm_is M v0 8) → (pm_is M v2 4) → lv_has ls 7 [(0, .ref (H0.size + v0)), (2, .ref (H0.size + v2)), (3, .int v3), (4, .int v4), (5, .int v5)] → w_X9_pack_37 Post v0 v2 v3 M n v4 v5 → W p l e rm_X9_pack s m args below meth c H locs 0 0 (pm_Z G H0 M (pm_Pi (fun r9 M9 => M = M9 ∧ Post r9)) below args s rm_X9_pack.cells rm_X9_pack.slots) (F0 m 37 ls []) := by
  have hx := E.1
  have hb := E.2.1
  have hown := E.2.2.2.1
  have hts := E.2.2.2.2.1
  intro n
  induction n with
  | zero =>
    intro v4 v5 H locs ls hI t_v0 t_v2 hl hw
    unfold w_X9_pack_37 at hw
    exact hw.elim
  | succ n ih =>
    intro v4 v5 H locs ls hI t_v0 t_v2 hl hw
    unfold w_X9_pack_37 at hw
    refine lv_iload hx hb dX9_pack_37 (lv_at hl 4 rfl) ?_
    refine lv_aload_n hx hb dX9_pack_39 rfl (lv_at hl 0 rfl) ?_
    refine gf_X9_135 E hI t_v0 dX9_pack_40 ?_
    refine lv_icmp_gt (tgt := 87) hx hb dX9_pack_43 (by decide) (fun h_1 => ?_) (fun h_1 => ?_)
    · replace hw := hw.1 h_1
      refine lv_iload hx hb dX9_pack_87 (lv_at hl 3 rfl) ?_
      exact pm_iret E hret hI pm_X.rf ⟨_, rfl, rfl, hw⟩ (by decide) (by decide) dX9_pack_89
    · replace hw := hw.2 h_1
      refine lv_iload_n hx hb dX9_pack_46 rfl (lv_at hl 2 rfl) ?_
      refine lv_aload_n hx hb dX9_pack_47 rfl (lv_at hl 1 rfl) ?_
      refine lv_iload hx hb dX9_pack_48 (lv_at hl 4 rfl) ?_
      refine pm_callV (As := [.int v5]) (rest := [.int v3]) 1 E hI (k_X5_rankOf t_v2 hw) t_v2 (by decide) rfl kc_X5_rankOf kl_X9_165 km_X5_rankOf ks_X5_rankOf ki_X5 (by decide +kernel) ⟨by decide, by decide⟩ rfl hl.1 rfl (by first | exact Nat.le_of_ble_eq_true rfl | (simp only [List.map, pm_rf_cat]; exact Nat.le_of_ble_eq_true rfl)) dX9_pack_50 ⟨by decide, by decide⟩ (fun r9 M9 H locs hp hX1 hI => ?_)
      clear hw
      obtain ⟨r_2, rfl, rfl, hw⟩ := hp
      refine pm_nrm (cells' := 0) (slots' := 0) (g2 := F0 m 53 ls [.int r_2, .int v3]) rfl rfl rfl ?_
      refine lv_isub hx hb dX9_pack_53 ?_
      refine lv_topi (fun x_3 e_x_3 => ?_)
      replace hw := hw x_3 e_x_3
      refine lv_istore (lv' := [(6, .int x_3), (0, .ref (H0.size + v0)), (2, .ref (H0.size + v2)), (3, .int v3), (4, .int v4), (5, .int v5)]) hx hb dX9_pack_54 hl (by decide) rfl (fun ls hl_4 => ?_)
      refine lv_iload hx hb dX9_pack_56 (lv_at hl_4 0 rfl) ?_
      refine lv_if_le (tgt := 81) hx hb dX9_pack_58 (by decide) (fun h_5 => ?_) (fun h_5 => ?_)
      · replace hw := hw.1 h_5
        exact c_X9_pack_81 E hret ih hI t_v0 t_v2 (lv_sub hl_4 [1, 2, 3, 4, 5] rfl) hw
      · replace hw := hw.2 h_5
        refine lv_iload hx hb dX9_pack_61 (lv_at hl_4 4 rfl) ?_
        refine lv_aload_n hx hb dX9_pack_63 rfl (lv_at hl_4 1 rfl) ?_
        refine gf_X9_187 E hI t_v0 dX9_pack_64 ?_
        refine lv_iload hx hb dX9_pack_67 (lv_at hl_4 5 rfl) ?_
        refine pm_callS (As := [.int v5]) (rest := [.int (mI M v0 9), .int v4]) 1 E hI (k_J6_bitCount_0f7a4 hw) kc_J6_bitCount_0f7a4 kl_X9_202 kt_J6_bitCount_0f7a4 ki_J6 (by decide +kernel) ⟨by decide, by decide⟩ rfl hl_4.1 rfl (by first | exact Nat.le_of_ble_eq_true rfl | (simp only [List.map, pm_rf_cat]; exact Nat.le_of_ble_eq_true rfl)) dX9_pack_69 ⟨by decide, by decide⟩ (fun r9 M9 H locs hp hX1 hI => ?_)
        clear hw
        obtain ⟨r_6, rfl, rfl, hw⟩ := hp
        refine pm_nrm (cells' := 0) (slots' := 0) (g2 := F0 m 72 ls [.int r_6, .int (mI M v0 9), .int v4]) rfl rfl rfl ?_
        refine lv_isub hx hb dX9_pack_72 ?_
        refine lv_iload hx hb dX9_pack_73 (lv_at hl_4 0 rfl) ?_
        obtain ⟨h9, hw⟩ := hw
        refine lv_idiv hx hb dX9_pack_75 h9 ?_
        refine pm_callS (As := [.int v4, .int (((mI M v0 9) - r_6) / x_3)]) (rest := []) 2 E hI (k_J9_min_7cf53 hw) kc_J9_min_7cf53 kl_X9_229 kt_J9_min_7cf53 ki_J9 (by decide +kernel) ⟨by decide, by decide⟩ rfl hl_4.1 rfl (by first | exact Nat.le_of_ble_eq_true rfl | (simp only [List.map, pm_rf_cat]; exact Nat.le_of_ble_eq_true rfl)) dX9_pack_76 ⟨by decide, by decide⟩ (fun r9 M9 H locs hp hX1 hI => ?_)
        clear hw
        obtain ⟨r_7, rfl, rfl, hw⟩ := hp
        refine pm_nrm (cells' := 0) (slots' := 0) (g2 := F0 m 79 ls [.int r_7]) rfl rfl rfl ?_
        refine lv_istore (lv' := [(4, .int r_7), (6, .int x_3), (0, .ref (H0.size + v0)), (2, .ref (H0.size + v2)), (3, .int v3), (5, .int v5)]) hx hb dX9_pack_79 hl_4 (by decide) rfl (fun ls hl_8 => ?_)
        exact c_X9_pack_81 E hret ih hI t_v0 t_v2 (lv_sub hl_8 [2, 3, 4, 0, 5] rfl) hw
set_option maxHeartbeats 4000000 in
set_option maxRecDepth 100000 in
theorem k_X9_pack {l : Launch} {G : pm_G} {H0 : Heap} {th : Nat} {a1 : Int32} {M : pm_M} {Post : Int32 → Prop} (t_th : pm_is M th 8) (hw : w_X9_pack th a1 M Post) : pm_C l G H0 yX9_pack cX9_pack 7 (some .int) rm_X9_pack [.ref (H0.size + th), .int a1] M (pm_Pi (fun r9 M9 => M = M9 ∧ Post r9)) := by
  refine pm_start (by decide +kernel) (Nat.le_of_ble_eq_true rfl) ?_
  intro p e s m args below meth c H ls E hret hnm hI hl
  have hl : lv_has ls 7 [(0, .ref (H0.size + th)), (1, .int a1)] := hl
  have hx := E.1
  have hb := E.2.1
  have hown := E.2.2.2.1
  have hts := E.2.2.2.2.1
  unfold w_X9_pack at hw
  refine lv_aload_n hx hb dX9_pack_0 rfl (lv_at hl 0 rfl) ?_
  refine lv_iload_n hx hb dX9_pack_1 rfl (lv_at hl 1 rfl) ?_
  refine pm_callV (As := [.int a1]) (rest := []) 1 E hI (k_X9_ruleAt t_th hw) t_th (by decide) rfl kc_X9_ruleAt kl_X9_158 km_X9_ruleAt ks_X9_ruleAt ki_X9 (by decide +kernel) ⟨by decide, by decide⟩ rfl hl.1 rfl (by first | exact Nat.le_of_ble_eq_true rfl | (simp only [List.map, pm_rf_cat]; exact Nat.le_of_ble_eq_true rfl)) dX9_pack_2 ⟨by decide, by decide⟩ (fun r9 M9 H locs hp hX1 hI => ?_)
  clear hw
  obtain ⟨r_1, rfl, o_r_1, rfl, hw⟩ := hp
  refine pm_nrm (cells' := 0) (slots' := 0) (g2 := F0 m 5 ls [pm_rf H0.size r_1]) rfl rfl rfl ?_
  refine pm_astore_n (lv' := [(2, pm_rf H0.size r_1), (0, .ref (H0.size + th)), (1, .int a1)]) hx hb dX9_pack_5 rfl hl (by decide) (by first | rfl | simp [List.filter, pm_rf_cat]) (fun ls hl_2 => ?_)
  refine pm_aload_n hx hb dX9_pack_6 rfl (lv_at hl_2 0 rfl) ?_
  refine pm_ifnonnull (tgt := 12) hx hb dX9_pack_7 (by decide) (fun q_3 hq => ?_) (fun hq => ?_)
  · replace hw := hw.2 q_3 hq
    subst hq
    have t_q_3 := o_r_1 q_3 rfl
    replace hl_2 : lv_has ls 7 [(2, .ref (H0.size + q_3)), (0, .ref (H0.size + th)), (1, .int a1)] := hl_2
    refine lv_aload_n hx hb dX9_pack_12 rfl (lv_at hl_2 0 rfl) ?_
    refine lv_aload_n hx hb dX9_pack_13 rfl (lv_at hl_2 1 rfl) ?_
    refine gf_X9_135 E hI t_th dX9_pack_14 ?_
    refine pm_callV (As := [.int (mI M th 10)]) (rest := []) 1 E hI (k_X5_rankOf t_q_3 hw) t_q_3 (by decide) rfl kc_X5_rankOf kl_X9_165 km_X5_rankOf ks_X5_rankOf ki_X5 (by decide +kernel) ⟨by decide, by decide⟩ rfl hl_2.1 rfl (by first | exact Nat.le_of_ble_eq_true rfl | (simp only [List.map, pm_rf_cat]; exact Nat.le_of_ble_eq_true rfl)) dX9_pack_17 ⟨by decide, by decide⟩ (fun r9 M9 H locs hp hX1 hI => ?_)
    clear hw
    obtain ⟨r_4, rfl, rfl, hw⟩ := hp
    refine pm_nrm (cells' := 0) (slots' := 0) (g2 := F0 m 20 ls [.int r_4]) rfl rfl rfl ?_
    refine lv_istore_n (lv' := [(3, .int r_4), (2, .ref (H0.size + q_3)), (0, .ref (H0.size + th)), (1, .int a1)]) hx hb dX9_pack_20 rfl hl_2 (by decide) rfl (fun ls hl_5 => ?_)
    refine lv_iload_n hx hb dX9_pack_21 rfl (lv_at hl_5 0 rfl) ?_
    refine lv_if_ne (tgt := 28) hx hb dX9_pack_22 (by decide) (fun h_6 => ?_) (fun h_6 => ?_)
    · replace hw := hw.1 h_6
      refine lv_aload_n hx hb dX9_pack_28 rfl (lv_at hl_5 2 rfl) ?_
      refine gf_X9_187 E hI t_th dX9_pack_29 ?_
      refine lv_topi (fun x_7 e_x_7 => ?_)
      replace hw := hw x_7 e_x_7
      refine lv_istore (lv' := [(4, .int x_7), (3, .int r_4), (2, .ref (H0.size + q_3)), (0, .ref (H0.size + th)), (1, .int a1)]) hx hb dX9_pack_32 hl_5 (by decide) rfl (fun ls hl_8 => ?_)
      refine lv_iconst (v := (0 : Int32)) hx hb dX9_pack_34 (by decide) ?_
      refine lv_istore (lv' := [(5, .int (0 : Int32)), (4, .int x_7), (3, .int r_4), (2, .ref (H0.size + q_3)), (0, .ref (H0.size + th)), (1, .int a1)]) hx hb dX9_pack_35 hl_8 (by decide) rfl (fun ls hl_9 => ?_)
      obtain ⟨n_10, hw⟩ := hw
      exact c_X9_pack_37 E hret n_10 _ _ _ _ _ hI t_th t_q_3 (lv_sub hl_9 [4, 3, 2, 1, 0] rfl) hw
    · replace hw := hw.2 h_6
      refine lv_bipush (v := (-2 : Int32)) hx hb dX9_pack_25 (by decide) ?_
      exact pm_iret E hret hI pm_X.rf ⟨_, rfl, rfl, hw⟩ (by decide) (by decide) dX9_pack_27
  · replace hw := hw.1 hq
    subst hq
    replace hl_2 : lv_has ls 7 [(2, .null), (0, .ref (H0.size + th)), (1, .int a1)] := hl_2
    refine lv_iconst (v := (-1 : Int32)) hx hb dX9_pack_10 (by decide) ?_
    exact pm_iret E hret hI pm_X.rf ⟨_, rfl, rfl, hw⟩ (by decide) (by decide) dX9_pack_11
set_option maxHeartbeats 4000000 in
set_option maxRecDepth 100000 in
theorem c_X9_same_27 {p : Program} {l : Launch} {e : Env} {s : State} {m : MethodId} {args : Array Value} {below : List Frame} {meth : Method} {c : Code} {G : pm_G} {H0 : Heap} {Post : Int32 → Prop} {v0 : Nat} {v3 : Nat} {v4 : Nat} {M : pm_M} (E : pm_E G p s m args meth c cX9_same 6 RX9) (hret : meth.sig.returnType = (some .int)) : ∀ (n : Nat) (v5 : Int32) (H : Heap) (locs : List Loc) (ls : Array Slot), pm_I G H0 M H locs → (pm_is M v0 8) → (pm_is M v3 4) → (pm_is M v4 4) → lv_has ls 6 [(0, .ref (H0.size + v0)), (3, .ref (H0.size + v3)), (4, .ref (H0.size + v4)), (5, .int v5)] → w_X9_same_27 Post v0 v3 v4 M n v5 → W p l e rm_X9_same s m args below meth c H locs 0 0 (pm_Z G H0 M (pm_Pi (fun r9 M9 => M = M9 ∧ Post r9)) below args s rm_X9_same.cells rm_X9_same.slots) (F0 m 27 ls []) := by
  have hx := E.1
  have hb := E.2.1
  have hown := E.2.2.2.1
  have hts := E.2.2.2.2.1
  intro n
  induction n with
  | zero =>
    intro v5 H locs ls hI t_v0 t_v3 t_v4 hl hw
    unfold w_X9_same_27 at hw
    exact hw.elim
  | succ n ih =>
    intro v5 H locs ls hI t_v0 t_v3 t_v4 hl hw
    unfold w_X9_same_27 at hw
    refine lv_iload hx hb dX9_same_27 (lv_at hl 3 rfl) ?_
    refine lv_aload_n hx hb dX9_same_29 rfl (lv_at hl 0 rfl) ?_
    refine gf_X9_135 E hI t_v0 dX9_same_30 ?_
    refine lv_icmp_gt (tgt := 60) hx hb dX9_same_33 (by decide) (fun h_1 => ?_) (fun h_1 => ?_)
    · replace hw := hw.1 h_1
      refine lv_iconst (v := (1 : Int32)) hx hb dX9_same_60 (by decide) ?_
      exact pm_iret E hret hI pm_X.rf ⟨_, rfl, rfl, hw⟩ (by decide) (by decide) dX9_same_61
    · replace hw := hw.2 h_1
      refine lv_aload_n hx hb dX9_same_36 rfl (lv_at hl 1 rfl) ?_
      refine lv_iload hx hb dX9_same_37 (lv_at hl 3 rfl) ?_
      refine pm_callV (As := [.int v5]) (rest := []) 1 E hI (k_X5_permits t_v3 hw) t_v3 (by decide) rfl kc_X5_permits kl_X9_184 km_X5_permits ks_X5_permits ki_X5 (by decide +kernel) ⟨by decide, by decide⟩ rfl hl.1 rfl (by first | exact Nat.le_of_ble_eq_true rfl | (simp only [List.map, pm_rf_cat]; exact Nat.le_of_ble_eq_true rfl)) dX9_same_39 ⟨by decide, by decide⟩ (fun r9 M9 H locs hp hX1 hI => ?_)
      clear hw
      obtain ⟨r_2, rfl, rfl, hw⟩ := hp
      refine pm_nrm (cells' := 0) (slots' := 0) (g2 := F0 m 42 ls [.int r_2]) rfl rfl rfl ?_
      refine lv_aload hx hb dX9_same_42 (lv_at hl 2 rfl) ?_
      refine lv_iload hx hb dX9_same_44 (lv_at hl 3 rfl) ?_
      refine pm_callV (As := [.int v5]) (rest := [.int r_2]) 1 E hI (k_X5_permits t_v4 hw) t_v4 (by decide) rfl kc_X5_permits kl_X9_184 km_X5_permits ks_X5_permits ki_X5 (by decide +kernel) ⟨by decide, by decide⟩ rfl hl.1 rfl (by first | exact Nat.le_of_ble_eq_true rfl | (simp only [List.map, pm_rf_cat]; exact Nat.le_of_ble_eq_true rfl)) dX9_same_46 ⟨by decide, by decide⟩ (fun r9 M9 H locs hp hX1 hI => ?_)
      clear hw
      obtain ⟨r_3, rfl, rfl, hw⟩ := hp
      refine pm_nrm (cells' := 0) (slots' := 0) (g2 := F0 m 49 ls [.int r_3, .int r_2]) rfl rfl rfl ?_
      refine lv_icmp_eq (tgt := 54) hx hb dX9_same_49 (by decide) (fun h_4 => ?_) (fun h_4 => ?_)
      · replace hw := hw.1 h_4
        obtain ⟨x_5, e_x_5⟩ : ∃ z : Int32, z = v5 + (1 : Int32) := ⟨_, rfl⟩
        refine lv_iinc (v := x_5) (lv' := [(5, .int x_5), (0, .ref (H0.size + v0)), (3, .ref (H0.size + v3)), (4, .ref (H0.size + v4))]) hx hb dX9_same_54 hl (k := 3) rfl (by rw [e_x_5]; rfl) (by decide) rfl (fun ls hl_6 => ?_)
        replace hw := hw x_5 e_x_5
        refine lv_goto (tgt := 27) hx hb dX9_same_57 (by decide) ?_
        exact ih _ _ _ _ hI t_v0 t_v3 t_v4 (lv_sub hl_6 [1, 2, 3, 0] rfl) hw
      · replace hw := hw.2 h_4
        refine lv_iconst (v := (0 : Int32)) hx hb dX9_same_52 (by decide) ?_
        exact pm_iret E hret hI pm_X.rf ⟨_, rfl, rfl, hw⟩ (by decide) (by decide) dX9_same_53
set_option maxHeartbeats 4000000 in
set_option maxRecDepth 100000 in
theorem c_X9_same_22 {p : Program} {l : Launch} {e : Env} {s : State} {m : MethodId} {args : Array Value} {below : List Frame} {meth : Method} {c : Code} {G : pm_G} {H0 : Heap} {Post : Int32 → Prop} {M : pm_M} (E : pm_E G p s m args meth c cX9_same 6 RX9) (hret : meth.sig.returnType = (some .int)) {H : Heap} {locs : List Loc} {ls : Array Slot} (hI : pm_I G H0 M H locs) (hl : lv_has ls 6 []) (hw : w_X9_same_22 Post M) : W p l e rm_X9_same s m args below meth c H locs 0 0 (pm_Z G H0 M (pm_Pi (fun r9 M9 => M = M9 ∧ Post r9)) below args s rm_X9_same.cells rm_X9_same.slots) (F0 m 22 ls []) := by
  have hx := E.1
  have hb := E.2.1
  have hown := E.2.2.2.1
  have hts := E.2.2.2.2.1
  unfold w_X9_same_22 at hw
  refine lv_iconst (v := (-1 : Int32)) hx hb dX9_same_22 (by decide) ?_
  exact pm_iret E hret hI pm_X.rf ⟨_, rfl, rfl, hw⟩ (by decide) (by decide) dX9_same_23
set_option maxHeartbeats 4000000 in
set_option maxRecDepth 100000 in
theorem k_X9_same {l : Launch} {G : pm_G} {H0 : Heap} {th : Nat} {a1 : Int32} {a2 : Int32} {M : pm_M} {Post : Int32 → Prop} (t_th : pm_is M th 8) (hw : w_X9_same th a1 a2 M Post) : pm_C l G H0 yX9_same cX9_same 6 (some .int) rm_X9_same [.ref (H0.size + th), .int a1, .int a2] M (pm_Pi (fun r9 M9 => M = M9 ∧ Post r9)) := by
  refine pm_start (by decide +kernel) (Nat.le_of_ble_eq_true rfl) ?_
  intro p e s m args below meth c H ls E hret hnm hI hl
  have hl : lv_has ls 6 [(0, .ref (H0.size + th)), (1, .int a1), (2, .int a2)] := hl
  have hx := E.1
  have hb := E.2.1
  have hown := E.2.2.2.1
  have hts := E.2.2.2.2.1
  unfold w_X9_same at hw
  refine lv_aload_n hx hb dX9_same_0 rfl (lv_at hl 0 rfl) ?_
  refine lv_iload_n hx hb dX9_same_1 rfl (lv_at hl 1 rfl) ?_
  refine pm_callV (As := [.int a1]) (rest := []) 1 E hI (k_X9_ruleAt t_th hw) t_th (by decide) rfl kc_X9_ruleAt kl_X9_158 km_X9_ruleAt ks_X9_ruleAt ki_X9 (by decide +kernel) ⟨by decide, by decide⟩ rfl hl.1 rfl (by first | exact Nat.le_of_ble_eq_true rfl | (simp only [List.map, pm_rf_cat]; exact Nat.le_of_ble_eq_true rfl)) dX9_same_2 ⟨by decide, by decide⟩ (fun r9 M9 H locs hp hX1 hI => ?_)
  clear hw
  obtain ⟨r_1, rfl, o_r_1, rfl, hw⟩ := hp
  refine pm_nrm (cells' := 0) (slots' := 0) (g2 := F0 m 5 ls [pm_rf H0.size r_1]) rfl rfl rfl ?_
  refine pm_astore_n (lv' := [(3, pm_rf H0.size r_1), (0, .ref (H0.size + th)), (1, .int a1), (2, .int a2)]) hx hb dX9_same_5 rfl hl (by decide) (by first | rfl | simp [List.filter, pm_rf_cat]) (fun ls hl_2 => ?_)
  refine lv_aload_n hx hb dX9_same_6 rfl (lv_at hl_2 1 rfl) ?_
  refine lv_iload_n hx hb dX9_same_7 rfl (lv_at hl_2 3 rfl) ?_
  refine pm_callV (As := [.int a2]) (rest := []) 1 E hI (k_X9_ruleAt t_th hw) t_th (by decide) rfl kc_X9_ruleAt kl_X9_158 km_X9_ruleAt ks_X9_ruleAt ki_X9 (by decide +kernel) ⟨by decide, by decide⟩ rfl hl_2.1 rfl (by first | exact Nat.le_of_ble_eq_true rfl | (simp only [List.map, pm_rf_cat]; exact Nat.le_of_ble_eq_true rfl)) dX9_same_8 ⟨by decide, by decide⟩ (fun r9 M9 H locs hp hX1 hI => ?_)
  clear hw
  obtain ⟨r_3, rfl, o_r_3, rfl, hw⟩ := hp
  refine pm_nrm (cells' := 0) (slots' := 0) (g2 := F0 m 11 ls [pm_rf H0.size r_3]) rfl rfl rfl ?_
  refine pm_astore (lv' := [(4, pm_rf H0.size r_3), (3, pm_rf H0.size r_1), (0, .ref (H0.size + th)), (1, .int a1), (2, .int a2)]) hx hb dX9_same_11 hl_2 (by decide) (by first | rfl | simp [List.filter, pm_rf_cat]) (fun ls hl_4 => ?_)
  refine pm_aload_n hx hb dX9_same_13 rfl (lv_at hl_4 1 rfl) ?_
  refine pm_ifnull (tgt := 22) hx hb dX9_same_14 (by decide) (fun hq => ?_) (fun q_5 hq => ?_)
  · replace hw := hw.1 hq
    subst hq
    replace hl_4 : lv_has ls 6 [(4, pm_rf H0.size r_3), (3, .null), (0, .ref (H0.size + th)), (1, .int a1), (2, .int a2)] := hl_4
    exact c_X9_same_22 E hret hI (lv_sub hl_4 [] rfl) hw
  · replace hw := hw.2 q_5 hq
    subst hq
    have t_q_5 := o_r_1 q_5 rfl
    replace hl_4 : lv_has ls 6 [(4, pm_rf H0.size r_3), (3, .ref (H0.size + q_5)), (0, .ref (H0.size + th)), (1, .int a1), (2, .int a2)] := hl_4
    refine pm_aload hx hb dX9_same_17 (lv_at hl_4 0 rfl) ?_
    refine pm_ifnonnull (tgt := 24) hx hb dX9_same_19 (by decide) (fun q_6 hq => ?_) (fun hq => ?_)
    · replace hw := hw.2 q_6 hq
      subst hq
      have t_q_6 := o_r_3 q_6 rfl
      replace hl_4 : lv_has ls 6 [(4, .ref (H0.size + q_6)), (3, .ref (H0.size + q_5)), (0, .ref (H0.size + th)), (1, .int a1), (2, .int a2)] := hl_4
      refine lv_iconst (v := (0 : Int32)) hx hb dX9_same_24 (by decide) ?_
      refine lv_istore (lv' := [(5, .int (0 : Int32)), (4, .ref (H0.size + q_6)), (3, .ref (H0.size + q_5)), (0, .ref (H0.size + th)), (1, .int a1), (2, .int a2)]) hx hb dX9_same_25 hl_4 (by decide) rfl (fun ls hl_7 => ?_)
      obtain ⟨n_8, hw⟩ := hw
      exact c_X9_same_27 E hret n_8 _ _ _ _ hI t_th t_q_5 t_q_6 (lv_sub hl_7 [3, 2, 1, 0] rfl) hw
    · replace hw := hw.1 hq
      subst hq
      replace hl_4 : lv_has ls 6 [(4, .null), (3, .ref (H0.size + q_5)), (0, .ref (H0.size + th)), (1, .int a1), (2, .int a2)] := hl_4
      exact c_X9_same_22 E hret hI (lv_sub hl_4 [] rfl) hw
set_option maxHeartbeats 4000000 in
set_option maxRecDepth 100000 in
theorem c_X9_slotsWithRow_33 {p : Program} {l : Launch} {e : Env} {s : State} {m : MethodId} {args : Array Value} {below : List Frame} {meth : Method} {c : Code} {G : pm_G} {H0 : Heap} {Post : Int32 → Prop} {v0 : Nat} {v1 : Int32} {v2 : Int32} {M : pm_M} {k_4 : Int32 → Int32 → Prop} (E : pm_E G p s m args meth c cX9_slotsWithRow 4 RX9) (hret : meth.sig.returnType = (some .int)) (hk_4 : ∀ (v1 : Int32) (v2 : Int32) (H : Heap) (locs : List Loc) (ls : Array Slot), pm_I G H0 M H locs → (pm_is M v0 8) → lv_has ls 4 [(0, .ref (H0.size + v0)), (1, .int v1), (2, .int v2)] → k_4 v1 v2 → W p l e rm_X9_slotsWithRow s m args below meth c H locs 0 0 (pm_Z G H0 M (pm_Pi (fun r9 M9 => M = M9 ∧ Post r9)) below args s rm_X9_slotsWithRow.cells rm_X9_slotsWithRow.slots) (F0 m 4 ls [])) {H : Heap} {locs : List Loc} {ls : Array Slot} (hI : pm_I G H0 M H locs) (t_v0 : pm_is M v0 8) (hl : lv_has ls 4 [(0, .ref (H0.size + v0)), (1, .int v1), (2, .int v2)]) (hw : w_X9_slotsWithRow_33 Post k_4 v0 v1 v2 M) : W p l e rm_X9_slotsWithRow s m args below meth c H locs 0 0 (pm_Z G H0 M (pm_Pi (fun r9 M9 => M = M9 ∧ Post r9)) below args s rm_X9_slotsWithRow.cells rm_X9_slotsWithRow.slots) (F0 m 33 ls []) := by
  have hx := E.1
  have hb := E.2.1
  have hown := E.2.2.2.1
  have hts := E.2.2.2.2.1
  unfold w_X9_slotsWithRow_33 at hw
  obtain ⟨x_1, e_x_1⟩ : ∃ z : Int32, z = v2 + (1 : Int32) := ⟨_, rfl⟩
  refine lv_iinc (v := x_1) (lv' := [(2, .int x_1), (0, .ref (H0.size + v0)), (1, .int v1)]) hx hb dX9_slotsWithRow_33 hl (k := 2) rfl (by rw [e_x_1]; rfl) (by decide) rfl (fun ls hl_2 => ?_)
  replace hw := hw x_1 e_x_1
  refine lv_goto (tgt := 4) hx hb dX9_slotsWithRow_36 (by decide) ?_
  exact hk_4 _ _ _ _ _ hI t_v0 (lv_sub hl_2 [1, 2, 0] rfl) hw
set_option maxHeartbeats 4000000 in
set_option maxRecDepth 100000 in
theorem c_X9_slotsWithRow_4 {p : Program} {l : Launch} {e : Env} {s : State} {m : MethodId} {args : Array Value} {below : List Frame} {meth : Method} {c : Code} {G : pm_G} {H0 : Heap} {Post : Int32 → Prop} {v0 : Nat} {M : pm_M} (E : pm_E G p s m args meth c cX9_slotsWithRow 4 RX9) (hret : meth.sig.returnType = (some .int)) : ∀ (n : Nat) (v1 : Int32) (v2 : Int32) (H : Heap) (locs : List Loc) (ls : Array Slot), pm_I G H0 M H locs → (pm_is M v0 8) → lv_has ls 4 [(0, .ref (H0.size + v0)), (1, .int v1), (2, .int v2)] → w_X9_slotsWithRow_4 Post v0 M n v1 v2 → W p l e rm_X9_slotsWithRow s m args below meth c H locs 0 0 (pm_Z G H0 M (pm_Pi (fun r9 M9 => M = M9 ∧ Post r9)) below args s rm_X9_slotsWithRow.cells rm_X9_slotsWithRow.slots) (F0 m 4 ls []) := by
  have hx := E.1
  have hb := E.2.1
  have hown := E.2.2.2.1
  have hts := E.2.2.2.2.1
  intro n
  induction n with
  | zero =>
    intro v1 v2 H locs ls hI t_v0 hl hw
    unfold w_X9_slotsWithRow_4 at hw
    exact hw.elim
  | succ n ih =>
    intro v1 v2 H locs ls hI t_v0 hl hw
    unfold w_X9_slotsWithRow_4 at hw
    refine lv_iload_n hx hb dX9_slotsWithRow_4 rfl (lv_at hl 2 rfl) ?_
    refine lv_aload_n hx hb dX9_slotsWithRow_5 rfl (lv_at hl 0 rfl) ?_
    obtain ⟨q_1, e_q_1, hw⟩ := hw
    refine gf_X9_11 E hI t_v0 dX9_slotsWithRow_6 e_q_1 (fun t_q_1 => ?_)
    refine ps_alenSlot E hI t_q_1 dX9_slotsWithRow_9 ?_
    refine lv_icmp_ge (tgt := 39) hx hb dX9_slotsWithRow_10 (by decide) (fun h_2 => ?_) (fun h_2 => ?_)
    · replace hw := hw.1 h_2
      refine lv_iload_n hx hb dX9_slotsWithRow_39 rfl (lv_at hl 1 rfl) ?_
      exact pm_iret E hret hI pm_X.rf ⟨_, rfl, rfl, hw⟩ (by decide) (by decide) dX9_slotsWithRow_40
    · replace hw := hw.2 h_2
      refine lv_aload_n hx hb dX9_slotsWithRow_13 rfl (lv_at hl 0 rfl) ?_
      refine lv_iload_n hx hb dX9_slotsWithRow_14 rfl (lv_at hl 2 rfl) ?_
      refine pm_callV (As := [.int v2]) (rest := []) 1 E hI (k_X9_slotAt t_v0 hw) t_v0 (by decide) rfl kc_X9_slotAt kl_X9_73 km_X9_slotAt ks_X9_slotAt ki_X9 (by decide +kernel) ⟨by decide, by decide⟩ rfl hl.1 rfl (by first | exact Nat.le_of_ble_eq_true rfl | (simp only [List.map, pm_rf_cat]; exact Nat.le_of_ble_eq_true rfl)) dX9_slotsWithRow_15 ⟨by decide, by decide⟩ (fun r9 M9 H locs hp hX1 hI => ?_)
      clear hw
      obtain ⟨r_3, rfl, o_r_3, rfl, hw⟩ := hp
      refine pm_nrm (cells' := 0) (slots' := 0) (g2 := F0 m 18 ls [pm_rf H0.size r_3]) rfl rfl rfl ?_
      refine pm_astore_n (lv' := [(3, pm_rf H0.size r_3), (0, .ref (H0.size + v0)), (1, .int v1), (2, .int v2)]) hx hb dX9_slotsWithRow_18 rfl hl (by decide) (by first | rfl | simp [List.filter, pm_rf_cat]) (fun ls hl_4 => ?_)
      refine pm_aload_n hx hb dX9_slotsWithRow_19 rfl (lv_at hl_4 0 rfl) ?_
      refine pm_ifnull (tgt := 33) hx hb dX9_slotsWithRow_20 (by decide) (fun hq => ?_) (fun q_5 hq => ?_)
      · replace hw := hw.1 hq
        subst hq
        replace hl_4 : lv_has ls 4 [(3, .null), (0, .ref (H0.size + v0)), (1, .int v1), (2, .int v2)] := hl_4
        exact c_X9_slotsWithRow_33 E hret ih hI t_v0 (lv_sub hl_4 [1, 2, 3] rfl) hw
      · replace hw := hw.2 q_5 hq
        subst hq
        have t_q_5 := o_r_3 q_5 rfl
        replace hl_4 : lv_has ls 4 [(3, .ref (H0.size + q_5)), (0, .ref (H0.size + v0)), (1, .int v1), (2, .int v2)] := hl_4
        refine lv_aload_n hx hb dX9_slotsWithRow_23 rfl (lv_at hl_4 0 rfl) ?_
        refine pm_callV (As := []) (rest := []) 0 E hI (k_X6_hasRow t_q_5 hw) t_q_5 (by decide) rfl kc_X6_hasRow kl_X9_81 km_X6_hasRow ks_X6_hasRow ki_X6 (by decide +kernel) ⟨by decide, by decide⟩ rfl hl_4.1 rfl (by first | exact Nat.le_of_ble_eq_true rfl | (simp only [List.map, pm_rf_cat]; exact Nat.le_of_ble_eq_true rfl)) dX9_slotsWithRow_24 ⟨by decide, by decide⟩ (fun r9 M9 H locs hp hX1 hI => ?_)
        clear hw
        obtain ⟨r_6, rfl, rfl, hw⟩ := hp
        refine pm_nrm (cells' := 0) (slots' := 0) (g2 := F0 m 27 ls [.int r_6]) rfl rfl rfl ?_
        refine lv_if_eq (tgt := 33) hx hb dX9_slotsWithRow_27 (by decide) (fun h_7 => ?_) (fun h_7 => ?_)
        · replace hw := hw.1 h_7
          exact c_X9_slotsWithRow_33 E hret ih hI t_v0 (lv_sub hl_4 [1, 2, 3] rfl) hw
        · replace hw := hw.2 h_7
          obtain ⟨x_8, e_x_8⟩ : ∃ z : Int32, z = v1 + (1 : Int32) := ⟨_, rfl⟩
          refine lv_iinc (v := x_8) (lv' := [(1, .int x_8), (3, .ref (H0.size + q_5)), (0, .ref (H0.size + v0)), (2, .int v2)]) hx hb dX9_slotsWithRow_30 hl_4 (k := 2) rfl (by rw [e_x_8]; rfl) (by decide) rfl (fun ls hl_9 => ?_)
          replace hw := hw x_8 e_x_8
          exact c_X9_slotsWithRow_33 E hret ih hI t_v0 (lv_sub hl_9 [2, 0, 3] rfl) hw
set_option maxHeartbeats 4000000 in
set_option maxRecDepth 100000 in
theorem k_X9_slotsWithRow {l : Launch} {G : pm_G} {H0 : Heap} {th : Nat} {M : pm_M} {Post : Int32 → Prop} (t_th : pm_is M th 8) (hw : w_X9_slotsWithRow th M Post) : pm_C l G H0 yX9_slotsWithRow cX9_slotsWithRow 4 (some .int) rm_X9_slotsWithRow [.ref (H0.size + th)] M (pm_Pi (fun r9 M9 => M = M9 ∧ Post r9)) := by
  refine pm_start (by decide +kernel) (Nat.le_of_ble_eq_true rfl) ?_
  intro p e s m args below meth c H ls E hret hnm hI hl
  have hl : lv_has ls 4 [(0, .ref (H0.size + th))] := hl
  have hx := E.1
  have hb := E.2.1
  have hown := E.2.2.2.1
  have hts := E.2.2.2.2.1
  unfold w_X9_slotsWithRow at hw
  refine lv_iconst (v := (0 : Int32)) hx hb dX9_slotsWithRow_0 (by decide) ?_
  refine lv_istore_n (lv' := [(1, .int (0 : Int32)), (0, .ref (H0.size + th))]) hx hb dX9_slotsWithRow_1 rfl hl (by decide) rfl (fun ls hl_1 => ?_)
  refine lv_iconst (v := (0 : Int32)) hx hb dX9_slotsWithRow_2 (by decide) ?_
  refine lv_istore_n (lv' := [(2, .int (0 : Int32)), (1, .int (0 : Int32)), (0, .ref (H0.size + th))]) hx hb dX9_slotsWithRow_3 rfl hl_1 (by decide) rfl (fun ls hl_2 => ?_)
  obtain ⟨n_3, hw⟩ := hw
  exact c_X9_slotsWithRow_4 E hret n_3 _ _ _ _ _ hI t_th (lv_sub hl_2 [2, 1, 0] rfl) hw
set_option maxHeartbeats 4000000 in
set_option maxRecDepth 100000 in
theorem k_X9_count {l : Launch} {G : pm_G} {H0 : Heap} {th : Nat} {a1 : Int32} {M : pm_M} {Post : Int32 → Prop} (t_th : pm_is M th 8) (hw : w_X9_count th a1 M Post) : pm_C l G H0 yX9_count cX9_count 2 (some .int) rm_X9_count [.ref (H0.size + th), .int a1] M (pm_Pi (fun r9 M9 => M = M9 ∧ Post r9)) := by
  refine pm_start (by decide +kernel) (Nat.le_of_ble_eq_true rfl) ?_
  intro p e s m args below meth c H ls E hret hnm hI hl
  have hl : lv_has ls 2 [(0, .ref (H0.size + th)), (1, .int a1)] := hl
  have hx := E.1
  have hb := E.2.1
  have hown := E.2.2.2.1
  have hts := E.2.2.2.2.1
  unfold w_X9_count at hw
  refine lv_iload_n hx hb dX9_count_0 rfl (lv_at hl 1 rfl) ?_
  refine pm_cases (x := a1) 0 4 (fun j hj h9 => ?_) (fun h9 => ?_)
  · match j, hj, h9 with
    | 0, hj, h9 =>
      refine lv_tableIn (tgt := 32) hx hb dX9_count_1 (by rw [h9]; decide) (by rw [h9]; decide) (by rw [h9]; rfl) (by decide) ?_
      replace hw := hw.1 h9
      refine lv_aload_n hx hb dX9_count_32 rfl (lv_at hl 0 rfl) ?_
      refine gf_X9_187 E hI t_th dX9_count_33 ?_
      exact pm_iret E hret hI pm_X.rf ⟨_, rfl, rfl, hw⟩ (by decide) (by decide) dX9_count_36
    | 1, hj, h9 =>
      refine lv_tableIn (tgt := 37) hx hb dX9_count_1 (by rw [h9]; decide) (by rw [h9]; decide) (by rw [h9]; rfl) (by decide) ?_
      replace hw := hw.2.1 h9
      refine lv_aload_n hx hb dX9_count_37 rfl (lv_at hl 0 rfl) ?_
      refine gf_X9_118 E hI t_th dX9_count_38 ?_
      exact pm_iret E hret hI pm_X.rf ⟨_, rfl, rfl, hw⟩ (by decide) (by decide) dX9_count_41
    | 2, hj, h9 =>
      refine lv_tableIn (tgt := 42) hx hb dX9_count_1 (by rw [h9]; decide) (by rw [h9]; decide) (by rw [h9]; rfl) (by decide) ?_
      replace hw := hw.2.2.1 h9
      refine lv_aload_n hx hb dX9_count_42 rfl (lv_at hl 0 rfl) ?_
      refine pm_callV (As := []) (rest := []) 0 E hI (k_X9_slotsWithRow t_th hw) t_th (by decide) rfl kc_X9_slotsWithRow kl_X9_232 km_X9_slotsWithRow ks_X9_slotsWithRow ki_X9 (by decide +kernel) ⟨by decide, by decide⟩ rfl hl.1 rfl (by first | exact Nat.le_of_ble_eq_true rfl | (simp only [List.map, pm_rf_cat]; exact Nat.le_of_ble_eq_true rfl)) dX9_count_43 ⟨by decide, by decide⟩ (fun r9 M9 H locs hp hX1 hI => ?_)
      clear hw
      obtain ⟨r_1, rfl, rfl, hw⟩ := hp
      refine pm_nrm (cells' := 0) (slots' := 0) (g2 := F0 m 46 ls [.int r_1]) rfl rfl rfl ?_
      exact pm_iret E hret hI pm_X.rf ⟨_, rfl, rfl, hw⟩ (by decide) (by decide) dX9_count_46
    | 3, hj, h9 =>
      refine lv_tableIn (tgt := 47) hx hb dX9_count_1 (by rw [h9]; decide) (by rw [h9]; decide) (by rw [h9]; rfl) (by decide) ?_
      replace hw := hw.2.2.2.1 h9
      refine lv_aload_n hx hb dX9_count_47 rfl (lv_at hl 0 rfl) ?_
      refine lv_aload_n hx hb dX9_count_48 rfl (lv_at hl 0 rfl) ?_
      refine gf_X9_135 E hI t_th dX9_count_49 ?_
      refine pm_callV (As := [.int (mI M th 10)]) (rest := []) 1 E hI (k_X9_weightOf t_th hw) t_th (by decide) rfl kc_X9_weightOf kl_X9_207 km_X9_weightOf ks_X9_weightOf ki_X9 (by decide +kernel) ⟨by decide, by decide⟩ rfl hl.1 rfl (by first | exact Nat.le_of_ble_eq_true rfl | (simp only [List.map, pm_rf_cat]; exact Nat.le_of_ble_eq_true rfl)) dX9_count_52 ⟨by decide, by decide⟩ (fun r9 M9 H locs hp hX1 hI => ?_)
      clear hw
      obtain ⟨r_2, rfl, rfl, hw⟩ := hp
      refine pm_nrm (cells' := 0) (slots' := 0) (g2 := F0 m 55 ls [.int r_2]) rfl rfl rfl ?_
      exact pm_iret E hret hI pm_X.rf ⟨_, rfl, rfl, hw⟩ (by decide) (by decide) dX9_count_55
    | (j + 4), hj, h9 => exact absurd hj (by omega)
  · refine lv_tableOut (tgt := 56) hx hb dX9_count_1 (pm_out h9) (by decide) ?_
    replace hw := hw.2.2.2.2 h9
    refine lv_iconst (v := (-1 : Int32)) hx hb dX9_count_56 (by decide) ?_
    exact pm_iret E hret hI pm_X.rf ⟨_, rfl, rfl, hw⟩ (by decide) (by decide) dX9_count_57
set_option maxHeartbeats 4000000 in
set_option maxRecDepth 100000 in
theorem c_X10_anew_42 {p : Program} {l : Launch} {e : Env} {s : State} {m : MethodId} {args : Array Value} {below : List Frame} {meth : Method} {c : Code} {G : pm_G} {H0 : Heap} {M0 : pm_M} {Post : pm_M → Prop} {v0 : Nat} (E : pm_E G p s m args meth c cX10_anew 3 RX10) (hret : meth.sig.returnType = none) : ∀ (n : Nat) (v2 : Int32) (M : pm_M) (H : Heap) (locs : List Loc) (ls : Array Slot), pm_X M0 M → pm_I G H0 M H locs → (pm_is M v0 9) → lv_has ls 3 [(0, .ref (H0.size + v0)), (2, .int v2)] → w_X10_anew_42 Post v0 n v2 M → W p l e rm_X10_anew s m args below meth c H locs 0 0 (pm_Z G H0 M0 (pm_Pv Post) below args s rm_X10_anew.cells rm_X10_anew.slots) (F0 m 42 ls []) := by
  have hx := E.1
  have hb := E.2.1
  have hown := E.2.2.2.1
  have hts := E.2.2.2.2.1
  intro n
  induction n with
  | zero =>
    intro v2 M H locs ls hX hI t_v0 hl hw
    unfold w_X10_anew_42 at hw
    exact hw.elim
  | succ n ih =>
    intro v2 M H locs ls hX hI t_v0 hl hw
    unfold w_X10_anew_42 at hw
    refine lv_iload_n hx hb dX10_anew_42 rfl (lv_at hl 1 rfl) ?_
    refine lv_iconst (v := (3 : Int32)) hx hb dX10_anew_43 (by decide) ?_
    refine lv_icmp_ge (tgt := 60) hx hb dX10_anew_44 (by decide) (fun h_1 => ?_) (fun h_1 => ?_)
    · replace hw := hw.1 h_1
      exact pm_vret E hret hI hX ⟨rfl, hw⟩ (by decide) (by decide) dX10_anew_60
    · replace hw := hw.2 h_1
      refine lv_aload_n hx hb dX10_anew_47 rfl (lv_at hl 0 rfl) ?_
      obtain ⟨q_2, e_q_2, hw⟩ := hw
      refine gf_X10_41 E hI t_v0 dX10_anew_48 e_q_2 (fun t_q_2 => ?_)
      refine lv_iload_n hx hb dX10_anew_51 rfl (lv_at hl 1 rfl) ?_
      refine lv_iconst (v := (0 : Int32)) hx hb dX10_anew_52 (by decide) ?_
      obtain ⟨h_3, hw⟩ := hw
      refine ps_iast E hI t_q_2 h_3 dX10_anew_53 (fun H locs M_4 e_M_4 hX1 hI => ?_)
      replace hw := hw M_4 e_M_4
      replace t_v0 := t_v0.x hX1
      replace hX := hX.tr hX1
      obtain ⟨x_5, e_x_5⟩ : ∃ z : Int32, z = v2 + (1 : Int32) := ⟨_, rfl⟩
      refine lv_iinc (v := x_5) (lv' := [(2, .int x_5), (0, .ref (H0.size + v0))]) hx hb dX10_anew_54 hl (k := 1) rfl (by rw [e_x_5]; rfl) (by decide) rfl (fun ls hl_6 => ?_)
      replace hw := hw x_5 e_x_5
      refine lv_goto (tgt := 42) hx hb dX10_anew_57 (by decide) ?_
      exact ih _ _ _ _ _ hX hI t_v0 (lv_sub hl_6 [1, 0] rfl) hw
set_option maxHeartbeats 4000000 in
set_option maxRecDepth 100000 in
theorem c_X10_anew_21 {p : Program} {l : Launch} {e : Env} {s : State} {m : MethodId} {args : Array Value} {below : List Frame} {meth : Method} {c : Code} {G : pm_G} {H0 : Heap} {M0 : pm_M} {Post : pm_M → Prop} {v0 : Nat} (E : pm_E G p s m args meth c cX10_anew 3 RX10) (hret : meth.sig.returnType = none) : ∀ (n : Nat) (v2 : Int32) (M : pm_M) (H : Heap) (locs : List Loc) (ls : Array Slot), pm_X M0 M → pm_I G H0 M H locs → (pm_is M v0 9) → lv_has ls 3 [(0, .ref (H0.size + v0)), (2, .int v2)] → w_X10_anew_21 Post v0 n v2 M → W p l e rm_X10_anew s m args below meth c H locs 0 0 (pm_Z G H0 M0 (pm_Pv Post) below args s rm_X10_anew.cells rm_X10_anew.slots) (F0 m 21 ls []) := by
  have hx := E.1
  have hb := E.2.1
  have hown := E.2.2.2.1
  have hts := E.2.2.2.2.1
  intro n
  induction n with
  | zero =>
    intro v2 M H locs ls hX hI t_v0 hl hw
    unfold w_X10_anew_21 at hw
    exact hw.elim
  | succ n ih =>
    intro v2 M H locs ls hX hI t_v0 hl hw
    unfold w_X10_anew_21 at hw
    refine lv_iload_n hx hb dX10_anew_21 rfl (lv_at hl 1 rfl) ?_
    refine lv_bipush (v := (12 : Int32)) hx hb dX10_anew_22 (by decide) ?_
    refine lv_icmp_ge (tgt := 40) hx hb dX10_anew_24 (by decide) (fun h_1 => ?_) (fun h_1 => ?_)
    · replace hw := hw.1 h_1
      refine lv_iconst (v := (0 : Int32)) hx hb dX10_anew_40 (by decide) ?_
      refine lv_istore_n (lv' := [(2, .int (0 : Int32)), (0, .ref (H0.size + v0))]) hx hb dX10_anew_41 rfl hl (by decide) rfl (fun ls hl_2 => ?_)
      obtain ⟨n_3, hw⟩ := hw
      exact c_X10_anew_42 E hret n_3 _ _ _ _ _ hX hI t_v0 (lv_sub hl_2 [1, 0] rfl) hw
    · replace hw := hw.2 h_1
      refine lv_aload_n hx hb dX10_anew_27 rfl (lv_at hl 0 rfl) ?_
      obtain ⟨q_4, e_q_4, hw⟩ := hw
      refine gf_X10_16 E hI t_v0 dX10_anew_28 e_q_4 (fun t_q_4 => ?_)
      refine lv_iload_n hx hb dX10_anew_31 rfl (lv_at hl 1 rfl) ?_
      refine lv_iconst (v := (1 : Int32)) hx hb dX10_anew_32 (by decide) ?_
      obtain ⟨h_5, hw⟩ := hw
      refine ps_iast E hI t_q_4 h_5 dX10_anew_33 (fun H locs M_6 e_M_6 hX1 hI => ?_)
      replace hw := hw M_6 e_M_6
      replace t_v0 := t_v0.x hX1
      replace hX := hX.tr hX1
      obtain ⟨x_7, e_x_7⟩ : ∃ z : Int32, z = v2 + (1 : Int32) := ⟨_, rfl⟩
      refine lv_iinc (v := x_7) (lv' := [(2, .int x_7), (0, .ref (H0.size + v0))]) hx hb dX10_anew_34 hl (k := 1) rfl (by rw [e_x_7]; rfl) (by decide) rfl (fun ls hl_8 => ?_)
      replace hw := hw x_7 e_x_7
      refine lv_goto (tgt := 21) hx hb dX10_anew_37 (by decide) ?_
      exact ih _ _ _ _ _ hX hI t_v0 (lv_sub hl_8 [1, 0] rfl) hw
set_option maxHeartbeats 4000000 in
set_option maxRecDepth 100000 in
theorem k_X10_anew {l : Launch} {G : pm_G} {H0 : Heap} {th : Nat} {a1 : Int32} {M : pm_M} {Post : pm_M → Prop} (t_th : pm_is M th 9) (hw : w_X10_anew th a1 M Post) : pm_C l G H0 yX10_anew cX10_anew 3 none rm_X10_anew [.ref (H0.size + th), .int a1] M (pm_Pv Post) := by
  refine pm_start (by decide +kernel) (Nat.le_of_ble_eq_true rfl) ?_
  intro p e s m args below meth c H ls E hret hnm hI hl
  have hX : pm_X M M := pm_X.rf
  have hl : lv_has ls 3 [(0, .ref (H0.size + th)), (1, .int a1)] := hl
  have hx := E.1
  have hb := E.2.1
  have hown := E.2.2.2.1
  have hts := E.2.2.2.2.1
  unfold w_X10_anew at hw
  refine lv_aload_n hx hb dX10_anew_0 rfl (lv_at hl 0 rfl) ?_
  refine lv_iload_n hx hb dX10_anew_1 rfl (lv_at hl 1 rfl) ?_
  refine pf_X10_7 E hI t_th dX10_anew_2 (fun H locs M_1 e_M_1 hX1 hI => ?_)
  replace hw := hw M_1 e_M_1
  replace t_th := t_th.x hX1
  replace hX := hX.tr hX1
  refine lv_aload_n hx hb dX10_anew_5 rfl (lv_at hl 0 rfl) ?_
  refine lv_iconst (v := (1 : Int32)) hx hb dX10_anew_6 (by decide) ?_
  refine lv_iload_n hx hb dX10_anew_7 rfl (lv_at hl 1 rfl) ?_
  refine lv_ishl hx hb dX10_anew_8 ?_
  refine lv_iconst (v := (1 : Int32)) hx hb dX10_anew_9 (by decide) ?_
  refine lv_isub hx hb dX10_anew_10 ?_
  refine pf_X10_13 E hI t_th dX10_anew_11 (fun H locs M_2 e_M_2 hX1 hI => ?_)
  replace hw := hw M_2 e_M_2
  replace t_th := t_th.x hX1
  replace hX := hX.tr hX1
  refine lv_aload_n hx hb dX10_anew_14 rfl (lv_at hl 0 rfl) ?_
  refine lv_iconst (v := (0 : Int32)) hx hb dX10_anew_15 (by decide) ?_
  refine pf_X10_85 E hI t_th dX10_anew_16 (fun H locs M_3 e_M_3 hX1 hI => ?_)
  replace hw := hw M_3 e_M_3
  replace t_th := t_th.x hX1
  replace hX := hX.tr hX1
  refine lv_iconst (v := (0 : Int32)) hx hb dX10_anew_19 (by decide) ?_
  refine lv_istore_n (lv' := [(2, .int (0 : Int32)), (0, .ref (H0.size + th)), (1, .int a1)]) hx hb dX10_anew_20 rfl hl (by decide) rfl (fun ls hl_4 => ?_)
  obtain ⟨n_5, hw⟩ := hw
  exact c_X10_anew_21 E hret n_5 _ _ _ _ _ hX hI t_th (lv_sub hl_4 [1, 0] rfl) hw
set_option maxHeartbeats 4000000 in
set_option maxRecDepth 100000 in
theorem k_X10_init {l : Launch} {G : pm_G} {H0 : Heap} {th : Nat} {M : pm_M} {Post : pm_M → Prop} (t_th : pm_is M th 9) (hw : w_X10_init th M Post) : pm_C l G H0 yX10_init cX10_init 1 none rm_X10_init [.ref (H0.size + th)] M (pm_Pv Post) := by
  refine pm_start (by decide +kernel) (Nat.le_of_ble_eq_true rfl) ?_
  intro p e s m args below meth c H ls E hret hnm hI hl
  have hX : pm_X M M := pm_X.rf
  have hl : lv_has ls 1 [(0, .ref (H0.size + th))] := hl
  have hx := E.1
  have hb := E.2.1
  have hown := E.2.2.2.1
  have hts := E.2.2.2.2.1
  unfold w_X10_init at hw
  refine lv_aload_n hx hb dX10_init_0 rfl (lv_at hl 0 rfl) ?_
  refine pm_objInit E hl.1 kl_X10_1 ko_init ko_code dX10_init_1 (by decide) (Nat.le_of_ble_eq_true rfl) ?_
  refine lv_aload_n hx hb dX10_init_4 rfl (lv_at hl 0 rfl) ?_
  refine lv_bipush (v := (8 : Int32)) hx hb dX10_init_5 (by decide) ?_
  refine pf_X10_7 E hI t_th dX10_init_7 (fun H locs M_1 e_M_1 hX1 hI => ?_)
  replace hw := hw M_1 e_M_1
  replace t_th := t_th.x hX1
  replace hX := hX.tr hX1
  refine lv_aload_n hx hb dX10_init_10 rfl (lv_at hl 0 rfl) ?_
  refine lv_sipush (v := (255 : Int32)) hx hb dX10_init_11 (by decide) ?_
  refine pf_X10_13 E hI t_th dX10_init_14 (fun H locs M_2 e_M_2 hX1 hI => ?_)
  replace hw := hw M_2 e_M_2
  replace t_th := t_th.x hX1
  replace hX := hX.tr hX1
  refine lv_aload_n hx hb dX10_init_17 rfl (lv_at hl 0 rfl) ?_
  refine lv_bipush (v := (12 : Int32)) hx hb dX10_init_18 (by decide) ?_
  refine newI (N := 12) E hI (by decide) (by decide) (by decide) (by decide) (by decide) dX10_init_20 (fun H M_3 e_M_3 hX1 tn_4 hI => ?_)
  replace hw := hw M_3 e_M_3
  replace t_th := t_th.x hX1
  replace hX := hX.tr hX1
  refine pm_nrm (cells' := 1) (slots' := 12) (g2 := F0 m 22 ls [.ref (H0.size + (mZ M_2)), .ref (H0.size + th)]) rfl rfl rfl ?_
  refine pf_X10_16 E hI t_th dX10_init_22 hnm tn_4 (fun H locs M_5 e_M_5 hX1 hI => ?_)
  replace hw := hw M_5 e_M_5
  replace t_th := t_th.x hX1
  replace hX := hX.tr hX1
  refine lv_aload_n hx hb dX10_init_25 rfl (lv_at hl 0 rfl) ?_
  refine lv_ldc (v := (98304 : Int32)) hx hb hown (hts _ kl_X10_20) dX10_init_26 ?_
  refine newZ (N := 98304) E hI (by decide) (by decide) (by decide) (by decide) (by decide) dX10_init_28 (fun H M_6 e_M_6 hX1 tn_7 hI => ?_)
  replace hw := hw M_6 e_M_6
  replace t_th := t_th.x hX1
  replace hX := hX.tr hX1
  refine pm_nrm (cells' := 2) (slots' := 98316) (g2 := F0 m 30 ls [.ref (H0.size + (mZ M_5)), .ref (H0.size + th)]) rfl rfl rfl ?_
  refine pf_X10_21 E hI t_th dX10_init_30 hnm tn_7 (fun H locs M_8 e_M_8 hX1 hI => ?_)
  replace hw := hw M_8 e_M_8
  replace t_th := t_th.x hX1
  replace hX := hX.tr hX1
  refine lv_aload_n hx hb dX10_init_33 rfl (lv_at hl 0 rfl) ?_
  refine lv_ldc (v := (98304 : Int32)) hx hb hown (hts _ kl_X10_20) dX10_init_34 ?_
  refine newB (N := 98304) E hI (by decide) (by decide) (by decide) (by decide) (by decide) dX10_init_36 (fun H M_9 e_M_9 hX1 tn_10 hI => ?_)
  replace hw := hw M_9 e_M_9
  replace t_th := t_th.x hX1
  replace hX := hX.tr hX1
  refine pm_nrm (cells' := 3) (slots' := 196620) (g2 := F0 m 38 ls [.ref (H0.size + (mZ M_8)), .ref (H0.size + th)]) rfl rfl rfl ?_
  refine pf_X10_25 E hI t_th dX10_init_38 hnm tn_10 (fun H locs M_11 e_M_11 hX1 hI => ?_)
  replace hw := hw M_11 e_M_11
  replace t_th := t_th.x hX1
  replace hX := hX.tr hX1
  refine lv_aload_n hx hb dX10_init_41 rfl (lv_at hl 0 rfl) ?_
  refine lv_bipush (v := (24 : Int32)) hx hb dX10_init_42 (by decide) ?_
  refine newI (N := 24) E hI (by decide) (by decide) (by decide) (by decide) (by decide) dX10_init_44 (fun H M_12 e_M_12 hX1 tn_13 hI => ?_)
  replace hw := hw M_12 e_M_12
  replace t_th := t_th.x hX1
  replace hX := hX.tr hX1
  refine pm_nrm (cells' := 4) (slots' := 196644) (g2 := F0 m 46 ls [.ref (H0.size + (mZ M_11)), .ref (H0.size + th)]) rfl rfl rfl ?_
  refine pf_X10_29 E hI t_th dX10_init_46 hnm tn_13 (fun H locs M_14 e_M_14 hX1 hI => ?_)
  replace hw := hw M_14 e_M_14
  replace t_th := t_th.x hX1
  replace hX := hX.tr hX1
  refine lv_aload_n hx hb dX10_init_49 rfl (lv_at hl 0 rfl) ?_
  refine lv_bipush (v := (24 : Int32)) hx hb dX10_init_50 (by decide) ?_
  refine newI (N := 24) E hI (by decide) (by decide) (by decide) (by decide) (by decide) dX10_init_52 (fun H M_15 e_M_15 hX1 tn_16 hI => ?_)
  replace hw := hw M_15 e_M_15
  replace t_th := t_th.x hX1
  replace hX := hX.tr hX1
  refine pm_nrm (cells' := 5) (slots' := 196668) (g2 := F0 m 54 ls [.ref (H0.size + (mZ M_14)), .ref (H0.size + th)]) rfl rfl rfl ?_
  refine pf_X10_32 E hI t_th dX10_init_54 hnm tn_16 (fun H locs M_17 e_M_17 hX1 hI => ?_)
  replace hw := hw M_17 e_M_17
  replace t_th := t_th.x hX1
  replace hX := hX.tr hX1
  refine lv_aload_n hx hb dX10_init_57 rfl (lv_at hl 0 rfl) ?_
  refine lv_bipush (v := (24 : Int32)) hx hb dX10_init_58 (by decide) ?_
  refine newI (N := 24) E hI (by decide) (by decide) (by decide) (by decide) (by decide) dX10_init_60 (fun H M_18 e_M_18 hX1 tn_19 hI => ?_)
  replace hw := hw M_18 e_M_18
  replace t_th := t_th.x hX1
  replace hX := hX.tr hX1
  refine pm_nrm (cells' := 6) (slots' := 196692) (g2 := F0 m 62 ls [.ref (H0.size + (mZ M_17)), .ref (H0.size + th)]) rfl rfl rfl ?_
  refine pf_X10_35 E hI t_th dX10_init_62 hnm tn_19 (fun H locs M_20 e_M_20 hX1 hI => ?_)
  replace hw := hw M_20 e_M_20
  replace t_th := t_th.x hX1
  replace hX := hX.tr hX1
  refine lv_aload_n hx hb dX10_init_65 rfl (lv_at hl 0 rfl) ?_
  refine lv_bipush (v := (24 : Int32)) hx hb dX10_init_66 (by decide) ?_
  refine newI (N := 24) E hI (by decide) (by decide) (by decide) (by decide) (by decide) dX10_init_68 (fun H M_21 e_M_21 hX1 tn_22 hI => ?_)
  replace hw := hw M_21 e_M_21
  replace t_th := t_th.x hX1
  replace hX := hX.tr hX1
  refine pm_nrm (cells' := 7) (slots' := 196716) (g2 := F0 m 70 ls [.ref (H0.size + (mZ M_20)), .ref (H0.size + th)]) rfl rfl rfl ?_
  refine pf_X10_38 E hI t_th dX10_init_70 hnm tn_22 (fun H locs M_23 e_M_23 hX1 hI => ?_)
  replace hw := hw M_23 e_M_23
  replace t_th := t_th.x hX1
  replace hX := hX.tr hX1
  refine lv_aload_n hx hb dX10_init_73 rfl (lv_at hl 0 rfl) ?_
  refine lv_iconst (v := (3 : Int32)) hx hb dX10_init_74 (by decide) ?_
  refine newI (N := 3) E hI (by decide) (by decide) (by decide) (by decide) (by decide) dX10_init_75 (fun H M_24 e_M_24 hX1 tn_25 hI => ?_)
  replace hw := hw M_24 e_M_24
  replace t_th := t_th.x hX1
  replace hX := hX.tr hX1
  refine pm_nrm (cells' := 8) (slots' := 196719) (g2 := F0 m 77 ls [.ref (H0.size + (mZ M_23)), .ref (H0.size + th)]) rfl rfl rfl ?_
  refine pf_X10_41 E hI t_th dX10_init_77 hnm tn_25 (fun H locs M_26 e_M_26 hX1 hI => ?_)
  replace hw := hw M_26 e_M_26
  replace t_th := t_th.x hX1
  replace hX := hX.tr hX1
  refine lv_aload_n hx hb dX10_init_80 rfl (lv_at hl 0 rfl) ?_
  refine lv_bipush (v := (10 : Int32)) hx hb dX10_init_81 (by decide) ?_
  refine newI (N := 10) E hI (by decide) (by decide) (by decide) (by decide) (by decide) dX10_init_83 (fun H M_27 e_M_27 hX1 tn_28 hI => ?_)
  replace hw := hw M_27 e_M_27
  replace t_th := t_th.x hX1
  replace hX := hX.tr hX1
  refine pm_nrm (cells' := 9) (slots' := 196729) (g2 := F0 m 85 ls [.ref (H0.size + (mZ M_26)), .ref (H0.size + th)]) rfl rfl rfl ?_
  refine pf_X10_44 E hI t_th dX10_init_85 hnm tn_28 (fun H locs M_29 e_M_29 hX1 hI => ?_)
  replace hw := hw M_29 e_M_29
  replace t_th := t_th.x hX1
  replace hX := hX.tr hX1
  refine lv_aload_n hx hb dX10_init_88 rfl (lv_at hl 0 rfl) ?_
  refine lv_bipush (v := (10 : Int32)) hx hb dX10_init_89 (by decide) ?_
  refine newI (N := 10) E hI (by decide) (by decide) (by decide) (by decide) (by decide) dX10_init_91 (fun H M_30 e_M_30 hX1 tn_31 hI => ?_)
  replace hw := hw M_30 e_M_30
  replace t_th := t_th.x hX1
  replace hX := hX.tr hX1
  refine pm_nrm (cells' := 10) (slots' := 196739) (g2 := F0 m 93 ls [.ref (H0.size + (mZ M_29)), .ref (H0.size + th)]) rfl rfl rfl ?_
  refine pf_X10_47 E hI t_th dX10_init_93 hnm tn_31 (fun H locs M_32 e_M_32 hX1 hI => ?_)
  replace hw := hw M_32 e_M_32
  replace t_th := t_th.x hX1
  replace hX := hX.tr hX1
  refine lv_aload_n hx hb dX10_init_96 rfl (lv_at hl 0 rfl) ?_
  refine lv_sipush (v := (2000 : Int32)) hx hb dX10_init_97 (by decide) ?_
  refine newJ (N := 2000) E hI (by decide) (by decide) (by decide) (by decide) (by decide) dX10_init_100 (fun H M_33 e_M_33 hX1 tn_34 hI => ?_)
  replace hw := hw M_33 e_M_33
  replace t_th := t_th.x hX1
  replace hX := hX.tr hX1
  refine pm_nrm (cells' := 11) (slots' := 198739) (g2 := F0 m 102 ls [.ref (H0.size + (mZ M_32)), .ref (H0.size + th)]) rfl rfl rfl ?_
  refine pf_X10_50 E hI t_th dX10_init_102 hnm tn_34 (fun H locs M_35 e_M_35 hX1 hI => ?_)
  replace hw := hw M_35 e_M_35
  replace t_th := t_th.x hX1
  replace hX := hX.tr hX1
  refine lv_aload_n hx hb dX10_init_105 rfl (lv_at hl 0 rfl) ?_
  refine lv_sipush (v := (200 : Int32)) hx hb dX10_init_106 (by decide) ?_
  refine newJ (N := 200) E hI (by decide) (by decide) (by decide) (by decide) (by decide) dX10_init_109 (fun H M_36 e_M_36 hX1 tn_37 hI => ?_)
  replace hw := hw M_36 e_M_36
  replace t_th := t_th.x hX1
  replace hX := hX.tr hX1
  refine pm_nrm (cells' := 12) (slots' := 198939) (g2 := F0 m 111 ls [.ref (H0.size + (mZ M_35)), .ref (H0.size + th)]) rfl rfl rfl ?_
  refine pf_X10_54 E hI t_th dX10_init_111 hnm tn_37 (fun H locs M_38 e_M_38 hX1 hI => ?_)
  replace hw := hw M_38 e_M_38
  replace t_th := t_th.x hX1
  replace hX := hX.tr hX1
  refine lv_aload_n hx hb dX10_init_114 rfl (lv_at hl 0 rfl) ?_
  refine lv_sipush (v := (200 : Int32)) hx hb dX10_init_115 (by decide) ?_
  refine newI (N := 200) E hI (by decide) (by decide) (by decide) (by decide) (by decide) dX10_init_118 (fun H M_39 e_M_39 hX1 tn_40 hI => ?_)
  replace hw := hw M_39 e_M_39
  replace t_th := t_th.x hX1
  replace hX := hX.tr hX1
  refine pm_nrm (cells' := 13) (slots' := 199139) (g2 := F0 m 120 ls [.ref (H0.size + (mZ M_38)), .ref (H0.size + th)]) rfl rfl rfl ?_
  refine pf_X10_57 E hI t_th dX10_init_120 hnm tn_40 (fun H locs M_41 e_M_41 hX1 hI => ?_)
  replace hw := hw M_41 e_M_41
  replace t_th := t_th.x hX1
  replace hX := hX.tr hX1
  refine lv_aload_n hx hb dX10_init_123 rfl (lv_at hl 0 rfl) ?_
  refine lv_sipush (v := (200 : Int32)) hx hb dX10_init_124 (by decide) ?_
  refine newI (N := 200) E hI (by decide) (by decide) (by decide) (by decide) (by decide) dX10_init_127 (fun H M_42 e_M_42 hX1 tn_43 hI => ?_)
  replace hw := hw M_42 e_M_42
  replace t_th := t_th.x hX1
  replace hX := hX.tr hX1
  refine pm_nrm (cells' := 14) (slots' := 199339) (g2 := F0 m 129 ls [.ref (H0.size + (mZ M_41)), .ref (H0.size + th)]) rfl rfl rfl ?_
  refine pf_X10_60 E hI t_th dX10_init_129 hnm tn_43 (fun H locs M_44 e_M_44 hX1 hI => ?_)
  replace hw := hw M_44 e_M_44
  replace t_th := t_th.x hX1
  replace hX := hX.tr hX1
  refine lv_aload_n hx hb dX10_init_132 rfl (lv_at hl 0 rfl) ?_
  refine lv_bipush (v := (16 : Int32)) hx hb dX10_init_133 (by decide) ?_
  refine newI (N := 16) E hI (by decide) (by decide) (by decide) (by decide) (by decide) dX10_init_135 (fun H M_45 e_M_45 hX1 tn_46 hI => ?_)
  replace hw := hw M_45 e_M_45
  replace t_th := t_th.x hX1
  replace hX := hX.tr hX1
  refine pm_nrm (cells' := 15) (slots' := 199355) (g2 := F0 m 137 ls [.ref (H0.size + (mZ M_44)), .ref (H0.size + th)]) rfl rfl rfl ?_
  refine pf_X10_63 E hI t_th dX10_init_137 hnm tn_46 (fun H locs M_47 e_M_47 hX1 hI => ?_)
  replace hw := hw M_47 e_M_47
  replace t_th := t_th.x hX1
  replace hX := hX.tr hX1
  refine lv_aload_n hx hb dX10_init_140 rfl (lv_at hl 0 rfl) ?_
  refine lv_bipush (v := (72 : Int32)) hx hb dX10_init_141 (by decide) ?_
  refine newI (N := 72) E hI (by decide) (by decide) (by decide) (by decide) (by decide) dX10_init_143 (fun H M_48 e_M_48 hX1 tn_49 hI => ?_)
  replace hw := hw M_48 e_M_48
  replace t_th := t_th.x hX1
  replace hX := hX.tr hX1
  refine pm_nrm (cells' := 16) (slots' := 199427) (g2 := F0 m 145 ls [.ref (H0.size + (mZ M_47)), .ref (H0.size + th)]) rfl rfl rfl ?_
  refine pf_X10_66 E hI t_th dX10_init_145 hnm tn_49 (fun H locs M_50 e_M_50 hX1 hI => ?_)
  replace hw := hw M_50 e_M_50
  replace t_th := t_th.x hX1
  replace hX := hX.tr hX1
  refine lv_aload_n hx hb dX10_init_148 rfl (lv_at hl 0 rfl) ?_
  refine lv_bipush (v := (72 : Int32)) hx hb dX10_init_149 (by decide) ?_
  refine newI (N := 72) E hI (by decide) (by decide) (by decide) (by decide) (by decide) dX10_init_151 (fun H M_51 e_M_51 hX1 tn_52 hI => ?_)
  replace hw := hw M_51 e_M_51
  replace t_th := t_th.x hX1
  replace hX := hX.tr hX1
  refine pm_nrm (cells' := 17) (slots' := 199499) (g2 := F0 m 153 ls [.ref (H0.size + (mZ M_50)), .ref (H0.size + th)]) rfl rfl rfl ?_
  refine pf_X10_69 E hI t_th dX10_init_153 hnm tn_52 (fun H locs M_53 e_M_53 hX1 hI => ?_)
  replace hw := hw M_53 e_M_53
  replace t_th := t_th.x hX1
  replace hX := hX.tr hX1
  refine lv_aload_n hx hb dX10_init_156 rfl (lv_at hl 0 rfl) ?_
  refine lv_sipush (v := (4096 : Int32)) hx hb dX10_init_157 (by decide) ?_
  refine newB (N := 4096) E hI (by decide) (by decide) (by decide) (by decide) (by decide) dX10_init_160 (fun H M_54 e_M_54 hX1 tn_55 hI => ?_)
  replace hw := hw M_54 e_M_54
  replace t_th := t_th.x hX1
  replace hX := hX.tr hX1
  refine pm_nrm (cells' := 18) (slots' := 203595) (g2 := F0 m 162 ls [.ref (H0.size + (mZ M_53)), .ref (H0.size + th)]) rfl rfl rfl ?_
  refine pf_X10_72 E hI t_th dX10_init_162 hnm tn_55 (fun H locs M_56 e_M_56 hX1 hI => ?_)
  replace hw := hw M_56 e_M_56
  replace t_th := t_th.x hX1
  replace hX := hX.tr hX1
  refine lv_aload_n hx hb dX10_init_165 rfl (lv_at hl 0 rfl) ?_
  refine lv_bipush (v := (12 : Int32)) hx hb dX10_init_166 (by decide) ?_
  refine newI (N := 12) E hI (by decide) (by decide) (by decide) (by decide) (by decide) dX10_init_168 (fun H M_57 e_M_57 hX1 tn_58 hI => ?_)
  replace hw := hw M_57 e_M_57
  replace t_th := t_th.x hX1
  replace hX := hX.tr hX1
  refine pm_nrm (cells' := 19) (slots' := 203607) (g2 := F0 m 170 ls [.ref (H0.size + (mZ M_56)), .ref (H0.size + th)]) rfl rfl rfl ?_
  refine pf_X10_75 E hI t_th dX10_init_170 hnm tn_58 (fun H locs M_59 e_M_59 hX1 hI => ?_)
  replace hw := hw M_59 e_M_59
  replace t_th := t_th.x hX1
  replace hX := hX.tr hX1
  refine lv_aload_n hx hb dX10_init_173 rfl (lv_at hl 0 rfl) ?_
  refine lv_bipush (v := (12 : Int32)) hx hb dX10_init_174 (by decide) ?_
  refine newI (N := 12) E hI (by decide) (by decide) (by decide) (by decide) (by decide) dX10_init_176 (fun H M_60 e_M_60 hX1 tn_61 hI => ?_)
  replace hw := hw M_60 e_M_60
  replace t_th := t_th.x hX1
  replace hX := hX.tr hX1
  refine pm_nrm (cells' := 20) (slots' := 203619) (g2 := F0 m 178 ls [.ref (H0.size + (mZ M_59)), .ref (H0.size + th)]) rfl rfl rfl ?_
  refine pf_X10_78 E hI t_th dX10_init_178 hnm tn_61 (fun H locs M_62 e_M_62 hX1 hI => ?_)
  replace hw := hw M_62 e_M_62
  replace t_th := t_th.x hX1
  replace hX := hX.tr hX1
  refine lv_aload_n hx hb dX10_init_181 rfl (lv_at hl 0 rfl) ?_
  refine lv_bipush (v := (8 : Int32)) hx hb dX10_init_182 (by decide) ?_
  refine pm_callV (As := [.int (8 : Int32)]) (rest := []) 1 E hI (k_X10_anew t_th hw) t_th (by decide) rfl kc_X10_anew kl_X10_81 km_X10_anew ks_X10_anew ki_X10 (by decide +kernel) ⟨by decide, by decide⟩ rfl hl.1 rfl (by first | exact Nat.le_of_ble_eq_true rfl | (simp only [List.map, pm_rf_cat]; exact Nat.le_of_ble_eq_true rfl)) dX10_init_184 ⟨by decide, by decide⟩ (fun r9 M_63 H locs hp hX1 hI => ?_)
  clear hw
  obtain ⟨rfl, hw⟩ := hp
  replace t_th := t_th.x hX1
  replace hX := hX.tr hX1
  refine pm_nrm (cells' := 20) (slots' := 203619) (g2 := F0 m 187 ls []) rfl rfl rfl ?_
  exact pm_vret E hret hI hX ⟨rfl, hw⟩ (by decide) (by decide) dX10_init_187
