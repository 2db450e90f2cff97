set_option maxHeartbeats 4000000 in
set_option maxRecDepth 100000 in
theorem c_X10_fewest_19 {p : Program} {l : Launch} {e : Env} {s : State} {m : MethodId} {args : Array Value} {below : List Frame} {meth : Method} {c : Code} {G : pm_G} {H0 : Heap} {M0 : pm_M} {Post : Int32 → pm_M → Prop} {s0 : Int32} {M : pm_M} (E : pm_E G p s m args meth c cX10_fewest 3 RX10) (hret : meth.sig.returnType = (some .int)) {H : Heap} {locs : List Loc} {ls : Array Slot} (hX : pm_X M0 M) (hI : pm_I G H0 M H locs) (hl : lv_has ls 3 []) (hw : w_X10_fewest_19 Post s0 M) : W p l e rm_X10_fewest s m args below meth c H locs 0 0 (pm_Z G H0 M0 (pm_Pi Post) below args s rm_X10_fewest.cells rm_X10_fewest.slots) (F0 m 19 ls [.int s0]) := by
  have hx := E.1
  have hb := E.2.1
  have hown := E.2.2.2.1
  have hts := E.2.2.2.2.1
  unfold w_X10_fewest_19 at hw
  exact pm_iret E hret hI hX ⟨_, rfl, hw⟩ (by decide) (by decide) dX10_fewest_19
set_option maxHeartbeats 4000000 in
set_option maxRecDepth 100000 in
theorem k_X10_fewest {l : Launch} {G : pm_G} {H0 : Heap} {th : Nat} {a1 : Int32} {M : pm_M} {Post : Int32 → pm_M → Prop} (t_th : pm_is M th 9) (hw : w_X10_fewest th a1 M Post) : pm_C l G H0 yX10_fewest cX10_fewest 3 (some .int) rm_X10_fewest [.ref (H0.size + th), .int a1] M (pm_Pi Post) := by
  refine pm_start (by decide +kernel) (Nat.le_of_ble_eq_true rfl) ?_
  intro p e s m args below meth c H ls E hret hnm hI hl
  have hX : pm_X M M := pm_X.rf
  have hl : lv_has ls 3 [(0, .ref (H0.size + th)), (1, .int a1)] := hl
  have hx := E.1
  have hb := E.2.1
  have hown := E.2.2.2.1
  have hts := E.2.2.2.2.1
  unfold w_X10_fewest at hw
  refine lv_aload_n hx hb dX10_fewest_0 rfl (lv_at hl 0 rfl) ?_
  refine lv_iload_n hx hb dX10_fewest_1 rfl (lv_at hl 1 rfl) ?_
  refine pm_callV (As := [.int a1]) (rest := []) 1 E hI (k_X10_undealt t_th hw) t_th (by decide) rfl kc_X10_undealt kl_X10_220 km_X10_undealt ks_X10_undealt ki_X10 (by decide +kernel) ⟨by decide, by decide⟩ rfl hl.1 rfl (by first | exact Nat.le_of_ble_eq_true rfl | (simp only [List.map, pm_rf_cat]; exact Nat.le_of_ble_eq_true rfl)) dX10_fewest_2 ⟨by decide, by decide⟩ (fun r9 M9 H locs hp hX1 hI => ?_)
  clear hw
  obtain ⟨r_1, rfl, rfl, hw⟩ := hp
  refine pm_nrm (cells' := 0) (slots' := 0) (g2 := F0 m 5 ls [.int r_1]) rfl rfl rfl ?_
  refine lv_istore_n (lv' := [(2, .int r_1), (0, .ref (H0.size + th)), (1, .int a1)]) hx hb dX10_fewest_5 rfl hl (by decide) rfl (fun ls hl_2 => ?_)
  refine lv_iload_n hx hb dX10_fewest_6 rfl (lv_at hl_2 0 rfl) ?_
  refine lv_if_eq (tgt := 14) hx hb dX10_fewest_7 (by decide) (fun h_3 => ?_) (fun h_3 => ?_)
  · replace hw := hw.1 h_3
    refine lv_aload_n hx hb dX10_fewest_14 rfl (lv_at hl_2 1 rfl) ?_
    refine lv_iload_n hx hb dX10_fewest_15 rfl (lv_at hl_2 2 rfl) ?_
    refine pm_callV (As := [.int a1]) (rest := []) 1 E hI (k_X10_fewestOf t_th hw) t_th (by decide) rfl kc_X10_fewestOf kl_X10_223 km_X10_fewestOf ks_X10_fewestOf ki_X10 (by decide +kernel) ⟨by decide, by decide⟩ rfl hl_2.1 rfl (by first | exact Nat.le_of_ble_eq_true rfl | (simp only [List.map, pm_rf_cat]; exact Nat.le_of_ble_eq_true rfl)) dX10_fewest_16 ⟨by decide, by decide⟩ (fun r9 M_4 H locs hp hX1 hI => ?_)
    clear hw
    obtain ⟨r_5, rfl, hw⟩ := hp
    replace t_th := t_th.x hX1
    replace hX := hX.tr hX1
    refine pm_nrm (cells' := 0) (slots' := 0) (g2 := F0 m 19 ls [.int r_5]) rfl rfl rfl ?_
    exact c_X10_fewest_19 E hret hX hI (lv_sub hl_2 [] rfl) hw
  · replace hw := hw.2 h_3
    refine lv_iload_n hx hb dX10_fewest_10 rfl (lv_at hl_2 0 rfl) ?_
    refine lv_goto (tgt := 19) hx hb dX10_fewest_11 (by decide) ?_
    exact c_X10_fewest_19 E hret hX hI (lv_sub hl_2 [] rfl) hw
set_option maxHeartbeats 4000000 in
set_option maxRecDepth 100000 in
theorem c_X10_crowd_21 {p : Program} {l : Launch} {e : Env} {s : State} {m : MethodId} {args : Array Value} {below : List Frame} {meth : Method} {c : Code} {G : pm_G} {H0 : Heap} {M0 : pm_M} {Post : Int32 → pm_M → Prop} {v0 : Nat} {v1 : Int32} {v3 : Int32} {M : pm_M} (E : pm_E G p s m args meth c cX10_crowd 6 RX10) (hret : meth.sig.returnType = (some .int)) : ∀ (n : Nat) (v4 : Int32) (H : Heap) (locs : List Loc) (ls : Array Slot), pm_X M0 M → pm_I G H0 M H locs → (pm_is M v0 9) → lv_has ls 6 [(0, .ref (H0.size + v0)), (1, .int v1), (3, .int v3), (4, .int v4)] → w_X10_crowd_21 Post v0 v1 v3 M n v4 → W p l e rm_X10_crowd s m args below meth c H locs 0 0 (pm_Z G H0 M0 (pm_Pi Post) below args s rm_X10_crowd.cells rm_X10_crowd.slots) (F0 m 21 ls []) := by
  have hx := E.1
  have hb := E.2.1
  have hown := E.2.2.2.1
  have hts := E.2.2.2.2.1
  intro n
  induction n with
  | zero =>
    intro v4 H locs ls hX hI t_v0 hl hw
    unfold w_X10_crowd_21 at hw
    exact hw.elim
  | succ n ih =>
    intro v4 H locs ls hX hI t_v0 hl hw
    unfold w_X10_crowd_21 at hw
    refine lv_iload hx hb dX10_crowd_21 (lv_at hl 3 rfl) ?_
    refine lv_aload_n hx hb dX10_crowd_23 rfl (lv_at hl 0 rfl) ?_
    refine gf_X10_13 E hI t_v0 dX10_crowd_24 ?_
    refine lv_icmp_gt (tgt := 65) hx hb dX10_crowd_27 (by decide) (fun h_1 => ?_) (fun h_1 => ?_)
    · replace hw := hw.1 h_1
      refine lv_iconst (v := (-1 : Int32)) hx hb dX10_crowd_65 (by decide) ?_
      exact pm_iret E hret hI hX ⟨_, rfl, hw⟩ (by decide) (by decide) dX10_crowd_66
    · replace hw := hw.2 h_1
      refine lv_aload_n hx hb dX10_crowd_30 rfl (lv_at hl 0 rfl) ?_
      refine lv_iload_n hx hb dX10_crowd_31 rfl (lv_at hl 1 rfl) ?_
      refine lv_iload hx hb dX10_crowd_32 (lv_at hl 3 rfl) ?_
      refine pm_callV (As := [.int v1, .int v4]) (rest := []) 2 E hI (k_X10_rankOf t_v0 hw) t_v0 (by decide) rfl kc_X10_rankOf kl_X10_108 km_X10_rankOf ks_X10_rankOf ki_X10 (by decide +kernel) ⟨by decide, by decide⟩ rfl hl.1 rfl (by first | exact Nat.le_of_ble_eq_true rfl | (simp only [List.map, pm_rf_cat]; exact Nat.le_of_ble_eq_true rfl)) dX10_crowd_34 ⟨by decide, by decide⟩ (fun r9 M9 H locs hp hX1 hI => ?_)
      clear hw
      obtain ⟨r_2, rfl, rfl, hw⟩ := hp
      refine pm_nrm (cells' := 0) (slots' := 0) (g2 := F0 m 37 ls [.int r_2]) rfl rfl rfl ?_
      refine lv_istore (lv' := [(5, .int r_2), (0, .ref (H0.size + v0)), (1, .int v1), (3, .int v3), (4, .int v4)]) hx hb dX10_crowd_37 hl (by decide) rfl (fun ls hl_3 => ?_)
      refine lv_iload hx hb dX10_crowd_39 (lv_at hl_3 4 rfl) ?_
      refine pm_callS (As := [.int v4]) (rest := []) 1 E hI (k_X10_bitsOf hw) kc_X10_bitsOf kl_X10_104 kt_X10_bitsOf ki_X10 (by decide +kernel) ⟨by decide, by decide⟩ rfl hl_3.1 rfl (by first | exact Nat.le_of_ble_eq_true rfl | (simp only [List.map, pm_rf_cat]; exact Nat.le_of_ble_eq_true rfl)) dX10_crowd_41 ⟨by decide, by decide⟩ (fun r9 M9 H locs hp hX1 hI => ?_)
      clear hw
      obtain ⟨r_4, rfl, rfl, hw⟩ := hp
      refine pm_nrm (cells' := 0) (slots' := 0) (g2 := F0 m 44 ls [.int r_4]) rfl rfl rfl ?_
      refine lv_iload hx hb dX10_crowd_44 (lv_at hl_3 0 rfl) ?_
      refine lv_iadd hx hb dX10_crowd_46 ?_
      refine lv_iconst (v := (1 : Int32)) hx hb dX10_crowd_47 (by decide) ?_
      refine lv_isub hx hb dX10_crowd_48 ?_
      refine lv_iload hx hb dX10_crowd_49 (lv_at hl_3 0 rfl) ?_
      obtain ⟨h9, hw⟩ := hw
      refine lv_idiv hx hb dX10_crowd_51 h9 ?_
      refine lv_iload_n hx hb dX10_crowd_52 rfl (lv_at hl_3 3 rfl) ?_
      refine lv_icmp_ne (tgt := 59) hx hb dX10_crowd_53 (by decide) (fun h_5 => ?_) (fun h_5 => ?_)
      · replace hw := hw.1 h_5
        obtain ⟨x_6, e_x_6⟩ : ∃ z : Int32, z = v4 + (1 : Int32) := ⟨_, rfl⟩
        refine lv_iinc (v := x_6) (lv' := [(4, .int x_6), (5, .int r_2), (0, .ref (H0.size + v0)), (1, .int v1), (3, .int v3)]) hx hb dX10_crowd_59 hl_3 (k := 4) rfl (by rw [e_x_6]; rfl) (by decide) rfl (fun ls hl_7 => ?_)
        replace hw := hw x_6 e_x_6
        refine lv_goto (tgt := 21) hx hb dX10_crowd_62 (by decide) ?_
        exact ih _ _ _ _ hX hI t_v0 (lv_sub hl_7 [2, 3, 4, 0] rfl) hw
      · replace hw := hw.2 h_5
        refine lv_iload hx hb dX10_crowd_56 (lv_at hl_3 4 rfl) ?_
        exact pm_iret E hret hI hX ⟨_, rfl, hw⟩ (by decide) (by decide) dX10_crowd_58
set_option maxHeartbeats 4000000 in
set_option maxRecDepth 100000 in
theorem k_X10_crowd {l : Launch} {G : pm_G} {H0 : Heap} {th : Nat} {a1 : Int32} {M : pm_M} {Post : Int32 → pm_M → Prop} (t_th : pm_is M th 9) (hw : w_X10_crowd th a1 M Post) : pm_C l G H0 yX10_crowd cX10_crowd 6 (some .int) rm_X10_crowd [.ref (H0.size + th), .int a1] M (pm_Pi Post) := by
  refine pm_start (by decide +kernel) (Nat.le_of_ble_eq_true rfl) ?_
  intro p e s m args below meth c H ls E hret hnm hI hl
  have hX : pm_X M M := pm_X.rf
  have hl : lv_has ls 6 [(0, .ref (H0.size + th)), (1, .int a1)] := hl
  have hx := E.1
  have hb := E.2.1
  have hown := E.2.2.2.1
  have hts := E.2.2.2.2.1
  unfold w_X10_crowd at hw
  refine lv_aload_n hx hb dX10_crowd_0 rfl (lv_at hl 0 rfl) ?_
  refine lv_iload_n hx hb dX10_crowd_1 rfl (lv_at hl 1 rfl) ?_
  refine pm_callV (As := [.int a1]) (rest := []) 1 E hI (k_X10_undealt t_th hw) t_th (by decide) rfl kc_X10_undealt kl_X10_220 km_X10_undealt ks_X10_undealt ki_X10 (by decide +kernel) ⟨by decide, by decide⟩ rfl hl.1 rfl (by first | exact Nat.le_of_ble_eq_true rfl | (simp only [List.map, pm_rf_cat]; exact Nat.le_of_ble_eq_true rfl)) dX10_crowd_2 ⟨by decide, by decide⟩ (fun r9 M9 H locs hp hX1 hI => ?_)
  clear hw
  obtain ⟨r_1, rfl, rfl, hw⟩ := hp
  refine pm_nrm (cells' := 0) (slots' := 0) (g2 := F0 m 5 ls [.int r_1]) rfl rfl rfl ?_
  refine lv_istore_n (lv' := [(2, .int r_1), (0, .ref (H0.size + th)), (1, .int a1)]) hx hb dX10_crowd_5 rfl hl (by decide) rfl (fun ls hl_2 => ?_)
  refine lv_iload_n hx hb dX10_crowd_6 rfl (lv_at hl_2 0 rfl) ?_
  refine lv_if_eq (tgt := 12) hx hb dX10_crowd_7 (by decide) (fun h_3 => ?_) (fun h_3 => ?_)
  · replace hw := hw.1 h_3
    refine lv_aload_n hx hb dX10_crowd_12 rfl (lv_at hl_2 1 rfl) ?_
    refine lv_iload_n hx hb dX10_crowd_13 rfl (lv_at hl_2 2 rfl) ?_
    refine pm_callV (As := [.int a1]) (rest := []) 1 E hI (k_X10_fewestOf t_th hw) t_th (by decide) rfl kc_X10_fewestOf kl_X10_223 km_X10_fewestOf ks_X10_fewestOf ki_X10 (by decide +kernel) ⟨by decide, by decide⟩ rfl hl_2.1 rfl (by first | exact Nat.le_of_ble_eq_true rfl | (simp only [List.map, pm_rf_cat]; exact Nat.le_of_ble_eq_true rfl)) dX10_crowd_14 ⟨by decide, by decide⟩ (fun r9 M_4 H locs hp hX1 hI => ?_)
    clear hw
    obtain ⟨r_5, rfl, hw⟩ := hp
    replace t_th := t_th.x hX1
    replace hX := hX.tr hX1
    refine pm_nrm (cells' := 0) (slots' := 0) (g2 := F0 m 17 ls [.int r_5]) rfl rfl rfl ?_
    refine lv_istore_n (lv' := [(3, .int r_5), (2, .int r_1), (0, .ref (H0.size + th)), (1, .int a1)]) hx hb dX10_crowd_17 rfl hl_2 (by decide) rfl (fun ls hl_6 => ?_)
    refine lv_iconst (v := (1 : Int32)) hx hb dX10_crowd_18 (by decide) ?_
    refine lv_istore (lv' := [(4, .int (1 : Int32)), (3, .int r_5), (2, .int r_1), (0, .ref (H0.size + th)), (1, .int a1)]) hx hb dX10_crowd_19 hl_6 (by decide) rfl (fun ls hl_7 => ?_)
    obtain ⟨n_8, hw⟩ := hw
    exact c_X10_crowd_21 E hret n_8 _ _ _ _ hX hI t_th (lv_sub hl_7 [3, 4, 1, 0] rfl) hw
  · replace hw := hw.2 h_3
    refine lv_iload_n hx hb dX10_crowd_10 rfl (lv_at hl_2 0 rfl) ?_
    exact pm_iret E hret hI hX ⟨_, rfl, hw⟩ (by decide) (by decide) dX10_crowd_11
set_option maxHeartbeats 4000000 in
set_option maxRecDepth 100000 in
theorem c_X10_pack_121 {p : Program} {l : Launch} {e : Env} {s : State} {m : MethodId} {args : Array Value} {below : List Frame} {meth : Method} {c : Code} {G : pm_G} {H0 : Heap} {M0 : pm_M} {Post : Int32 → pm_M → Prop} {v0 : Nat} {v1 : Int32} {v2 : Int32} {v3 : Int32} {v4 : Int32} {v5 : Int32} {s0 : Int32} {M : pm_M} {k_34 : Int32 → pm_M → Prop} {k_67 : Int32 → Int32 → Prop} (E : pm_E G p s m args meth c cX10_pack 7 RX10) (hret : meth.sig.returnType = (some .int)) (hk_34 : ∀ (v2 : Int32) (M : pm_M) (H : Heap) (locs : List Loc) (ls : Array Slot), pm_X M0 M → pm_I G H0 M H locs → (pm_is M v0 9) → lv_has ls 7 [(0, .ref (H0.size + v0)), (1, .int v1), (2, .int v2)] → k_34 v2 M → W p l e rm_X10_pack s m args below meth c H locs 0 0 (pm_Z G H0 M0 (pm_Pi Post) below args s rm_X10_pack.cells rm_X10_pack.slots) (F0 m 34 ls [])) (hk_67 : ∀ (v5 : Int32) (v6 : Int32) (H : Heap) (locs : List Loc) (ls : Array Slot), pm_X M0 M → pm_I G H0 M H locs → (pm_is M v0 9) → lv_has ls 7 [(0, .ref (H0.size + v0)), (1, .int v1), (2, .int v2), (3, .int v3), (4, .int v4), (5, .int v5), (6, .int v6)] → k_67 v5 v6 → W p l e rm_X10_pack s m args below meth c H locs 0 0 (pm_Z G H0 M0 (pm_Pi Post) below args s rm_X10_pack.cells rm_X10_pack.slots) (F0 m 67 ls [])) {H : Heap} {locs : List Loc} {ls : Array Slot} (hX : pm_X M0 M) (hI : pm_I G H0 M H locs) (t_v0 : pm_is M v0 9) (hl : lv_has ls 7 [(0, .ref (H0.size + v0)), (1, .int v1), (2, .int v2), (3, .int v3), (4, .int v4), (5, .int v5)]) (hw : w_X10_pack_121 Post k_34 k_67 v0 v1 v2 v3 v4 v5 s0 M) : W p l e rm_X10_pack s m args below meth c H locs 0 0 (pm_Z G H0 M0 (pm_Pi Post) below args s rm_X10_pack.cells rm_X10_pack.slots) (F0 m 121 ls [.int s0]) := by
  have hx := E.1
  have hb := E.2.1
  have hown := E.2.2.2.1
  have hts := E.2.2.2.2.1
  unfold w_X10_pack_121 at hw
  refine lv_istore (lv' := [(6, .int s0), (0, .ref (H0.size + v0)), (1, .int v1), (2, .int v2), (3, .int v3), (4, .int v4), (5, .int v5)]) hx hb dX10_pack_121 hl (by decide) rfl (fun ls hl_1 => ?_)
  refine lv_goto (tgt := 67) hx hb dX10_pack_123 (by decide) ?_
  exact hk_67 _ _ _ _ _ hX hI t_v0 (lv_sub hl_1 [1, 2, 3, 4, 5, 6, 0] rfl) hw
set_option maxHeartbeats 4000000 in
set_option maxRecDepth 100000 in
theorem c_X10_pack_105 {p : Program} {l : Launch} {e : Env} {s : State} {m : MethodId} {args : Array Value} {below : List Frame} {meth : Method} {c : Code} {G : pm_G} {H0 : Heap} {M0 : pm_M} {Post : Int32 → pm_M → Prop} {v0 : Nat} {v1 : Int32} {v2 : Int32} {v3 : Int32} {v4 : Int32} {v5 : Int32} {v6 : Int32} {M : pm_M} {k_34 : Int32 → pm_M → Prop} {k_67 : Int32 → Int32 → Prop} (E : pm_E G p s m args meth c cX10_pack 7 RX10) (hret : meth.sig.returnType = (some .int)) (hk_34 : ∀ (v2 : Int32) (M : pm_M) (H : Heap) (locs : List Loc) (ls : Array Slot), pm_X M0 M → pm_I G H0 M H locs → (pm_is M v0 9) → lv_has ls 7 [(0, .ref (H0.size + v0)), (1, .int v1), (2, .int v2)] → k_34 v2 M → W p l e rm_X10_pack s m args below meth c H locs 0 0 (pm_Z G H0 M0 (pm_Pi Post) below args s rm_X10_pack.cells rm_X10_pack.slots) (F0 m 34 ls [])) (hk_67 : ∀ (v5 : Int32) (v6 : Int32) (H : Heap) (locs : List Loc) (ls : Array Slot), pm_X M0 M → pm_I G H0 M H locs → (pm_is M v0 9) → lv_has ls 7 [(0, .ref (H0.size + v0)), (1, .int v1), (2, .int v2), (3, .int v3), (4, .int v4), (5, .int v5), (6, .int v6)] → k_67 v5 v6 → W p l e rm_X10_pack s m args below meth c H locs 0 0 (pm_Z G H0 M0 (pm_Pi Post) below args s rm_X10_pack.cells rm_X10_pack.slots) (F0 m 67 ls [])) {H : Heap} {locs : List Loc} {ls : Array Slot} (hX : pm_X M0 M) (hI : pm_I G H0 M H locs) (t_v0 : pm_is M v0 9) (hl : lv_has ls 7 [(0, .ref (H0.size + v0)), (1, .int v1), (2, .int v2), (3, .int v3), (4, .int v4), (5, .int v5), (6, .int v6)]) (hw : w_X10_pack_105 Post k_34 k_67 v0 v1 v2 v3 v4 v5 v6 M) : W p l e rm_X10_pack s m args below meth c H locs 0 0 (pm_Z G H0 M0 (pm_Pi Post) below args s rm_X10_pack.cells rm_X10_pack.slots) (F0 m 105 ls []) := by
  have hx := E.1
  have hb := E.2.1
  have hown := E.2.2.2.1
  have hts := E.2.2.2.2.1
  unfold w_X10_pack_105 at hw
  refine lv_iload hx hb dX10_pack_105 (lv_at hl 6 rfl) ?_
  refine lv_if_ne (tgt := 114) hx hb dX10_pack_107 (by decide) (fun h_1 => ?_) (fun h_1 => ?_)
  · replace hw := hw.1 h_1
    refine lv_iload hx hb dX10_pack_114 (lv_at hl 6 rfl) ?_
    refine lv_iconst (v := (1 : Int32)) hx hb dX10_pack_116 (by decide) ?_
    refine lv_isub hx hb dX10_pack_117 ?_
    refine lv_iload hx hb dX10_pack_118 (lv_at hl 4 rfl) ?_
    refine lv_iand hx hb dX10_pack_120 ?_
    exact c_X10_pack_121 E hret hk_34 hk_67 hX hI t_v0 (lv_sub hl [0, 1, 2, 3, 4, 5] rfl) hw
  · replace hw := hw.2 h_1
    refine lv_iconst (v := (-1 : Int32)) hx hb dX10_pack_110 (by decide) ?_
    refine lv_goto (tgt := 121) hx hb dX10_pack_111 (by decide) ?_
    exact c_X10_pack_121 E hret hk_34 hk_67 hX hI t_v0 (lv_sub hl [0, 1, 2, 3, 4, 5] rfl) hw
set_option maxHeartbeats 4000000 in
set_option maxRecDepth 100000 in
theorem c_X10_pack_67 {p : Program} {l : Launch} {e : Env} {s : State} {m : MethodId} {args : Array Value} {below : List Frame} {meth : Method} {c : Code} {G : pm_G} {H0 : Heap} {M0 : pm_M} {Post : Int32 → pm_M → Prop} {v0 : Nat} {v1 : Int32} {v2 : Int32} {v3 : Int32} {v4 : Int32} {M : pm_M} {k_34 : Int32 → pm_M → Prop} (E : pm_E G p s m args meth c cX10_pack 7 RX10) (hret : meth.sig.returnType = (some .int)) (hk_34 : ∀ (v2 : Int32) (M : pm_M) (H : Heap) (locs : List Loc) (ls : Array Slot), pm_X M0 M → pm_I G H0 M H locs → (pm_is M v0 9) → lv_has ls 7 [(0, .ref (H0.size + v0)), (1, .int v1), (2, .int v2)] → k_34 v2 M → W p l e rm_X10_pack s m args below meth c H locs 0 0 (pm_Z G H0 M0 (pm_Pi Post) below args s rm_X10_pack.cells rm_X10_pack.slots) (F0 m 34 ls [])) : ∀ (n : Nat) (v5 : Int32) (v6 : Int32) (H : Heap) (locs : List Loc) (ls : Array Slot), pm_X M0 M → pm_I G H0 M H locs → (pm_is M v0 9) → lv_has ls 7 [(0, .ref (H0.size + v0)), (1, .int v1), (2, .int v2), (3, .int v3), (4, .int v4), (5, .int v5), (6, .int v6)] → w_X10_pack_67 Post k_34 v0 v1 v2 v3 v4 M n v5 v6 → W p l e rm_X10_pack s m args below meth c H locs 0 0 (pm_Z G H0 M0 (pm_Pi Post) below args s rm_X10_pack.cells rm_X10_pack.slots) (F0 m 67 ls []) := by
  have hx := E.1
  have hb := E.2.1
  have hown := E.2.2.2.1
  have hts := E.2.2.2.2.1
  intro n
  induction n with
  | zero =>
    intro v5 v6 H locs ls hX hI t_v0 hl hw
    unfold w_X10_pack_67 at hw
    exact hw.elim
  | succ n ih =>
    intro v5 v6 H locs ls hX hI t_v0 hl hw
    unfold w_X10_pack_67 at hw
    refine lv_iload hx hb dX10_pack_67 (lv_at hl 6 rfl) ?_
    refine lv_if_lt (tgt := 126) hx hb dX10_pack_69 (by decide) (fun h_1 => ?_) (fun h_1 => ?_)
    · replace hw := hw.1 h_1
      refine lv_aload_n hx hb dX10_pack_126 rfl (lv_at hl 0 rfl) ?_
      obtain ⟨q_2, e_q_2, hw⟩ := hw
      refine gf_X10_72 E hI t_v0 dX10_pack_127 e_q_2 (fun t_q_2 => ?_)
      refine lv_iload_n hx hb dX10_pack_130 rfl (lv_at hl 2 rfl) ?_
      refine lv_iload hx hb dX10_pack_131 (lv_at hl 5 rfl) ?_
      refine lv_i2b hx hb dX10_pack_133 rfl ?_
      obtain ⟨h_3, hw⟩ := hw
      refine ps_bast E hI t_q_2 h_3 dX10_pack_134 (fun H locs M_4 e_M_4 hX1 hI => ?_)
      replace hw := hw M_4 e_M_4
      replace t_v0 := t_v0.x hX1
      replace hX := hX.tr hX1
      obtain ⟨x_5, e_x_5⟩ : ∃ z : Int32, z = v2 + (1 : Int32) := ⟨_, rfl⟩
      refine lv_iinc (v := x_5) (lv' := [(2, .int x_5), (0, .ref (H0.size + v0)), (1, .int v1), (3, .int v3), (4, .int v4), (5, .int v5), (6, .int v6)]) hx hb dX10_pack_135 hl (k := 2) rfl (by rw [e_x_5]; rfl) (by decide) rfl (fun ls hl_6 => ?_)
      replace hw := hw x_5 e_x_5
      refine lv_goto (tgt := 34) hx hb dX10_pack_138 (by decide) ?_
      exact hk_34 _ _ _ _ _ hX hI t_v0 (lv_sub hl_6 [1, 2, 0] rfl) hw
    · replace hw := hw.2 h_1
      refine lv_aload_n hx hb dX10_pack_72 rfl (lv_at hl 0 rfl) ?_
      refine lv_iload_n hx hb dX10_pack_73 rfl (lv_at hl 1 rfl) ?_
      refine lv_iload hx hb dX10_pack_74 (lv_at hl 6 rfl) ?_
      refine lv_iload_n hx hb dX10_pack_76 rfl (lv_at hl 3 rfl) ?_
      refine lv_ior hx hb dX10_pack_77 ?_
      refine pm_callV (As := [.int v1, .int (v6 ||| v3)]) (rest := []) 2 E hI (k_X10_isFull t_v0 hw) t_v0 (by decide) rfl kc_X10_isFull kl_X10_207 km_X10_isFull ks_X10_isFull ki_X10 (by decide +kernel) ⟨by decide, by decide⟩ rfl hl.1 rfl (by first | exact Nat.le_of_ble_eq_true rfl | (simp only [List.map, pm_rf_cat]; exact Nat.le_of_ble_eq_true rfl)) dX10_pack_78 ⟨by decide, by decide⟩ (fun r9 M9 H locs hp hX1 hI => ?_)
      clear hw
      obtain ⟨r_7, rfl, rfl, hw⟩ := hp
      refine pm_nrm (cells' := 0) (slots' := 0) (g2 := F0 m 81 ls [.int r_7]) rfl rfl rfl ?_
      refine lv_if_eq (tgt := 105) hx hb dX10_pack_81 (by decide) (fun h_8 => ?_) (fun h_8 => ?_)
      · replace hw := hw.1 h_8
        exact c_X10_pack_105 E hret hk_34 ih hX hI t_v0 (lv_sub hl [0, 1, 2, 3, 4, 5, 6] rfl) hw
      · replace hw := hw.2 h_8
        refine lv_iload hx hb dX10_pack_84 (lv_at hl 5 rfl) ?_
        refine lv_iconst (v := (1 : Int32)) hx hb dX10_pack_86 (by decide) ?_
        refine lv_aload_n hx hb dX10_pack_87 rfl (lv_at hl 0 rfl) ?_
        obtain ⟨q_9, e_q_9, hw⟩ := hw
        refine gf_X10_72 E hI t_v0 dX10_pack_88 e_q_9 (fun t_q_9 => ?_)
        refine lv_iload hx hb dX10_pack_91 (lv_at hl 4 rfl) ?_
        refine lv_iload hx hb dX10_pack_93 (lv_at hl 6 rfl) ?_
        refine lv_iconst (v := (-1 : Int32)) hx hb dX10_pack_95 (by decide) ?_
        refine lv_ixor hx hb dX10_pack_96 ?_
        refine lv_iand hx hb dX10_pack_97 ?_
        obtain ⟨h_10, hw⟩ := hw
        refine pm_bald E hI t_q_9 h_10 dX10_pack_98 ?_
        refine lv_iadd hx hb dX10_pack_99 ?_
        refine pm_callS (As := [.int v5, .int ((1 : Int32) + (mI M q_9 (v4 &&& (v6 ^^^ (-1 : Int32))).toNatClampNeg))]) (rest := []) 2 E hI (k_J9_max_7cf53 hw) kc_J9_max_7cf53 kl_X10_111 kt_J9_max_7cf53 ki_J9 (by decide +kernel) ⟨by decide, by decide⟩ rfl hl.1 rfl (by first | exact Nat.le_of_ble_eq_true rfl | (simp only [List.map, pm_rf_cat]; exact Nat.le_of_ble_eq_true rfl)) dX10_pack_100 ⟨by decide, by decide⟩ (fun r9 M9 H locs hp hX1 hI => ?_)
        clear hw
        obtain ⟨r_11, rfl, rfl, hw⟩ := hp
        refine pm_nrm (cells' := 0) (slots' := 0) (g2 := F0 m 103 ls [.int r_11]) rfl rfl rfl ?_
        refine lv_istore (lv' := [(5, .int r_11), (0, .ref (H0.size + v0)), (1, .int v1), (2, .int v2), (3, .int v3), (4, .int v4), (6, .int v6)]) hx hb dX10_pack_103 hl (by decide) rfl (fun ls hl_12 => ?_)
        exact c_X10_pack_105 E hret hk_34 ih hX hI t_v0 (lv_sub hl_12 [1, 2, 3, 4, 5, 0, 6] rfl) hw
set_option maxHeartbeats 4000000 in
set_option maxRecDepth 100000 in
theorem c_X10_pack_34 {p : Program} {l : Launch} {e : Env} {s : State} {m : MethodId} {args : Array Value} {below : List Frame} {meth : Method} {c : Code} {G : pm_G} {H0 : Heap} {M0 : pm_M} {Post : Int32 → pm_M → Prop} {v0 : Nat} {v1 : Int32} (E : pm_E G p s m args meth c cX10_pack 7 RX10) (hret : meth.sig.returnType = (some .int)) : ∀ (n : Nat) (v2 : Int32) (M : pm_M) (H : Heap) (locs : List Loc) (ls : Array Slot), pm_X M0 M → pm_I G H0 M H locs → (pm_is M v0 9) → lv_has ls 7 [(0, .ref (H0.size + v0)), (1, .int v1), (2, .int v2)] → w_X10_pack_34 Post v0 v1 n v2 M → W p l e rm_X10_pack s m args below meth c H locs 0 0 (pm_Z G H0 M0 (pm_Pi Post) below args s rm_X10_pack.cells rm_X10_pack.slots) (F0 m 34 ls []) := by
  have hx := E.1
  have hb := E.2.1
  have hown := E.2.2.2.1
  have hts := E.2.2.2.2.1
  intro n
  induction n with
  | zero =>
    intro v2 M H locs ls hX hI t_v0 hl hw
    unfold w_X10_pack_34 at hw
    exact hw.elim
  | succ n ih =>
    intro v2 M H locs ls hX hI t_v0 hl hw
    unfold w_X10_pack_34 at hw
    refine lv_iload_n hx hb dX10_pack_34 rfl (lv_at hl 2 rfl) ?_
    refine lv_aload_n hx hb dX10_pack_35 rfl (lv_at hl 0 rfl) ?_
    refine gf_X10_13 E hI t_v0 dX10_pack_36 ?_
    refine lv_icmp_gt (tgt := 141) hx hb dX10_pack_39 (by decide) (fun h_1 => ?_) (fun h_1 => ?_)
    · replace hw := hw.1 h_1
      refine lv_aload_n hx hb dX10_pack_141 rfl (lv_at hl 0 rfl) ?_
      obtain ⟨q_2, e_q_2, hw⟩ := hw
      refine gf_X10_72 E hI t_v0 dX10_pack_142 e_q_2 (fun t_q_2 => ?_)
      refine lv_aload_n hx hb dX10_pack_145 rfl (lv_at hl 0 rfl) ?_
      refine gf_X10_13 E hI t_v0 dX10_pack_146 ?_
      obtain ⟨h_3, hw⟩ := hw
      refine pm_bald E hI t_q_2 h_3 dX10_pack_149 ?_
      exact pm_iret E hret hI hX ⟨_, rfl, hw⟩ (by decide) (by decide) dX10_pack_150
    · replace hw := hw.2 h_1
      refine lv_iload_n hx hb dX10_pack_42 rfl (lv_at hl 2 rfl) ?_
      refine lv_iload_n hx hb dX10_pack_43 rfl (lv_at hl 2 rfl) ?_
      refine lv_ineg hx hb dX10_pack_44 ?_
      refine lv_iand hx hb dX10_pack_45 ?_
      refine lv_topi (fun x_4 e_x_4 => ?_)
      replace hw := hw x_4 e_x_4
      refine lv_istore_n (lv' := [(3, .int x_4), (0, .ref (H0.size + v0)), (1, .int v1), (2, .int v2)]) hx hb dX10_pack_46 rfl hl (by decide) rfl (fun ls hl_5 => ?_)
      refine lv_iload_n hx hb dX10_pack_47 rfl (lv_at hl_5 3 rfl) ?_
      refine lv_iload_n hx hb dX10_pack_48 rfl (lv_at hl_5 0 rfl) ?_
      refine lv_iconst (v := (-1 : Int32)) hx hb dX10_pack_49 (by decide) ?_
      refine lv_ixor hx hb dX10_pack_50 ?_
      refine lv_iand hx hb dX10_pack_51 ?_
      refine lv_topi (fun x_6 e_x_6 => ?_)
      replace hw := hw x_6 e_x_6
      refine lv_istore (lv' := [(4, .int x_6), (3, .int x_4), (0, .ref (H0.size + v0)), (1, .int v1), (2, .int v2)]) hx hb dX10_pack_52 hl_5 (by decide) rfl (fun ls hl_7 => ?_)
      refine lv_aload_n hx hb dX10_pack_54 rfl (lv_at hl_7 2 rfl) ?_
      obtain ⟨q_8, e_q_8, hw⟩ := hw
      refine gf_X10_72 E hI t_v0 dX10_pack_55 e_q_8 (fun t_q_8 => ?_)
      refine lv_iload hx hb dX10_pack_58 (lv_at hl_7 0 rfl) ?_
      obtain ⟨h_9, hw⟩ := hw
      refine pm_bald E hI t_q_8 h_9 dX10_pack_60 ?_
      refine lv_topi (fun x_10 e_x_10 => ?_)
      replace hw := hw x_10 e_x_10
      refine lv_istore (lv' := [(5, .int x_10), (4, .int x_6), (3, .int x_4), (0, .ref (H0.size + v0)), (1, .int v1), (2, .int v2)]) hx hb dX10_pack_61 hl_7 (by decide) rfl (fun ls hl_11 => ?_)
      refine lv_iload hx hb dX10_pack_63 (lv_at hl_11 1 rfl) ?_
      refine lv_istore (lv' := [(6, .int x_6), (5, .int x_10), (4, .int x_6), (3, .int x_4), (0, .ref (H0.size + v0)), (1, .int v1), (2, .int v2)]) hx hb dX10_pack_65 hl_11 (by decide) rfl (fun ls hl_12 => ?_)
      obtain ⟨n_13, hw⟩ := hw
      exact c_X10_pack_67 E hret ih n_13 _ _ _ _ _ hX hI t_v0 (lv_sub hl_12 [4, 5, 6, 3, 2, 1, 0] rfl) hw
set_option maxHeartbeats 4000000 in
set_option maxRecDepth 100000 in
theorem k_X10_pack {l : Launch} {G : pm_G} {H0 : Heap} {th : Nat} {a1 : Int32} {M : pm_M} {Post : Int32 → pm_M → Prop} (t_th : pm_is M th 9) (hw : w_X10_pack th a1 M Post) : pm_C l G H0 yX10_pack cX10_pack 7 (some .int) rm_X10_pack [.ref (H0.size + th), .int a1] M (pm_Pi Post) := by
  refine pm_start (by decide +kernel) (Nat.le_of_ble_eq_true rfl) ?_
  intro p e s m args below meth c H ls E hret hnm hI hl
  have hX : pm_X M M := pm_X.rf
  have hl : lv_has ls 7 [(0, .ref (H0.size + th)), (1, .int a1)] := hl
  have hx := E.1
  have hb := E.2.1
  have hown := E.2.2.2.1
  have hts := E.2.2.2.2.1
  unfold w_X10_pack at hw
  refine lv_aload_n hx hb dX10_pack_0 rfl (lv_at hl 0 rfl) ?_
  refine lv_iload_n hx hb dX10_pack_1 rfl (lv_at hl 1 rfl) ?_
  refine pm_callV (As := [.int a1]) (rest := []) 1 E hI (k_X10_isRule t_th hw) t_th (by decide) rfl kc_X10_isRule kl_X10_191 km_X10_isRule ks_X10_isRule ki_X10 (by decide +kernel) ⟨by decide, by decide⟩ rfl hl.1 rfl (by first | exact Nat.le_of_ble_eq_true rfl | (simp only [List.map, pm_rf_cat]; exact Nat.le_of_ble_eq_true rfl)) dX10_pack_2 ⟨by decide, by decide⟩ (fun r9 M9 H locs hp hX1 hI => ?_)
  clear hw
  obtain ⟨r_1, rfl, rfl, hw⟩ := hp
  refine pm_nrm (cells' := 0) (slots' := 0) (g2 := F0 m 5 ls [.int r_1]) rfl rfl rfl ?_
  refine lv_if_ne (tgt := 10) hx hb dX10_pack_5 (by decide) (fun h_2 => ?_) (fun h_2 => ?_)
  · replace hw := hw.1 h_2
    refine lv_aload_n hx hb dX10_pack_10 rfl (lv_at hl 0 rfl) ?_
    refine lv_iload_n hx hb dX10_pack_11 rfl (lv_at hl 1 rfl) ?_
    refine lv_aload_n hx hb dX10_pack_12 rfl (lv_at hl 0 rfl) ?_
    refine gf_X10_13 E hI t_th dX10_pack_13 ?_
    refine pm_callV (As := [.int a1, .int (mI M th 1)]) (rest := []) 2 E hI (k_X10_rankOf t_th hw) t_th (by decide) rfl kc_X10_rankOf kl_X10_108 km_X10_rankOf ks_X10_rankOf ki_X10 (by decide +kernel) ⟨by decide, by decide⟩ rfl hl.1 rfl (by first | exact Nat.le_of_ble_eq_true rfl | (simp only [List.map, pm_rf_cat]; exact Nat.le_of_ble_eq_true rfl)) dX10_pack_16 ⟨by decide, by decide⟩ (fun r9 M9 H locs hp hX1 hI => ?_)
    clear hw
    obtain ⟨r_3, rfl, rfl, hw⟩ := hp
    refine pm_nrm (cells' := 0) (slots' := 0) (g2 := F0 m 19 ls [.int r_3]) rfl rfl rfl ?_
    refine lv_if_ne (tgt := 25) hx hb dX10_pack_19 (by decide) (fun h_4 => ?_) (fun h_4 => ?_)
    · replace hw := hw.1 h_4
      refine lv_aload_n hx hb dX10_pack_25 rfl (lv_at hl 0 rfl) ?_
      obtain ⟨q_5, e_q_5, hw⟩ := hw
      refine gf_X10_72 E hI t_th dX10_pack_26 e_q_5 (fun t_q_5 => ?_)
      refine lv_iconst (v := (0 : Int32)) hx hb dX10_pack_29 (by decide) ?_
      refine lv_iconst (v := (0 : Int32)) hx hb dX10_pack_30 (by decide) ?_
      obtain ⟨h_6, hw⟩ := hw
      refine ps_bast E hI t_q_5 h_6 dX10_pack_31 (fun H locs M_7 e_M_7 hX1 hI => ?_)
      replace hw := hw M_7 e_M_7
      replace t_th := t_th.x hX1
      replace hX := hX.tr hX1
      refine lv_iconst (v := (1 : Int32)) hx hb dX10_pack_32 (by decide) ?_
      refine lv_istore_n (lv' := [(2, .int (1 : Int32)), (0, .ref (H0.size + th)), (1, .int a1)]) hx hb dX10_pack_33 rfl hl (by decide) rfl (fun ls hl_8 => ?_)
      obtain ⟨n_9, hw⟩ := hw
      exact c_X10_pack_34 E hret n_9 _ _ _ _ _ hX hI t_th (lv_sub hl_8 [1, 2, 0] rfl) hw
    · replace hw := hw.2 h_4
      refine lv_bipush (v := (-2 : Int32)) hx hb dX10_pack_22 (by decide) ?_
      exact pm_iret E hret hI hX ⟨_, rfl, hw⟩ (by decide) (by decide) dX10_pack_24
  · replace hw := hw.2 h_2
    refine lv_iconst (v := (-1 : Int32)) hx hb dX10_pack_8 (by decide) ?_
    exact pm_iret E hret hI hX ⟨_, rfl, hw⟩ (by decide) (by decide) dX10_pack_9
set_option maxHeartbeats 4000000 in
set_option maxRecDepth 100000 in
theorem c_X10_same_20 {p : Program} {l : Launch} {e : Env} {s : State} {m : MethodId} {args : Array Value} {below : List Frame} {meth : Method} {c : Code} {G : pm_G} {H0 : Heap} {Post : Int32 → Prop} {v0 : Nat} {v1 : Int32} {v2 : Int32} {M : pm_M} (E : pm_E G p s m args meth c cX10_same 4 RX10) (hret : meth.sig.returnType = (some .int)) : ∀ (n : Nat) (v3 : Int32) (H : Heap) (locs : List Loc) (ls : Array Slot), pm_I G H0 M H locs → (pm_is M v0 9) → lv_has ls 4 [(0, .ref (H0.size + v0)), (1, .int v1), (2, .int v2), (3, .int v3)] → w_X10_same_20 Post v0 v1 v2 M n v3 → W p l e rm_X10_same s m args below meth c H locs 0 0 (pm_Z G H0 M (pm_Pi (fun r9 M9 => M = M9 ∧ Post r9)) below args s rm_X10_same.cells rm_X10_same.slots) (F0 m 20 ls []) := by
  have hx := E.1
  have hb := E.2.1
  have hown := E.2.2.2.1
  have hts := E.2.2.2.2.1
  intro n
  induction n with
  | zero =>
    intro v3 H locs ls hI t_v0 hl hw
    unfold w_X10_same_20 at hw
    exact hw.elim
  | succ n ih =>
    intro v3 H locs ls hI t_v0 hl hw
    unfold w_X10_same_20 at hw
    refine lv_iload_n hx hb dX10_same_20 rfl (lv_at hl 3 rfl) ?_
    refine lv_aload_n hx hb dX10_same_21 rfl (lv_at hl 0 rfl) ?_
    refine gf_X10_13 E hI t_v0 dX10_same_22 ?_
    refine lv_icmp_gt (tgt := 51) hx hb dX10_same_25 (by decide) (fun h_1 => ?_) (fun h_1 => ?_)
    · replace hw := hw.1 h_1
      refine lv_iconst (v := (1 : Int32)) hx hb dX10_same_51 (by decide) ?_
      exact pm_iret E hret hI pm_X.rf ⟨_, rfl, rfl, hw⟩ (by decide) (by decide) dX10_same_52
    · replace hw := hw.2 h_1
      refine lv_aload_n hx hb dX10_same_28 rfl (lv_at hl 0 rfl) ?_
      refine lv_iload_n hx hb dX10_same_29 rfl (lv_at hl 1 rfl) ?_
      refine lv_iload_n hx hb dX10_same_30 rfl (lv_at hl 3 rfl) ?_
      refine pm_callV (As := [.int v1, .int v3]) (rest := []) 2 E hI (k_X10_isAllowed t_v0 hw) t_v0 (by decide) rfl kc_X10_isAllowed kl_X10_100 km_X10_isAllowed ks_X10_isAllowed ki_X10 (by decide +kernel) ⟨by decide, by decide⟩ rfl hl.1 rfl (by first | exact Nat.le_of_ble_eq_true rfl | (simp only [List.map, pm_rf_cat]; exact Nat.le_of_ble_eq_true rfl)) dX10_same_31 ⟨by decide, by decide⟩ (fun r9 M9 H locs hp hX1 hI => ?_)
      clear hw
      obtain ⟨r_2, rfl, rfl, hw⟩ := hp
      refine pm_nrm (cells' := 0) (slots' := 0) (g2 := F0 m 34 ls [.int r_2]) rfl rfl rfl ?_
      refine lv_aload_n hx hb dX10_same_34 rfl (lv_at hl 0 rfl) ?_
      refine lv_iload_n hx hb dX10_same_35 rfl (lv_at hl 2 rfl) ?_
      refine lv_iload_n hx hb dX10_same_36 rfl (lv_at hl 3 rfl) ?_
      refine pm_callV (As := [.int v2, .int v3]) (rest := [.int r_2]) 2 E hI (k_X10_isAllowed t_v0 hw) t_v0 (by decide) rfl kc_X10_isAllowed kl_X10_100 km_X10_isAllowed ks_X10_isAllowed ki_X10 (by decide +kernel) ⟨by decide, by decide⟩ rfl hl.1 rfl (by first | exact Nat.le_of_ble_eq_true rfl | (simp only [List.map, pm_rf_cat]; exact Nat.le_of_ble_eq_true rfl)) dX10_same_37 ⟨by decide, by decide⟩ (fun r9 M9 H locs hp hX1 hI => ?_)
      clear hw
      obtain ⟨r_3, rfl, rfl, hw⟩ := hp
      refine pm_nrm (cells' := 0) (slots' := 0) (g2 := F0 m 40 ls [.int r_3, .int r_2]) rfl rfl rfl ?_
      refine lv_icmp_eq (tgt := 45) hx hb dX10_same_40 (by decide) (fun h_4 => ?_) (fun h_4 => ?_)
      · replace hw := hw.1 h_4
        obtain ⟨x_5, e_x_5⟩ : ∃ z : Int32, z = v3 + (1 : Int32) := ⟨_, rfl⟩
        refine lv_iinc (v := x_5) (lv' := [(3, .int x_5), (0, .ref (H0.size + v0)), (1, .int v1), (2, .int v2)]) hx hb dX10_same_45 hl (k := 3) rfl (by rw [e_x_5]; rfl) (by decide) rfl (fun ls hl_6 => ?_)
        replace hw := hw x_5 e_x_5
        refine lv_goto (tgt := 20) hx hb dX10_same_48 (by decide) ?_
        exact ih _ _ _ _ hI t_v0 (lv_sub hl_6 [1, 2, 3, 0] rfl) hw
      · replace hw := hw.2 h_4
        refine lv_iconst (v := (0 : Int32)) hx hb dX10_same_43 (by decide) ?_
        exact pm_iret E hret hI pm_X.rf ⟨_, rfl, rfl, hw⟩ (by decide) (by decide) dX10_same_44
set_option maxHeartbeats 4000000 in
set_option maxRecDepth 100000 in
theorem c_X10_same_16 {p : Program} {l : Launch} {e : Env} {s : State} {m : MethodId} {args : Array Value} {below : List Frame} {meth : Method} {c : Code} {G : pm_G} {H0 : Heap} {Post : Int32 → Prop} {M : pm_M} (E : pm_E G p s m args meth c cX10_same 4 RX10) (hret : meth.sig.returnType = (some .int)) {H : Heap} {locs : List Loc} {ls : Array Slot} (hI : pm_I G H0 M H locs) (hl : lv_has ls 4 []) (hw : w_X10_same_16 Post M) : W p l e rm_X10_same s m args below meth c H locs 0 0 (pm_Z G H0 M (pm_Pi (fun r9 M9 => M = M9 ∧ Post r9)) below args s rm_X10_same.cells rm_X10_same.slots) (F0 m 16 ls []) := by
  have hx := E.1
  have hb := E.2.1
  have hown := E.2.2.2.1
  have hts := E.2.2.2.2.1
  unfold w_X10_same_16 at hw
  refine lv_iconst (v := (-1 : Int32)) hx hb dX10_same_16 (by decide) ?_
  exact pm_iret E hret hI pm_X.rf ⟨_, rfl, rfl, hw⟩ (by decide) (by decide) dX10_same_17
set_option maxHeartbeats 4000000 in
set_option maxRecDepth 100000 in
theorem k_X10_same {l : Launch} {G : pm_G} {H0 : Heap} {th : Nat} {a1 : Int32} {a2 : Int32} {M : pm_M} {Post : Int32 → Prop} (t_th : pm_is M th 9) (hw : w_X10_same th a1 a2 M Post) : pm_C l G H0 yX10_same cX10_same 4 (some .int) rm_X10_same [.ref (H0.size + th), .int a1, .int a2] M (pm_Pi (fun r9 M9 => M = M9 ∧ Post r9)) := by
  refine pm_start (by decide +kernel) (Nat.le_of_ble_eq_true rfl) ?_
  intro p e s m args below meth c H ls E hret hnm hI hl
  have hl : lv_has ls 4 [(0, .ref (H0.size + th)), (1, .int a1), (2, .int a2)] := hl
  have hx := E.1
  have hb := E.2.1
  have hown := E.2.2.2.1
  have hts := E.2.2.2.2.1
  unfold w_X10_same at hw
  refine lv_aload_n hx hb dX10_same_0 rfl (lv_at hl 0 rfl) ?_
  refine lv_iload_n hx hb dX10_same_1 rfl (lv_at hl 1 rfl) ?_
  refine pm_callV (As := [.int a1]) (rest := []) 1 E hI (k_X10_isRule t_th hw) t_th (by decide) rfl kc_X10_isRule kl_X10_191 km_X10_isRule ks_X10_isRule ki_X10 (by decide +kernel) ⟨by decide, by decide⟩ rfl hl.1 rfl (by first | exact Nat.le_of_ble_eq_true rfl | (simp only [List.map, pm_rf_cat]; exact Nat.le_of_ble_eq_true rfl)) dX10_same_2 ⟨by decide, by decide⟩ (fun r9 M9 H locs hp hX1 hI => ?_)
  clear hw
  obtain ⟨r_1, rfl, rfl, hw⟩ := hp
  refine pm_nrm (cells' := 0) (slots' := 0) (g2 := F0 m 5 ls [.int r_1]) rfl rfl rfl ?_
  refine lv_if_eq (tgt := 16) hx hb dX10_same_5 (by decide) (fun h_2 => ?_) (fun h_2 => ?_)
  · replace hw := hw.1 h_2
    exact c_X10_same_16 E hret hI (lv_sub hl [] rfl) hw
  · replace hw := hw.2 h_2
    refine lv_aload_n hx hb dX10_same_8 rfl (lv_at hl 0 rfl) ?_
    refine lv_iload_n hx hb dX10_same_9 rfl (lv_at hl 2 rfl) ?_
    refine pm_callV (As := [.int a2]) (rest := []) 1 E hI (k_X10_isRule t_th hw) t_th (by decide) rfl kc_X10_isRule kl_X10_191 km_X10_isRule ks_X10_isRule ki_X10 (by decide +kernel) ⟨by decide, by decide⟩ rfl hl.1 rfl (by first | exact Nat.le_of_ble_eq_true rfl | (simp only [List.map, pm_rf_cat]; exact Nat.le_of_ble_eq_true rfl)) dX10_same_10 ⟨by decide, by decide⟩ (fun r9 M9 H locs hp hX1 hI => ?_)
    clear hw
    obtain ⟨r_3, rfl, rfl, hw⟩ := hp
    refine pm_nrm (cells' := 0) (slots' := 0) (g2 := F0 m 13 ls [.int r_3]) rfl rfl rfl ?_
    refine lv_if_ne (tgt := 18) hx hb dX10_same_13 (by decide) (fun h_4 => ?_) (fun h_4 => ?_)
    · replace hw := hw.1 h_4
      refine lv_iconst (v := (0 : Int32)) hx hb dX10_same_18 (by decide) ?_
      refine lv_istore_n (lv' := [(3, .int (0 : Int32)), (0, .ref (H0.size + th)), (1, .int a1), (2, .int a2)]) hx hb dX10_same_19 rfl hl (by decide) rfl (fun ls hl_5 => ?_)
      obtain ⟨n_6, hw⟩ := hw
      exact c_X10_same_20 E hret n_6 _ _ _ _ hI t_th (lv_sub hl_5 [1, 2, 3, 0] rfl) hw
    · replace hw := hw.2 h_4
      exact c_X10_same_16 E hret hI (lv_sub hl [] rfl) hw
set_option maxHeartbeats 4000000 in
set_option maxRecDepth 100000 in
theorem c_X10_count_67 {p : Program} {l : Launch} {e : Env} {s : State} {m : MethodId} {args : Array Value} {below : List Frame} {meth : Method} {c : Code} {G : pm_G} {H0 : Heap} {Post : Int32 → Prop} {v0 : Nat} {v3 : Int32} {s0 : Int32} {s1 : Int32} {M : pm_M} {k_46 : Int32 → Int32 → Prop} (E : pm_E G p s m args meth c cX10_count 4 RX10) (hret : meth.sig.returnType = (some .int)) (hk_46 : ∀ (v2 : Int32) (v3 : Int32) (H : Heap) (locs : List Loc) (ls : Array Slot), pm_I G H0 M H locs → (pm_is M v0 9) → lv_has ls 4 [(0, .ref (H0.size + v0)), (2, .int v2), (3, .int v3)] → k_46 v2 v3 → W p l e rm_X10_count s m args below meth c H locs 0 0 (pm_Z G H0 M (pm_Pi (fun r9 M9 => M = M9 ∧ Post r9)) below args s rm_X10_count.cells rm_X10_count.slots) (F0 m 46 ls [])) {H : Heap} {locs : List Loc} {ls : Array Slot} (hI : pm_I G H0 M H locs) (t_v0 : pm_is M v0 9) (hl : lv_has ls 4 [(0, .ref (H0.size + v0)), (3, .int v3)]) (hw : w_X10_count_67 Post k_46 v0 v3 s0 s1 M) : W p l e rm_X10_count s m args below meth c H locs 0 0 (pm_Z G H0 M (pm_Pi (fun r9 M9 => M = M9 ∧ Post r9)) below args s rm_X10_count.cells rm_X10_count.slots) (F0 m 67 ls [.int s1, .int s0]) := by
  have hx := E.1
  have hb := E.2.1
  have hown := E.2.2.2.1
  have hts := E.2.2.2.2.1
  unfold w_X10_count_67 at hw
  refine lv_iadd hx hb dX10_count_67 ?_
  refine lv_topi (fun x_1 e_x_1 => ?_)
  replace hw := hw x_1 e_x_1
  refine lv_istore_n (lv' := [(2, .int x_1), (0, .ref (H0.size + v0)), (3, .int v3)]) hx hb dX10_count_68 rfl hl (by decide) rfl (fun ls hl_2 => ?_)
  obtain ⟨x_3, e_x_3⟩ : ∃ z : Int32, z = v3 + (1 : Int32) := ⟨_, rfl⟩
  refine lv_iinc (v := x_3) (lv' := [(3, .int x_3), (2, .int x_1), (0, .ref (H0.size + v0))]) hx hb dX10_count_69 hl_2 (k := 2) rfl (by rw [e_x_3]; rfl) (by decide) rfl (fun ls hl_4 => ?_)
  replace hw := hw x_3 e_x_3
  refine lv_goto (tgt := 46) hx hb dX10_count_72 (by decide) ?_
  exact hk_46 _ _ _ _ _ hI t_v0 (lv_sub hl_4 [2, 1, 0] rfl) hw
set_option maxHeartbeats 4000000 in
set_option maxRecDepth 100000 in
theorem c_X10_count_46 {p : Program} {l : Launch} {e : Env} {s : State} {m : MethodId} {args : Array Value} {below : List Frame} {meth : Method} {c : Code} {G : pm_G} {H0 : Heap} {Post : Int32 → Prop} {v0 : Nat} {M : pm_M} (E : pm_E G p s m args meth c cX10_count 4 RX10) (hret : meth.sig.returnType = (some .int)) : ∀ (n : Nat) (v2 : Int32) (v3 : Int32) (H : Heap) (locs : List Loc) (ls : Array Slot), pm_I G H0 M H locs → (pm_is M v0 9) → lv_has ls 4 [(0, .ref (H0.size + v0)), (2, .int v2), (3, .int v3)] → w_X10_count_46 Post v0 M n v2 v3 → W p l e rm_X10_count s m args below meth c H locs 0 0 (pm_Z G H0 M (pm_Pi (fun r9 M9 => M = M9 ∧ Post r9)) below args s rm_X10_count.cells rm_X10_count.slots) (F0 m 46 ls []) := by
  have hx := E.1
  have hb := E.2.1
  have hown := E.2.2.2.1
  have hts := E.2.2.2.2.1
  intro n
  induction n with
  | zero =>
    intro v2 v3 H locs ls hI t_v0 hl hw
    unfold w_X10_count_46 at hw
    exact hw.elim
  | succ n ih =>
    intro v2 v3 H locs ls hI t_v0 hl hw
    unfold w_X10_count_46 at hw
    refine lv_iload_n hx hb dX10_count_46 rfl (lv_at hl 2 rfl) ?_
    refine lv_bipush (v := (10 : Int32)) hx hb dX10_count_47 (by decide) ?_
    refine lv_icmp_ge (tgt := 75) hx hb dX10_count_49 (by decide) (fun h_1 => ?_) (fun h_1 => ?_)
    · replace hw := hw.1 h_1
      refine lv_iload_n hx hb dX10_count_75 rfl (lv_at hl 1 rfl) ?_
      exact pm_iret E hret hI pm_X.rf ⟨_, rfl, rfl, hw⟩ (by decide) (by decide) dX10_count_76
    · replace hw := hw.2 h_1
      refine lv_iload_n hx hb dX10_count_52 rfl (lv_at hl 1 rfl) ?_
      refine lv_aload_n hx hb dX10_count_53 rfl (lv_at hl 0 rfl) ?_
      obtain ⟨q_2, e_q_2, hw⟩ := hw
      refine gf_X10_44 E hI t_v0 dX10_count_54 e_q_2 (fun t_q_2 => ?_)
      refine lv_iload_n hx hb dX10_count_57 rfl (lv_at hl 2 rfl) ?_
      obtain ⟨h_3, hw⟩ := hw
      refine pm_iald E hI t_q_2 h_3 dX10_count_58 ?_
      refine lv_if_ne (tgt := 66) hx hb dX10_count_59 (by decide) (fun h_4 => ?_) (fun h_4 => ?_)
      · replace hw := hw.1 h_4
        refine lv_iconst (v := (1 : Int32)) hx hb dX10_count_66 (by decide) ?_
        exact c_X10_count_67 E hret ih hI t_v0 (lv_sub hl [0, 2] rfl) hw
      · replace hw := hw.2 h_4
        refine lv_iconst (v := (0 : Int32)) hx hb dX10_count_62 (by decide) ?_
        refine lv_goto (tgt := 67) hx hb dX10_count_63 (by decide) ?_
        exact c_X10_count_67 E hret ih hI t_v0 (lv_sub hl [0, 2] rfl) hw
set_option maxHeartbeats 4000000 in
set_option maxRecDepth 100000 in
theorem k_X10_count {l : Launch} {G : pm_G} {H0 : Heap} {th : Nat} {a1 : Int32} {M : pm_M} {Post : Int32 → Prop} (t_th : pm_is M th 9) (hw : w_X10_count th a1 M Post) : pm_C l G H0 yX10_count cX10_count 4 (some .int) rm_X10_count [.ref (H0.size + th), .int a1] M (pm_Pi (fun r9 M9 => M = M9 ∧ Post r9)) := by
  refine pm_start (by decide +kernel) (Nat.le_of_ble_eq_true rfl) ?_
  intro p e s m args below meth c H ls E hret hnm hI hl
  have hl : lv_has ls 4 [(0, .ref (H0.size + th)), (1, .int a1)] := hl
  have hx := E.1
  have hb := E.2.1
  have hown := E.2.2.2.1
  have hts := E.2.2.2.2.1
  unfold w_X10_count at hw
  refine lv_iload_n hx hb dX10_count_0 rfl (lv_at hl 1 rfl) ?_
  refine pm_cases (x := a1) 0 4 (fun j hj h9 => ?_) (fun h9 => ?_)
  · match j, hj, h9 with
    | 0, hj, h9 =>
      refine lv_tableIn (tgt := 32) hx hb dX10_count_1 (by rw [h9]; decide) (by rw [h9]; decide) (by rw [h9]; rfl) (by decide) ?_
      replace hw := hw.1 h9
      refine lv_aload_n hx hb dX10_count_32 rfl (lv_at hl 0 rfl) ?_
      refine gf_X10_7 E hI t_th dX10_count_33 ?_
      exact pm_iret E hret hI pm_X.rf ⟨_, rfl, rfl, hw⟩ (by decide) (by decide) dX10_count_36
    | 1, hj, h9 =>
      refine lv_tableIn (tgt := 37) hx hb dX10_count_1 (by rw [h9]; decide) (by rw [h9]; decide) (by rw [h9]; rfl) (by decide) ?_
      replace hw := hw.2.1 h9
      refine lv_aload_n hx hb dX10_count_37 rfl (lv_at hl 0 rfl) ?_
      refine gf_X10_85 E hI t_th dX10_count_38 ?_
      exact pm_iret E hret hI pm_X.rf ⟨_, rfl, rfl, hw⟩ (by decide) (by decide) dX10_count_41
    | 2, hj, h9 =>
      refine lv_tableIn (tgt := 42) hx hb dX10_count_1 (by rw [h9]; decide) (by rw [h9]; decide) (by rw [h9]; rfl) (by decide) ?_
      replace hw := hw.2.2.1 h9
      refine lv_iconst (v := (0 : Int32)) hx hb dX10_count_42 (by decide) ?_
      refine lv_istore_n (lv' := [(2, .int (0 : Int32)), (0, .ref (H0.size + th)), (1, .int a1)]) hx hb dX10_count_43 rfl hl (by decide) rfl (fun ls hl_1 => ?_)
      refine lv_iconst (v := (0 : Int32)) hx hb dX10_count_44 (by decide) ?_
      refine lv_istore_n (lv' := [(3, .int (0 : Int32)), (2, .int (0 : Int32)), (0, .ref (H0.size + th)), (1, .int a1)]) hx hb dX10_count_45 rfl hl_1 (by decide) rfl (fun ls hl_2 => ?_)
      obtain ⟨n_3, hw⟩ := hw
      exact c_X10_count_46 E hret n_3 _ _ _ _ _ hI t_th (lv_sub hl_2 [2, 1, 0] rfl) hw
    | 3, hj, h9 =>
      refine lv_tableIn (tgt := 77) hx hb dX10_count_1 (by rw [h9]; decide) (by rw [h9]; decide) (by rw [h9]; rfl) (by decide) ?_
      replace hw := hw.2.2.2.1 h9
      refine lv_aload_n hx hb dX10_count_77 rfl (lv_at hl 0 rfl) ?_
      refine lv_aload_n hx hb dX10_count_78 rfl (lv_at hl 0 rfl) ?_
      refine gf_X10_13 E hI t_th dX10_count_79 ?_
      refine pm_callV (As := [.int (mI M th 1)]) (rest := []) 1 E hI (k_X10_weightOf t_th hw) t_th (by decide) rfl kc_X10_weightOf kl_X10_204 km_X10_weightOf ks_X10_weightOf ki_X10 (by decide +kernel) ⟨by decide, by decide⟩ rfl hl.1 rfl (by first | exact Nat.le_of_ble_eq_true rfl | (simp only [List.map, pm_rf_cat]; exact Nat.le_of_ble_eq_true rfl)) dX10_count_82 ⟨by decide, by decide⟩ (fun r9 M9 H locs hp hX1 hI => ?_)
      clear hw
      obtain ⟨r_4, rfl, rfl, hw⟩ := hp
      refine pm_nrm (cells' := 0) (slots' := 0) (g2 := F0 m 85 ls [.int r_4]) rfl rfl rfl ?_
      exact pm_iret E hret hI pm_X.rf ⟨_, rfl, rfl, hw⟩ (by decide) (by decide) dX10_count_85
    | (j + 4), hj, h9 => exact absurd hj (by omega)
  · refine lv_tableOut (tgt := 86) hx hb dX10_count_1 (pm_out h9) (by decide) ?_
    replace hw := hw.2.2.2.2 h9
    refine lv_iconst (v := (-1 : Int32)) hx hb dX10_count_86 (by decide) ?_
    exact pm_iret E hret hI pm_X.rf ⟨_, rfl, rfl, hw⟩ (by decide) (by decide) dX10_count_87
