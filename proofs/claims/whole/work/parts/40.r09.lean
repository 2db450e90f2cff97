set_option maxHeartbeats 4000000 in
set_option maxRecDepth 100000 in
theorem k_X10_table {l : Launch} {G : pm_G} {H0 : Heap} {th : Nat} {a1 : Int32} {a2 : Int32} {M : pm_M} {Post : pm_M → Prop} (t_th : pm_is M th 9) (hw : w_X10_table th a1 a2 M Post) : pm_C l G H0 yX10_table cX10_table 3 none rm_X10_table [.ref (H0.size + th), .int a1, .int a2] M (pm_Pv Post) := by
  refine pm_start (by decide +kernel) (Nat.le_of_ble_eq_true rfl) ?_
  intro p e s m args below meth c H ls E hret hnm hI hl
  have hX : pm_X M M := pm_X.rf
  have hl : lv_has ls 3 [(0, .ref (H0.size + th)), (1, .int a1), (2, .int a2)] := hl
  have hx := E.1
  have hb := E.2.1
  have hown := E.2.2.2.1
  have hts := E.2.2.2.2.1
  unfold w_X10_table at hw
  refine lv_aload_n hx hb dX10_table_0 rfl (lv_at hl 0 rfl) ?_
  obtain ⟨q_1, e_q_1, hw⟩ := hw
  refine gf_X10_21 E hI t_th dX10_table_1 e_q_1 (fun t_q_1 => ?_)
  refine lv_sipush (v := (4096 : Int32)) hx hb dX10_table_4 (by decide) ?_
  refine lv_aload_n hx hb dX10_table_7 rfl (lv_at hl 0 rfl) ?_
  refine gf_X10_85 E hI t_th dX10_table_8 ?_
  refine lv_imul hx hb dX10_table_11 ?_
  refine lv_iload_n hx hb dX10_table_12 rfl (lv_at hl 1 rfl) ?_
  refine lv_iadd hx hb dX10_table_13 ?_
  refine lv_iload_n hx hb dX10_table_14 rfl (lv_at hl 2 rfl) ?_
  obtain ⟨h_2, hw⟩ := hw
  refine ps_zast E hI t_q_1 h_2 dX10_table_15 (fun H locs M_3 e_M_3 hX1 hI => ?_)
  replace hw := hw M_3 e_M_3
  replace t_th := t_th.x hX1
  replace hX := hX.tr hX1
  exact pm_vret E hret hI hX ⟨rfl, hw⟩ (by decide) (by decide) dX10_table_16
set_option maxHeartbeats 4000000 in
set_option maxRecDepth 100000 in
theorem c_X10_less_50 {p : Program} {l : Launch} {e : Env} {s : State} {m : MethodId} {args : Array Value} {below : List Frame} {meth : Method} {c : Code} {G : pm_G} {H0 : Heap} {M0 : pm_M} {Post : Int32 → pm_M → Prop} {v0 : Nat} {v1 : Int32} {v2 : Int32} {v4 : Int32} {s0 : Nat} {s1 : Int32} {s2 : Int32} {M : pm_M} {k_16 : Int32 → pm_M → Prop} (E : pm_E G p s m args meth c cX10_less 5 RX10) (hret : meth.sig.returnType = (some .int)) (hk_16 : ∀ (v4 : Int32) (M : pm_M) (H : Heap) (locs : List Loc) (ls : Array Slot), pm_X M0 M → pm_I G H0 M H locs → (pm_is M v0 9) → lv_has ls 5 [(0, .ref (H0.size + v0)), (1, .int v1), (2, .int v2), (4, .int v4)] → k_16 v4 M → W p l e rm_X10_less s m args below meth c H locs 0 0 (pm_Z G H0 M0 (pm_Pi Post) below args s rm_X10_less.cells rm_X10_less.slots) (F0 m 16 ls [])) {H : Heap} {locs : List Loc} {ls : Array Slot} (hX : pm_X M0 M) (hI : pm_I G H0 M H locs) (t_v0 : pm_is M v0 9) (t_s0 : pm_is M s0 9) (hl : lv_has ls 5 [(0, .ref (H0.size + v0)), (1, .int v1), (2, .int v2), (4, .int v4)]) (hw : w_X10_less_50 Post k_16 v0 v1 v2 v4 s0 s1 s2 M) : W p l e rm_X10_less s m args below meth c H locs 0 0 (pm_Z G H0 M0 (pm_Pi Post) below args s rm_X10_less.cells rm_X10_less.slots) (F0 m 50 ls [.int s2, .int s1, .ref (H0.size + s0)]) := by
  have hx := E.1
  have hb := E.2.1
  have hown := E.2.2.2.1
  have hts := E.2.2.2.2.1
  unfold w_X10_less_50 at hw
  refine pm_callV (As := [.int s1, .int s2]) (rest := []) 2 E hI (k_X10_table t_s0 hw) t_s0 (by decide) rfl kc_X10_table kl_X10_200 km_X10_table ks_X10_table ki_X10 (by decide +kernel) ⟨by decide, by decide⟩ rfl hl.1 rfl (by first | exact Nat.le_of_ble_eq_true rfl | (simp only [List.map, pm_rf_cat]; exact Nat.le_of_ble_eq_true rfl)) dX10_less_50 ⟨by decide, by decide⟩ (fun r9 M_1 H locs hp hX1 hI => ?_)
  clear hw
  obtain ⟨rfl, hw⟩ := hp
  replace t_v0 := t_v0.x hX1
  replace hX := hX.tr hX1
  refine pm_nrm (cells' := 0) (slots' := 0) (g2 := F0 m 53 ls []) rfl rfl rfl ?_
  obtain ⟨x_2, e_x_2⟩ : ∃ z : Int32, z = v4 + (1 : Int32) := ⟨_, rfl⟩
  refine lv_iinc (v := x_2) (lv' := [(4, .int x_2), (0, .ref (H0.size + v0)), (1, .int v1), (2, .int v2)]) hx hb dX10_less_53 hl (k := 3) rfl (by rw [e_x_2]; rfl) (by decide) rfl (fun ls hl_3 => ?_)
  replace hw := hw x_2 e_x_2
  refine lv_goto (tgt := 16) hx hb dX10_less_56 (by decide) ?_
  exact hk_16 _ _ _ _ _ hX hI t_v0 (lv_sub hl_3 [1, 2, 3, 0] rfl) hw
set_option maxHeartbeats 4000000 in
set_option maxRecDepth 100000 in
theorem c_X10_less_49 {p : Program} {l : Launch} {e : Env} {s : State} {m : MethodId} {args : Array Value} {below : List Frame} {meth : Method} {c : Code} {G : pm_G} {H0 : Heap} {M0 : pm_M} {Post : Int32 → pm_M → Prop} {v0 : Nat} {v1 : Int32} {v2 : Int32} {v4 : Int32} {s0 : Nat} {s1 : Int32} {M : pm_M} {k_16 : Int32 → pm_M → Prop} (E : pm_E G p s m args meth c cX10_less 5 RX10) (hret : meth.sig.returnType = (some .int)) (hk_16 : ∀ (v4 : Int32) (M : pm_M) (H : Heap) (locs : List Loc) (ls : Array Slot), pm_X M0 M → pm_I G H0 M H locs → (pm_is M v0 9) → lv_has ls 5 [(0, .ref (H0.size + v0)), (1, .int v1), (2, .int v2), (4, .int v4)] → k_16 v4 M → W p l e rm_X10_less s m args below meth c H locs 0 0 (pm_Z G H0 M0 (pm_Pi Post) below args s rm_X10_less.cells rm_X10_less.slots) (F0 m 16 ls [])) {H : Heap} {locs : List Loc} {ls : Array Slot} (hX : pm_X M0 M) (hI : pm_I G H0 M H locs) (t_v0 : pm_is M v0 9) (t_s0 : pm_is M s0 9) (hl : lv_has ls 5 [(0, .ref (H0.size + v0)), (1, .int v1), (2, .int v2), (4, .int v4)]) (hw : w_X10_less_49 Post k_16 v0 v1 v2 v4 s0 s1 M) : W p l e rm_X10_less s m args below meth c H locs 0 0 (pm_Z G H0 M0 (pm_Pi Post) below args s rm_X10_less.cells rm_X10_less.slots) (F0 m 49 ls [.int s1, .ref (H0.size + s0)]) := by
  have hx := E.1
  have hb := E.2.1
  have hown := E.2.2.2.1
  have hts := E.2.2.2.2.1
  unfold w_X10_less_49 at hw
  refine lv_iconst (v := (0 : Int32)) hx hb dX10_less_49 (by decide) ?_
  exact c_X10_less_50 E hret hk_16 hX hI t_v0 t_s0 (lv_sub hl [0, 1, 2, 3] rfl) hw
set_option maxHeartbeats 4000000 in
set_option maxRecDepth 100000 in
theorem c_X10_less_16 {p : Program} {l : Launch} {e : Env} {s : State} {m : MethodId} {args : Array Value} {below : List Frame} {meth : Method} {c : Code} {G : pm_G} {H0 : Heap} {M0 : pm_M} {Post : Int32 → pm_M → Prop} {v0 : Nat} {v1 : Int32} {v2 : Int32} (E : pm_E G p s m args meth c cX10_less 5 RX10) (hret : meth.sig.returnType = (some .int)) : ∀ (n : Nat) (v4 : Int32) (M : pm_M) (H : Heap) (locs : List Loc) (ls : Array Slot), pm_X M0 M → pm_I G H0 M H locs → (pm_is M v0 9) → lv_has ls 5 [(0, .ref (H0.size + v0)), (1, .int v1), (2, .int v2), (4, .int v4)] → w_X10_less_16 Post v0 v1 v2 n v4 M → W p l e rm_X10_less s m args below meth c H locs 0 0 (pm_Z G H0 M0 (pm_Pi Post) below args s rm_X10_less.cells rm_X10_less.slots) (F0 m 16 ls []) := by
  have hx := E.1
  have hb := E.2.1
  have hown := E.2.2.2.1
  have hts := E.2.2.2.2.1
  intro n
  induction n with
  | zero =>
    intro v4 M H locs ls hX hI t_v0 hl hw
    unfold w_X10_less_16 at hw
    exact hw.elim
  | succ n ih =>
    intro v4 M H locs ls hX hI t_v0 hl hw
    unfold w_X10_less_16 at hw
    refine lv_iload hx hb dX10_less_16 (lv_at hl 3 rfl) ?_
    refine lv_aload_n hx hb dX10_less_18 rfl (lv_at hl 0 rfl) ?_
    refine gf_X10_13 E hI t_v0 dX10_less_19 ?_
    refine lv_icmp_gt (tgt := 59) hx hb dX10_less_22 (by decide) (fun h_1 => ?_) (fun h_1 => ?_)
    · replace hw := hw.1 h_1
      refine lv_aload_n hx hb dX10_less_59 rfl (lv_at hl 0 rfl) ?_
      refine lv_bipush (v := (7 : Int32)) hx hb dX10_less_60 (by decide) ?_
      refine lv_iload_n hx hb dX10_less_62 rfl (lv_at hl 1 rfl) ?_
      refine lv_iconst (v := (-1 : Int32)) hx hb dX10_less_63 (by decide) ?_
      refine lv_aload_n hx hb dX10_less_64 rfl (lv_at hl 0 rfl) ?_
      obtain ⟨q_2, e_q_2, hw⟩ := hw
      refine gf_X10_38 E hI t_v0 dX10_less_65 e_q_2 (fun t_q_2 => ?_)
      refine lv_iload_n hx hb dX10_less_68 rfl (lv_at hl 1 rfl) ?_
      obtain ⟨h_3, hw⟩ := hw
      refine pm_iald E hI t_q_2 h_3 dX10_less_69 ?_
      refine lv_iconst (v := (1 : Int32)) hx hb dX10_less_70 (by decide) ?_
      refine lv_iadd hx hb dX10_less_71 ?_
      refine pm_callV (As := [.int (7 : Int32), .int v1, .int (-1 : Int32), .int ((mI M q_2 v1.toNatClampNeg) + (1 : Int32))]) (rest := []) 4 E hI (k_X10_made t_v0 hw) t_v0 (by decide) rfl kc_X10_made kl_X10_146 km_X10_made ks_X10_made ki_X10 (by decide +kernel) ⟨by decide, by decide⟩ rfl hl.1 rfl (by first | exact Nat.le_of_ble_eq_true rfl | (simp only [List.map, pm_rf_cat]; exact Nat.le_of_ble_eq_true rfl)) dX10_less_72 ⟨by decide, by decide⟩ (fun r9 M_4 H locs hp hX1 hI => ?_)
      clear hw
      obtain ⟨r_5, rfl, hw⟩ := hp
      replace t_v0 := t_v0.x hX1
      replace hX := hX.tr hX1
      refine pm_nrm (cells' := 0) (slots' := 0) (g2 := F0 m 75 ls [.int r_5]) rfl rfl rfl ?_
      exact pm_iret E hret hI hX ⟨_, rfl, hw⟩ (by decide) (by decide) dX10_less_75
    · replace hw := hw.2 h_1
      refine lv_aload_n hx hb dX10_less_25 rfl (lv_at hl 0 rfl) ?_
      refine lv_iload hx hb dX10_less_26 (lv_at hl 3 rfl) ?_
      refine lv_iload hx hb dX10_less_28 (lv_at hl 3 rfl) ?_
      refine lv_iload_n hx hb dX10_less_30 rfl (lv_at hl 2 rfl) ?_
      refine lv_iand hx hb dX10_less_31 ?_
      refine lv_if_ne (tgt := 49) hx hb dX10_less_32 (by decide) (fun h_6 => ?_) (fun h_6 => ?_)
      · replace hw := hw.1 h_6
        exact c_X10_less_49 E hret ih hX hI t_v0 t_v0 (lv_sub hl [0, 1, 2, 3] rfl) hw
      · replace hw := hw.2 h_6
        refine lv_aload_n hx hb dX10_less_35 rfl (lv_at hl 0 rfl) ?_
        refine lv_iload_n hx hb dX10_less_36 rfl (lv_at hl 1 rfl) ?_
        refine lv_iload hx hb dX10_less_37 (lv_at hl 3 rfl) ?_
        refine pm_callV (As := [.int v1, .int v4]) (rest := [.int v4, .ref (H0.size + v0)]) 2 E hI (k_X10_isAllowed t_v0 hw) t_v0 (by decide) rfl kc_X10_isAllowed kl_X10_100 km_X10_isAllowed ks_X10_isAllowed ki_X10 (by decide +kernel) ⟨by decide, by decide⟩ rfl hl.1 rfl (by first | exact Nat.le_of_ble_eq_true rfl | (simp only [List.map, pm_rf_cat]; exact Nat.le_of_ble_eq_true rfl)) dX10_less_39 ⟨by decide, by decide⟩ (fun r9 M9 H locs hp hX1 hI => ?_)
        clear hw
        obtain ⟨r_7, rfl, rfl, hw⟩ := hp
        refine pm_nrm (cells' := 0) (slots' := 0) (g2 := F0 m 42 ls [.int r_7, .int v4, .ref (H0.size + v0)]) rfl rfl rfl ?_
        refine lv_if_eq (tgt := 49) hx hb dX10_less_42 (by decide) (fun h_8 => ?_) (fun h_8 => ?_)
        · replace hw := hw.1 h_8
          exact c_X10_less_49 E hret ih hX hI t_v0 t_v0 (lv_sub hl [0, 1, 2, 3] rfl) hw
        · replace hw := hw.2 h_8
          refine lv_iconst (v := (1 : Int32)) hx hb dX10_less_45 (by decide) ?_
          refine lv_goto (tgt := 50) hx hb dX10_less_46 (by decide) ?_
          exact c_X10_less_50 E hret ih hX hI t_v0 t_v0 (lv_sub hl [0, 1, 2, 3] rfl) hw
set_option maxHeartbeats 4000000 in
set_option maxRecDepth 100000 in
theorem k_X10_less {l : Launch} {G : pm_G} {H0 : Heap} {th : Nat} {a1 : Int32} {a2 : Int32} {M : pm_M} {Post : Int32 → pm_M → Prop} (t_th : pm_is M th 9) (hw : w_X10_less th a1 a2 M Post) : pm_C l G H0 yX10_less cX10_less 5 (some .int) rm_X10_less [.ref (H0.size + th), .int a1, .int a2] M (pm_Pi Post) := by
  refine pm_start (by decide +kernel) (Nat.le_of_ble_eq_true rfl) ?_
  intro p e s m args below meth c H ls E hret hnm hI hl
  have hX : pm_X M M := pm_X.rf
  have hl : lv_has ls 5 [(0, .ref (H0.size + th)), (1, .int a1), (2, .int a2)] := hl
  have hx := E.1
  have hb := E.2.1
  have hown := E.2.2.2.1
  have hts := E.2.2.2.2.1
  unfold w_X10_less at hw
  refine lv_aload_n hx hb dX10_less_0 rfl (lv_at hl 0 rfl) ?_
  refine lv_iload_n hx hb dX10_less_1 rfl (lv_at hl 1 rfl) ?_
  refine lv_iload_n hx hb dX10_less_2 rfl (lv_at hl 2 rfl) ?_
  refine pm_callV (As := [.int a1, .int a2]) (rest := []) 2 E hI (k_X10_refused t_th hw) t_th (by decide) rfl kc_X10_refused kl_X10_197 km_X10_refused ks_X10_refused ki_X10 (by decide +kernel) ⟨by decide, by decide⟩ rfl hl.1 rfl (by first | exact Nat.le_of_ble_eq_true rfl | (simp only [List.map, pm_rf_cat]; exact Nat.le_of_ble_eq_true rfl)) dX10_less_3 ⟨by decide, by decide⟩ (fun r9 M9 H locs hp hX1 hI => ?_)
  clear hw
  obtain ⟨r_1, rfl, rfl, hw⟩ := hp
  refine pm_nrm (cells' := 0) (slots' := 0) (g2 := F0 m 6 ls [.int r_1]) rfl rfl rfl ?_
  refine lv_istore_n (lv' := [(3, .int r_1), (0, .ref (H0.size + th)), (1, .int a1), (2, .int a2)]) hx hb dX10_less_6 rfl hl (by decide) rfl (fun ls hl_2 => ?_)
  refine lv_iload_n hx hb dX10_less_7 rfl (lv_at hl_2 0 rfl) ?_
  refine lv_if_eq (tgt := 13) hx hb dX10_less_8 (by decide) (fun h_3 => ?_) (fun h_3 => ?_)
  · replace hw := hw.1 h_3
    refine lv_iconst (v := (0 : Int32)) hx hb dX10_less_13 (by decide) ?_
    refine lv_istore (lv' := [(4, .int (0 : Int32)), (3, .int r_1), (0, .ref (H0.size + th)), (1, .int a1), (2, .int a2)]) hx hb dX10_less_14 hl_2 (by decide) rfl (fun ls hl_4 => ?_)
    obtain ⟨n_5, hw⟩ := hw
    exact c_X10_less_16 E hret n_5 _ _ _ _ _ hX hI t_th (lv_sub hl_4 [2, 3, 4, 0] rfl) hw
  · replace hw := hw.2 h_3
    refine lv_iload_n hx hb dX10_less_11 rfl (lv_at hl_2 0 rfl) ?_
    exact pm_iret E hret hI hX ⟨_, rfl, hw⟩ (by decide) (by decide) dX10_less_12
set_option maxHeartbeats 4000000 in
set_option maxRecDepth 100000 in
theorem c_X10_take_64 {p : Program} {l : Launch} {e : Env} {s : State} {m : MethodId} {args : Array Value} {below : List Frame} {meth : Method} {c : Code} {G : pm_G} {H0 : Heap} {M0 : pm_M} {Post : Int32 → pm_M → Prop} {v0 : Nat} {v1 : Int32} {v2 : Int32} {v4 : Int32} {s0 : Nat} {s1 : Int32} {s2 : Int32} {M : pm_M} {k_16 : Int32 → pm_M → Prop} (E : pm_E G p s m args meth c cX10_take 5 RX10) (hret : meth.sig.returnType = (some .int)) (hk_16 : ∀ (v4 : Int32) (M : pm_M) (H : Heap) (locs : List Loc) (ls : Array Slot), pm_X M0 M → pm_I G H0 M H locs → (pm_is M v0 9) → lv_has ls 5 [(0, .ref (H0.size + v0)), (1, .int v1), (2, .int v2), (4, .int v4)] → k_16 v4 M → W p l e rm_X10_take s m args below meth c H locs 0 0 (pm_Z G H0 M0 (pm_Pi Post) below args s rm_X10_take.cells rm_X10_take.slots) (F0 m 16 ls [])) {H : Heap} {locs : List Loc} {ls : Array Slot} (hX : pm_X M0 M) (hI : pm_I G H0 M H locs) (t_v0 : pm_is M v0 9) (t_s0 : pm_is M s0 9) (hl : lv_has ls 5 [(0, .ref (H0.size + v0)), (1, .int v1), (2, .int v2), (4, .int v4)]) (hw : w_X10_take_64 Post k_16 v0 v1 v2 v4 s0 s1 s2 M) : W p l e rm_X10_take s m args below meth c H locs 0 0 (pm_Z G H0 M0 (pm_Pi Post) below args s rm_X10_take.cells rm_X10_take.slots) (F0 m 64 ls [.int s2, .int s1, .ref (H0.size + s0)]) := by
  have hx := E.1
  have hb := E.2.1
  have hown := E.2.2.2.1
  have hts := E.2.2.2.2.1
  unfold w_X10_take_64 at hw
  refine pm_callV (As := [.int s1, .int s2]) (rest := []) 2 E hI (k_X10_table t_s0 hw) t_s0 (by decide) rfl kc_X10_table kl_X10_200 km_X10_table ks_X10_table ki_X10 (by decide +kernel) ⟨by decide, by decide⟩ rfl hl.1 rfl (by first | exact Nat.le_of_ble_eq_true rfl | (simp only [List.map, pm_rf_cat]; exact Nat.le_of_ble_eq_true rfl)) dX10_take_64 ⟨by decide, by decide⟩ (fun r9 M_1 H locs hp hX1 hI => ?_)
  clear hw
  obtain ⟨rfl, hw⟩ := hp
  replace t_v0 := t_v0.x hX1
  replace hX := hX.tr hX1
  refine pm_nrm (cells' := 0) (slots' := 0) (g2 := F0 m 67 ls []) rfl rfl rfl ?_
  obtain ⟨x_2, e_x_2⟩ : ∃ z : Int32, z = v4 + (1 : Int32) := ⟨_, rfl⟩
  refine lv_iinc (v := x_2) (lv' := [(4, .int x_2), (0, .ref (H0.size + v0)), (1, .int v1), (2, .int v2)]) hx hb dX10_take_67 hl (k := 3) rfl (by rw [e_x_2]; rfl) (by decide) rfl (fun ls hl_3 => ?_)
  replace hw := hw x_2 e_x_2
  refine lv_goto (tgt := 16) hx hb dX10_take_70 (by decide) ?_
  exact hk_16 _ _ _ _ _ hX hI t_v0 (lv_sub hl_3 [1, 2, 3, 0] rfl) hw
set_option maxHeartbeats 4000000 in
set_option maxRecDepth 100000 in
theorem c_X10_take_63 {p : Program} {l : Launch} {e : Env} {s : State} {m : MethodId} {args : Array Value} {below : List Frame} {meth : Method} {c : Code} {G : pm_G} {H0 : Heap} {M0 : pm_M} {Post : Int32 → pm_M → Prop} {v0 : Nat} {v1 : Int32} {v2 : Int32} {v4 : Int32} {s0 : Nat} {s1 : Int32} {M : pm_M} {k_16 : Int32 → pm_M → Prop} (E : pm_E G p s m args meth c cX10_take 5 RX10) (hret : meth.sig.returnType = (some .int)) (hk_16 : ∀ (v4 : Int32) (M : pm_M) (H : Heap) (locs : List Loc) (ls : Array Slot), pm_X M0 M → pm_I G H0 M H locs → (pm_is M v0 9) → lv_has ls 5 [(0, .ref (H0.size + v0)), (1, .int v1), (2, .int v2), (4, .int v4)] → k_16 v4 M → W p l e rm_X10_take s m args below meth c H locs 0 0 (pm_Z G H0 M0 (pm_Pi Post) below args s rm_X10_take.cells rm_X10_take.slots) (F0 m 16 ls [])) {H : Heap} {locs : List Loc} {ls : Array Slot} (hX : pm_X M0 M) (hI : pm_I G H0 M H locs) (t_v0 : pm_is M v0 9) (t_s0 : pm_is M s0 9) (hl : lv_has ls 5 [(0, .ref (H0.size + v0)), (1, .int v1), (2, .int v2), (4, .int v4)]) (hw : w_X10_take_63 Post k_16 v0 v1 v2 v4 s0 s1 M) : W p l e rm_X10_take s m args below meth c H locs 0 0 (pm_Z G H0 M0 (pm_Pi Post) below args s rm_X10_take.cells rm_X10_take.slots) (F0 m 63 ls [.int s1, .ref (H0.size + s0)]) := by
  have hx := E.1
  have hb := E.2.1
  have hown := E.2.2.2.1
  have hts := E.2.2.2.2.1
  unfold w_X10_take_63 at hw
  refine lv_iconst (v := (0 : Int32)) hx hb dX10_take_63 (by decide) ?_
  exact c_X10_take_64 E hret hk_16 hX hI t_v0 t_s0 (lv_sub hl [0, 1, 2, 3] rfl) hw
set_option maxHeartbeats 4000000 in
set_option maxRecDepth 100000 in
theorem c_X10_take_16 {p : Program} {l : Launch} {e : Env} {s : State} {m : MethodId} {args : Array Value} {below : List Frame} {meth : Method} {c : Code} {G : pm_G} {H0 : Heap} {M0 : pm_M} {Post : Int32 → pm_M → Prop} {v0 : Nat} {v1 : Int32} {v2 : Int32} (E : pm_E G p s m args meth c cX10_take 5 RX10) (hret : meth.sig.returnType = (some .int)) : ∀ (n : Nat) (v4 : Int32) (M : pm_M) (H : Heap) (locs : List Loc) (ls : Array Slot), pm_X M0 M → pm_I G H0 M H locs → (pm_is M v0 9) → lv_has ls 5 [(0, .ref (H0.size + v0)), (1, .int v1), (2, .int v2), (4, .int v4)] → w_X10_take_16 Post v0 v1 v2 n v4 M → W p l e rm_X10_take s m args below meth c H locs 0 0 (pm_Z G H0 M0 (pm_Pi Post) below args s rm_X10_take.cells rm_X10_take.slots) (F0 m 16 ls []) := by
  have hx := E.1
  have hb := E.2.1
  have hown := E.2.2.2.1
  have hts := E.2.2.2.2.1
  intro n
  induction n with
  | zero =>
    intro v4 M H locs ls hX hI t_v0 hl hw
    unfold w_X10_take_16 at hw
    exact hw.elim
  | succ n ih =>
    intro v4 M H locs ls hX hI t_v0 hl hw
    unfold w_X10_take_16 at hw
    refine lv_iload hx hb dX10_take_16 (lv_at hl 3 rfl) ?_
    refine lv_aload_n hx hb dX10_take_18 rfl (lv_at hl 0 rfl) ?_
    refine gf_X10_13 E hI t_v0 dX10_take_19 ?_
    refine lv_icmp_gt (tgt := 73) hx hb dX10_take_22 (by decide) (fun h_1 => ?_) (fun h_1 => ?_)
    · replace hw := hw.1 h_1
      refine lv_aload_n hx hb dX10_take_73 rfl (lv_at hl 0 rfl) ?_
      refine lv_bipush (v := (8 : Int32)) hx hb dX10_take_74 (by decide) ?_
      refine lv_iload_n hx hb dX10_take_76 rfl (lv_at hl 1 rfl) ?_
      refine lv_iconst (v := (-1 : Int32)) hx hb dX10_take_77 (by decide) ?_
      refine lv_aload_n hx hb dX10_take_78 rfl (lv_at hl 0 rfl) ?_
      obtain ⟨q_2, e_q_2, hw⟩ := hw
      refine gf_X10_38 E hI t_v0 dX10_take_79 e_q_2 (fun t_q_2 => ?_)
      refine lv_iload_n hx hb dX10_take_82 rfl (lv_at hl 1 rfl) ?_
      obtain ⟨h_3, hw⟩ := hw
      refine pm_iald E hI t_q_2 h_3 dX10_take_83 ?_
      refine lv_iconst (v := (1 : Int32)) hx hb dX10_take_84 (by decide) ?_
      refine lv_iadd hx hb dX10_take_85 ?_
      refine pm_callV (As := [.int (8 : Int32), .int v1, .int (-1 : Int32), .int ((mI M q_2 v1.toNatClampNeg) + (1 : Int32))]) (rest := []) 4 E hI (k_X10_made t_v0 hw) t_v0 (by decide) rfl kc_X10_made kl_X10_146 km_X10_made ks_X10_made ki_X10 (by decide +kernel) ⟨by decide, by decide⟩ rfl hl.1 rfl (by first | exact Nat.le_of_ble_eq_true rfl | (simp only [List.map, pm_rf_cat]; exact Nat.le_of_ble_eq_true rfl)) dX10_take_86 ⟨by decide, by decide⟩ (fun r9 M_4 H locs hp hX1 hI => ?_)
      clear hw
      obtain ⟨r_5, rfl, hw⟩ := hp
      replace t_v0 := t_v0.x hX1
      replace hX := hX.tr hX1
      refine pm_nrm (cells' := 0) (slots' := 0) (g2 := F0 m 89 ls [.int r_5]) rfl rfl rfl ?_
      exact pm_iret E hret hI hX ⟨_, rfl, hw⟩ (by decide) (by decide) dX10_take_89
    · replace hw := hw.2 h_1
      refine lv_aload_n hx hb dX10_take_25 rfl (lv_at hl 0 rfl) ?_
      refine lv_iload hx hb dX10_take_26 (lv_at hl 3 rfl) ?_
      refine lv_iload hx hb dX10_take_28 (lv_at hl 3 rfl) ?_
      refine lv_iload_n hx hb dX10_take_30 rfl (lv_at hl 2 rfl) ?_
      refine lv_iand hx hb dX10_take_31 ?_
      refine lv_if_ne (tgt := 63) hx hb dX10_take_32 (by decide) (fun h_6 => ?_) (fun h_6 => ?_)
      · replace hw := hw.1 h_6
        exact c_X10_take_63 E hret ih hX hI t_v0 t_v0 (lv_sub hl [0, 1, 2, 3] rfl) hw
      · replace hw := hw.2 h_6
        refine lv_aload_n hx hb dX10_take_35 rfl (lv_at hl 0 rfl) ?_
        refine lv_iload_n hx hb dX10_take_36 rfl (lv_at hl 1 rfl) ?_
        refine lv_iload hx hb dX10_take_37 (lv_at hl 3 rfl) ?_
        refine lv_iload_n hx hb dX10_take_39 rfl (lv_at hl 2 rfl) ?_
        refine lv_ior hx hb dX10_take_40 ?_
        refine pm_callV (As := [.int v1, .int (v4 ||| v2)]) (rest := [.int v4, .ref (H0.size + v0)]) 2 E hI (k_X10_rankOf t_v0 hw) t_v0 (by decide) rfl kc_X10_rankOf kl_X10_108 km_X10_rankOf ks_X10_rankOf ki_X10 (by decide +kernel) ⟨by decide, by decide⟩ rfl hl.1 rfl (by first | exact Nat.le_of_ble_eq_true rfl | (simp only [List.map, pm_rf_cat]; exact Nat.le_of_ble_eq_true rfl)) dX10_take_41 ⟨by decide, by decide⟩ (fun r9 M9 H locs hp hX1 hI => ?_)
        clear hw
        obtain ⟨r_7, rfl, rfl, hw⟩ := hp
        refine pm_nrm (cells' := 0) (slots' := 0) (g2 := F0 m 44 ls [.int r_7, .int v4, .ref (H0.size + v0)]) rfl rfl rfl ?_
        refine lv_aload_n hx hb dX10_take_44 rfl (lv_at hl 0 rfl) ?_
        refine lv_iload_n hx hb dX10_take_45 rfl (lv_at hl 1 rfl) ?_
        refine lv_iload_n hx hb dX10_take_46 rfl (lv_at hl 2 rfl) ?_
        refine pm_callV (As := [.int v1, .int v2]) (rest := [.int r_7, .int v4, .ref (H0.size + v0)]) 2 E hI (k_X10_rankOf t_v0 hw) t_v0 (by decide) rfl kc_X10_rankOf kl_X10_108 km_X10_rankOf ks_X10_rankOf ki_X10 (by decide +kernel) ⟨by decide, by decide⟩ rfl hl.1 rfl (by first | exact Nat.le_of_ble_eq_true rfl | (simp only [List.map, pm_rf_cat]; exact Nat.le_of_ble_eq_true rfl)) dX10_take_47 ⟨by decide, by decide⟩ (fun r9 M9 H locs hp hX1 hI => ?_)
        clear hw
        obtain ⟨r_8, rfl, rfl, hw⟩ := hp
        refine pm_nrm (cells' := 0) (slots' := 0) (g2 := F0 m 50 ls [.int r_8, .int r_7, .int v4, .ref (H0.size + v0)]) rfl rfl rfl ?_
        refine lv_iload hx hb dX10_take_50 (lv_at hl 3 rfl) ?_
        refine pm_callS (As := [.int v4]) (rest := [.int r_8, .int r_7, .int v4, .ref (H0.size + v0)]) 1 E hI (k_X10_bitsOf hw) kc_X10_bitsOf kl_X10_104 kt_X10_bitsOf ki_X10 (by decide +kernel) ⟨by decide, by decide⟩ rfl hl.1 rfl (by first | exact Nat.le_of_ble_eq_true rfl | (simp only [List.map, pm_rf_cat]; exact Nat.le_of_ble_eq_true rfl)) dX10_take_52 ⟨by decide, by decide⟩ (fun r9 M9 H locs hp hX1 hI => ?_)
        clear hw
        obtain ⟨r_9, rfl, rfl, hw⟩ := hp
        refine pm_nrm (cells' := 0) (slots' := 0) (g2 := F0 m 55 ls [.int r_9, .int r_8, .int r_7, .int v4, .ref (H0.size + v0)]) rfl rfl rfl ?_
        refine lv_iadd hx hb dX10_take_55 ?_
        refine lv_icmp_ne (tgt := 63) hx hb dX10_take_56 (by decide) (fun h_10 => ?_) (fun h_10 => ?_)
        · replace hw := hw.1 h_10
          exact c_X10_take_63 E hret ih hX hI t_v0 t_v0 (lv_sub hl [0, 1, 2, 3] rfl) hw
        · replace hw := hw.2 h_10
          refine lv_iconst (v := (1 : Int32)) hx hb dX10_take_59 (by decide) ?_
          refine lv_goto (tgt := 64) hx hb dX10_take_60 (by decide) ?_
          exact c_X10_take_64 E hret ih hX hI t_v0 t_v0 (lv_sub hl [0, 1, 2, 3] rfl) hw
set_option maxHeartbeats 4000000 in
set_option maxRecDepth 100000 in
theorem k_X10_take {l : Launch} {G : pm_G} {H0 : Heap} {th : Nat} {a1 : Int32} {a2 : Int32} {M : pm_M} {Post : Int32 → pm_M → Prop} (t_th : pm_is M th 9) (hw : w_X10_take th a1 a2 M Post) : pm_C l G H0 yX10_take cX10_take 5 (some .int) rm_X10_take [.ref (H0.size + th), .int a1, .int a2] M (pm_Pi Post) := by
  refine pm_start (by decide +kernel) (Nat.le_of_ble_eq_true rfl) ?_
  intro p e s m args below meth c H ls E hret hnm hI hl
  have hX : pm_X M M := pm_X.rf
  have hl : lv_has ls 5 [(0, .ref (H0.size + th)), (1, .int a1), (2, .int a2)] := hl
  have hx := E.1
  have hb := E.2.1
  have hown := E.2.2.2.1
  have hts := E.2.2.2.2.1
  unfold w_X10_take at hw
  refine lv_aload_n hx hb dX10_take_0 rfl (lv_at hl 0 rfl) ?_
  refine lv_iload_n hx hb dX10_take_1 rfl (lv_at hl 1 rfl) ?_
  refine lv_iload_n hx hb dX10_take_2 rfl (lv_at hl 2 rfl) ?_
  refine pm_callV (As := [.int a1, .int a2]) (rest := []) 2 E hI (k_X10_refused t_th hw) t_th (by decide) rfl kc_X10_refused kl_X10_197 km_X10_refused ks_X10_refused ki_X10 (by decide +kernel) ⟨by decide, by decide⟩ rfl hl.1 rfl (by first | exact Nat.le_of_ble_eq_true rfl | (simp only [List.map, pm_rf_cat]; exact Nat.le_of_ble_eq_true rfl)) dX10_take_3 ⟨by decide, by decide⟩ (fun r9 M9 H locs hp hX1 hI => ?_)
  clear hw
  obtain ⟨r_1, rfl, rfl, hw⟩ := hp
  refine pm_nrm (cells' := 0) (slots' := 0) (g2 := F0 m 6 ls [.int r_1]) rfl rfl rfl ?_
  refine lv_istore_n (lv' := [(3, .int r_1), (0, .ref (H0.size + th)), (1, .int a1), (2, .int a2)]) hx hb dX10_take_6 rfl hl (by decide) rfl (fun ls hl_2 => ?_)
  refine lv_iload_n hx hb dX10_take_7 rfl (lv_at hl_2 0 rfl) ?_
  refine lv_if_eq (tgt := 13) hx hb dX10_take_8 (by decide) (fun h_3 => ?_) (fun h_3 => ?_)
  · replace hw := hw.1 h_3
    refine lv_iconst (v := (0 : Int32)) hx hb dX10_take_13 (by decide) ?_
    refine lv_istore (lv' := [(4, .int (0 : Int32)), (3, .int r_1), (0, .ref (H0.size + th)), (1, .int a1), (2, .int a2)]) hx hb dX10_take_14 hl_2 (by decide) rfl (fun ls hl_4 => ?_)
    obtain ⟨n_5, hw⟩ := hw
    exact c_X10_take_16 E hret n_5 _ _ _ _ _ hX hI t_th (lv_sub hl_4 [2, 3, 4, 0] rfl) hw
  · replace hw := hw.2 h_3
    refine lv_iload_n hx hb dX10_take_11 rfl (lv_at hl_2 0 rfl) ?_
    exact pm_iret E hret hI hX ⟨_, rfl, hw⟩ (by decide) (by decide) dX10_take_12
set_option maxHeartbeats 4000000 in
set_option maxRecDepth 100000 in
theorem c_X10_turn_55 {p : Program} {l : Launch} {e : Env} {s : State} {m : MethodId} {args : Array Value} {below : List Frame} {meth : Method} {c : Code} {G : pm_G} {H0 : Heap} {M0 : pm_M} {Post : Int32 → pm_M → Prop} {v0 : Nat} {v1 : Int32} {v3 : Int32} {s0 : Nat} {s1 : Int32} {s2 : Int32} {M : pm_M} {k_15 : Int32 → pm_M → Prop} (E : pm_E G p s m args meth c cX10_turn 4 RX10) (hret : meth.sig.returnType = (some .int)) (hk_15 : ∀ (v3 : Int32) (M : pm_M) (H : Heap) (locs : List Loc) (ls : Array Slot), pm_X M0 M → pm_I G H0 M H locs → (pm_is M v0 9) → lv_has ls 4 [(0, .ref (H0.size + v0)), (1, .int v1), (3, .int v3)] → k_15 v3 M → W p l e rm_X10_turn s m args below meth c H locs 0 0 (pm_Z G H0 M0 (pm_Pi Post) below args s rm_X10_turn.cells rm_X10_turn.slots) (F0 m 15 ls [])) {H : Heap} {locs : List Loc} {ls : Array Slot} (hX : pm_X M0 M) (hI : pm_I G H0 M H locs) (t_v0 : pm_is M v0 9) (t_s0 : pm_is M s0 9) (hl : lv_has ls 4 [(0, .ref (H0.size + v0)), (1, .int v1), (3, .int v3)]) (hw : w_X10_turn_55 Post k_15 v0 v1 v3 s0 s1 s2 M) : W p l e rm_X10_turn s m args below meth c H locs 0 0 (pm_Z G H0 M0 (pm_Pi Post) below args s rm_X10_turn.cells rm_X10_turn.slots) (F0 m 55 ls [.int s2, .int s1, .ref (H0.size + s0)]) := by
  have hx := E.1
  have hb := E.2.1
  have hown := E.2.2.2.1
  have hts := E.2.2.2.2.1
  unfold w_X10_turn_55 at hw
  refine pm_callV (As := [.int s1, .int s2]) (rest := []) 2 E hI (k_X10_table t_s0 hw) t_s0 (by decide) rfl kc_X10_table kl_X10_200 km_X10_table ks_X10_table ki_X10 (by decide +kernel) ⟨by decide, by decide⟩ rfl hl.1 rfl (by first | exact Nat.le_of_ble_eq_true rfl | (simp only [List.map, pm_rf_cat]; exact Nat.le_of_ble_eq_true rfl)) dX10_turn_55 ⟨by decide, by decide⟩ (fun r9 M_1 H locs hp hX1 hI => ?_)
  clear hw
  obtain ⟨rfl, hw⟩ := hp
  replace t_v0 := t_v0.x hX1
  replace hX := hX.tr hX1
  refine pm_nrm (cells' := 0) (slots' := 0) (g2 := F0 m 58 ls []) rfl rfl rfl ?_
  obtain ⟨x_2, e_x_2⟩ : ∃ z : Int32, z = v3 + (1 : Int32) := ⟨_, rfl⟩
  refine lv_iinc (v := x_2) (lv' := [(3, .int x_2), (0, .ref (H0.size + v0)), (1, .int v1)]) hx hb dX10_turn_58 hl (k := 2) rfl (by rw [e_x_2]; rfl) (by decide) rfl (fun ls hl_3 => ?_)
  replace hw := hw x_2 e_x_2
  refine lv_goto (tgt := 15) hx hb dX10_turn_61 (by decide) ?_
  exact hk_15 _ _ _ _ _ hX hI t_v0 (lv_sub hl_3 [1, 2, 0] rfl) hw
set_option maxHeartbeats 4000000 in
set_option maxRecDepth 100000 in
theorem c_X10_turn_15 {p : Program} {l : Launch} {e : Env} {s : State} {m : MethodId} {args : Array Value} {below : List Frame} {meth : Method} {c : Code} {G : pm_G} {H0 : Heap} {M0 : pm_M} {Post : Int32 → pm_M → Prop} {v0 : Nat} {v1 : Int32} (E : pm_E G p s m args meth c cX10_turn 4 RX10) (hret : meth.sig.returnType = (some .int)) : ∀ (n : Nat) (v3 : Int32) (M : pm_M) (H : Heap) (locs : List Loc) (ls : Array Slot), pm_X M0 M → pm_I G H0 M H locs → (pm_is M v0 9) → lv_has ls 4 [(0, .ref (H0.size + v0)), (1, .int v1), (3, .int v3)] → w_X10_turn_15 Post v0 v1 n v3 M → W p l e rm_X10_turn s m args below meth c H locs 0 0 (pm_Z G H0 M0 (pm_Pi Post) below args s rm_X10_turn.cells rm_X10_turn.slots) (F0 m 15 ls []) := by
  have hx := E.1
  have hb := E.2.1
  have hown := E.2.2.2.1
  have hts := E.2.2.2.2.1
  intro n
  induction n with
  | zero =>
    intro v3 M H locs ls hX hI t_v0 hl hw
    unfold w_X10_turn_15 at hw
    exact hw.elim
  | succ n ih =>
    intro v3 M H locs ls hX hI t_v0 hl hw
    unfold w_X10_turn_15 at hw
    refine lv_iload_n hx hb dX10_turn_15 rfl (lv_at hl 2 rfl) ?_
    refine lv_aload_n hx hb dX10_turn_16 rfl (lv_at hl 0 rfl) ?_
    refine gf_X10_13 E hI t_v0 dX10_turn_17 ?_
    refine lv_icmp_gt (tgt := 64) hx hb dX10_turn_20 (by decide) (fun h_1 => ?_) (fun h_1 => ?_)
    · replace hw := hw.1 h_1
      refine lv_aload_n hx hb dX10_turn_64 rfl (lv_at hl 0 rfl) ?_
      refine lv_bipush (v := (9 : Int32)) hx hb dX10_turn_65 (by decide) ?_
      refine lv_iload_n hx hb dX10_turn_67 rfl (lv_at hl 1 rfl) ?_
      refine lv_iconst (v := (-1 : Int32)) hx hb dX10_turn_68 (by decide) ?_
      refine lv_aload_n hx hb dX10_turn_69 rfl (lv_at hl 0 rfl) ?_
      obtain ⟨q_2, e_q_2, hw⟩ := hw
      refine gf_X10_38 E hI t_v0 dX10_turn_70 e_q_2 (fun t_q_2 => ?_)
      refine lv_iload_n hx hb dX10_turn_73 rfl (lv_at hl 1 rfl) ?_
      obtain ⟨h_3, hw⟩ := hw
      refine pm_iald E hI t_q_2 h_3 dX10_turn_74 ?_
      refine lv_iconst (v := (1 : Int32)) hx hb dX10_turn_75 (by decide) ?_
      refine lv_iadd hx hb dX10_turn_76 ?_
      refine pm_callV (As := [.int (9 : Int32), .int v1, .int (-1 : Int32), .int ((mI M q_2 v1.toNatClampNeg) + (1 : Int32))]) (rest := []) 4 E hI (k_X10_made t_v0 hw) t_v0 (by decide) rfl kc_X10_made kl_X10_146 km_X10_made ks_X10_made ki_X10 (by decide +kernel) ⟨by decide, by decide⟩ rfl hl.1 rfl (by first | exact Nat.le_of_ble_eq_true rfl | (simp only [List.map, pm_rf_cat]; exact Nat.le_of_ble_eq_true rfl)) dX10_turn_77 ⟨by decide, by decide⟩ (fun r9 M_4 H locs hp hX1 hI => ?_)
      clear hw
      obtain ⟨r_5, rfl, hw⟩ := hp
      replace t_v0 := t_v0.x hX1
      replace hX := hX.tr hX1
      refine pm_nrm (cells' := 0) (slots' := 0) (g2 := F0 m 80 ls [.int r_5]) rfl rfl rfl ?_
      exact pm_iret E hret hI hX ⟨_, rfl, hw⟩ (by decide) (by decide) dX10_turn_80
    · replace hw := hw.2 h_1
      refine lv_aload_n hx hb dX10_turn_23 rfl (lv_at hl 0 rfl) ?_
      refine lv_iload_n hx hb dX10_turn_24 rfl (lv_at hl 2 rfl) ?_
      refine lv_aload_n hx hb dX10_turn_25 rfl (lv_at hl 0 rfl) ?_
      refine lv_iload_n hx hb dX10_turn_26 rfl (lv_at hl 1 rfl) ?_
      refine lv_aload_n hx hb dX10_turn_27 rfl (lv_at hl 0 rfl) ?_
      refine gf_X10_13 E hI t_v0 dX10_turn_28 ?_
      refine lv_iload_n hx hb dX10_turn_31 rfl (lv_at hl 2 rfl) ?_
      refine lv_iconst (v := (-1 : Int32)) hx hb dX10_turn_32 (by decide) ?_
      refine lv_ixor hx hb dX10_turn_33 ?_
      refine lv_iand hx hb dX10_turn_34 ?_
      refine pm_callV (As := [.int v1, .int ((mI M v0 1) &&& (v3 ^^^ (-1 : Int32)))]) (rest := [.int v3, .ref (H0.size + v0)]) 2 E hI (k_X10_rankOf t_v0 hw) t_v0 (by decide) rfl kc_X10_rankOf kl_X10_108 km_X10_rankOf ks_X10_rankOf ki_X10 (by decide +kernel) ⟨by decide, by decide⟩ rfl hl.1 rfl (by first | exact Nat.le_of_ble_eq_true rfl | (simp only [List.map, pm_rf_cat]; exact Nat.le_of_ble_eq_true rfl)) dX10_turn_35 ⟨by decide, by decide⟩ (fun r9 M9 H locs hp hX1 hI => ?_)
      clear hw
      obtain ⟨r_6, rfl, rfl, hw⟩ := hp
      refine pm_nrm (cells' := 0) (slots' := 0) (g2 := F0 m 38 ls [.int r_6, .int v3, .ref (H0.size + v0)]) rfl rfl rfl ?_
      refine lv_aload_n hx hb dX10_turn_38 rfl (lv_at hl 0 rfl) ?_
      refine lv_iload_n hx hb dX10_turn_39 rfl (lv_at hl 1 rfl) ?_
      refine lv_aload_n hx hb dX10_turn_40 rfl (lv_at hl 0 rfl) ?_
      refine gf_X10_13 E hI t_v0 dX10_turn_41 ?_
      refine pm_callV (As := [.int v1, .int (mI M v0 1)]) (rest := [.int r_6, .int v3, .ref (H0.size + v0)]) 2 E hI (k_X10_rankOf t_v0 hw) t_v0 (by decide) rfl kc_X10_rankOf kl_X10_108 km_X10_rankOf ks_X10_rankOf ki_X10 (by decide +kernel) ⟨by decide, by decide⟩ rfl hl.1 rfl (by first | exact Nat.le_of_ble_eq_true rfl | (simp only [List.map, pm_rf_cat]; exact Nat.le_of_ble_eq_true rfl)) dX10_turn_44 ⟨by decide, by decide⟩ (fun r9 M9 H locs hp hX1 hI => ?_)
      clear hw
      obtain ⟨r_7, rfl, rfl, hw⟩ := hp
      refine pm_nrm (cells' := 0) (slots' := 0) (g2 := F0 m 47 ls [.int r_7, .int r_6, .int v3, .ref (H0.size + v0)]) rfl rfl rfl ?_
      refine lv_icmp_ne (tgt := 54) hx hb dX10_turn_47 (by decide) (fun h_8 => ?_) (fun h_8 => ?_)
      · replace hw := hw.1 h_8
        refine lv_iconst (v := (0 : Int32)) hx hb dX10_turn_54 (by decide) ?_
        exact c_X10_turn_55 E hret ih hX hI t_v0 t_v0 (lv_sub hl [0, 1, 2] rfl) hw
      · replace hw := hw.2 h_8
        refine lv_iconst (v := (1 : Int32)) hx hb dX10_turn_50 (by decide) ?_
        refine lv_goto (tgt := 55) hx hb dX10_turn_51 (by decide) ?_
        exact c_X10_turn_55 E hret ih hX hI t_v0 t_v0 (lv_sub hl [0, 1, 2] rfl) hw
set_option maxHeartbeats 4000000 in
set_option maxRecDepth 100000 in
theorem k_X10_turn {l : Launch} {G : pm_G} {H0 : Heap} {th : Nat} {a1 : Int32} {M : pm_M} {Post : Int32 → pm_M → Prop} (t_th : pm_is M th 9) (hw : w_X10_turn th a1 M Post) : pm_C l G H0 yX10_turn cX10_turn 4 (some .int) rm_X10_turn [.ref (H0.size + th), .int a1] M (pm_Pi Post) := by
  refine pm_start (by decide +kernel) (Nat.le_of_ble_eq_true rfl) ?_
  intro p e s m args below meth c H ls E hret hnm hI hl
  have hX : pm_X M M := pm_X.rf
  have hl : lv_has ls 4 [(0, .ref (H0.size + th)), (1, .int a1)] := hl
  have hx := E.1
  have hb := E.2.1
  have hown := E.2.2.2.1
  have hts := E.2.2.2.2.1
  unfold w_X10_turn at hw
  refine lv_aload_n hx hb dX10_turn_0 rfl (lv_at hl 0 rfl) ?_
  refine lv_iload_n hx hb dX10_turn_1 rfl (lv_at hl 1 rfl) ?_
  refine lv_iconst (v := (0 : Int32)) hx hb dX10_turn_2 (by decide) ?_
  refine pm_callV (As := [.int a1, .int (0 : Int32)]) (rest := []) 2 E hI (k_X10_refused t_th hw) t_th (by decide) rfl kc_X10_refused kl_X10_197 km_X10_refused ks_X10_refused ki_X10 (by decide +kernel) ⟨by decide, by decide⟩ rfl hl.1 rfl (by first | exact Nat.le_of_ble_eq_true rfl | (simp only [List.map, pm_rf_cat]; exact Nat.le_of_ble_eq_true rfl)) dX10_turn_3 ⟨by decide, by decide⟩ (fun r9 M9 H locs hp hX1 hI => ?_)
  clear hw
  obtain ⟨r_1, rfl, rfl, hw⟩ := hp
  refine pm_nrm (cells' := 0) (slots' := 0) (g2 := F0 m 6 ls [.int r_1]) rfl rfl rfl ?_
  refine lv_istore_n (lv' := [(2, .int r_1), (0, .ref (H0.size + th)), (1, .int a1)]) hx hb dX10_turn_6 rfl hl (by decide) rfl (fun ls hl_2 => ?_)
  refine lv_iload_n hx hb dX10_turn_7 rfl (lv_at hl_2 0 rfl) ?_
  refine lv_if_eq (tgt := 13) hx hb dX10_turn_8 (by decide) (fun h_3 => ?_) (fun h_3 => ?_)
  · replace hw := hw.1 h_3
    refine lv_iconst (v := (0 : Int32)) hx hb dX10_turn_13 (by decide) ?_
    refine lv_istore_n (lv' := [(3, .int (0 : Int32)), (2, .int r_1), (0, .ref (H0.size + th)), (1, .int a1)]) hx hb dX10_turn_14 rfl hl_2 (by decide) rfl (fun ls hl_4 => ?_)
    obtain ⟨n_5, hw⟩ := hw
    exact c_X10_turn_15 E hret n_5 _ _ _ _ _ hX hI t_th (lv_sub hl_4 [2, 3, 0] rfl) hw
  · replace hw := hw.2 h_3
    refine lv_iload_n hx hb dX10_turn_11 rfl (lv_at hl_2 0 rfl) ?_
    exact pm_iret E hret hI hX ⟨_, rfl, hw⟩ (by decide) (by decide) dX10_turn_12
set_option maxHeartbeats 4000000 in
set_option maxRecDepth 100000 in
theorem c_X10_join_144 {p : Program} {l : Launch} {e : Env} {s : State} {m : MethodId} {args : Array Value} {below : List Frame} {meth : Method} {c : Code} {G : pm_G} {H0 : Heap} {M0 : pm_M} {Post : Int32 → pm_M → Prop} {v0 : Nat} {v1 : Int32} {v2 : Int32} {v3 : Int32} {v4 : Int32} {M : pm_M} {k_56 : Int32 → pm_M → Prop} (E : pm_E G p s m args meth c cX10_join 6 RX10) (hret : meth.sig.returnType = (some .int)) (hk_56 : ∀ (v3 : Int32) (M : pm_M) (H : Heap) (locs : List Loc) (ls : Array Slot), pm_X M0 M → pm_I G H0 M H locs → (pm_is M v0 9) → lv_has ls 6 [(0, .ref (H0.size + v0)), (1, .int v1), (2, .int v2), (3, .int v3)] → k_56 v3 M → W p l e rm_X10_join s m args below meth c H locs 0 0 (pm_Z G H0 M0 (pm_Pi Post) below args s rm_X10_join.cells rm_X10_join.slots) (F0 m 56 ls [])) {H : Heap} {locs : List Loc} {ls : Array Slot} (hX : pm_X M0 M) (hI : pm_I G H0 M H locs) (t_v0 : pm_is M v0 9) (hl : lv_has ls 6 [(0, .ref (H0.size + v0)), (1, .int v1), (2, .int v2), (3, .int v3), (4, .int v4)]) (hw : w_X10_join_144 Post k_56 v0 v1 v2 v3 v4 M) : W p l e rm_X10_join s m args below meth c H locs 0 0 (pm_Z G H0 M0 (pm_Pi Post) below args s rm_X10_join.cells rm_X10_join.slots) (F0 m 144 ls []) := by
  have hx := E.1
  have hb := E.2.1
  have hown := E.2.2.2.1
  have hts := E.2.2.2.2.1
  unfold w_X10_join_144 at hw
  refine lv_aload_n hx hb dX10_join_144 rfl (lv_at hl 0 rfl) ?_
  refine lv_iload_n hx hb dX10_join_145 rfl (lv_at hl 3 rfl) ?_
  refine lv_iload hx hb dX10_join_146 (lv_at hl 4 rfl) ?_
  refine pm_callV (As := [.int v3, .int v4]) (rest := []) 2 E hI (k_X10_table t_v0 hw) t_v0 (by decide) rfl kc_X10_table kl_X10_200 km_X10_table ks_X10_table ki_X10 (by decide +kernel) ⟨by decide, by decide⟩ rfl hl.1 rfl (by first | exact Nat.le_of_ble_eq_true rfl | (simp only [List.map, pm_rf_cat]; exact Nat.le_of_ble_eq_true rfl)) dX10_join_148 ⟨by decide, by decide⟩ (fun r9 M_1 H locs hp hX1 hI => ?_)
  clear hw
  obtain ⟨rfl, hw⟩ := hp
  replace t_v0 := t_v0.x hX1
  replace hX := hX.tr hX1
  refine pm_nrm (cells' := 0) (slots' := 0) (g2 := F0 m 151 ls []) rfl rfl rfl ?_
  obtain ⟨x_2, e_x_2⟩ : ∃ z : Int32, z = v3 + (1 : Int32) := ⟨_, rfl⟩
  refine lv_iinc (v := x_2) (lv' := [(3, .int x_2), (0, .ref (H0.size + v0)), (1, .int v1), (2, .int v2), (4, .int v4)]) hx hb dX10_join_151 hl (k := 3) rfl (by rw [e_x_2]; rfl) (by decide) rfl (fun ls hl_3 => ?_)
  replace hw := hw x_2 e_x_2
  refine lv_goto (tgt := 56) hx hb dX10_join_154 (by decide) ?_
  exact hk_56 _ _ _ _ _ hX hI t_v0 (lv_sub hl_3 [1, 2, 3, 0] rfl) hw
set_option maxHeartbeats 4000000 in
set_option maxRecDepth 100000 in
theorem c_X10_join_131 {p : Program} {l : Launch} {e : Env} {s : State} {m : MethodId} {args : Array Value} {below : List Frame} {meth : Method} {c : Code} {G : pm_G} {H0 : Heap} {M0 : pm_M} {Post : Int32 → pm_M → Prop} {v0 : Nat} {v1 : Int32} {v2 : Int32} {v3 : Int32} {v5 : Int32} {s0 : Int32} {M : pm_M} {k_56 : Int32 → pm_M → Prop} {k_92 : Int32 → Int32 → Prop} (E : pm_E G p s m args meth c cX10_join 6 RX10) (hret : meth.sig.returnType = (some .int)) (hk_56 : ∀ (v3 : Int32) (M : pm_M) (H : Heap) (locs : List Loc) (ls : Array Slot), pm_X M0 M → pm_I G H0 M H locs → (pm_is M v0 9) → lv_has ls 6 [(0, .ref (H0.size + v0)), (1, .int v1), (2, .int v2), (3, .int v3)] → k_56 v3 M → W p l e rm_X10_join s m args below meth c H locs 0 0 (pm_Z G H0 M0 (pm_Pi Post) below args s rm_X10_join.cells rm_X10_join.slots) (F0 m 56 ls [])) (hk_92 : ∀ (v4 : Int32) (v5 : Int32) (H : Heap) (locs : List Loc) (ls : Array Slot), pm_X M0 M → pm_I G H0 M H locs → (pm_is M v0 9) → lv_has ls 6 [(0, .ref (H0.size + v0)), (1, .int v1), (2, .int v2), (3, .int v3), (4, .int v4), (5, .int v5)] → k_92 v4 v5 → W p l e rm_X10_join s m args below meth c H locs 0 0 (pm_Z G H0 M0 (pm_Pi Post) below args s rm_X10_join.cells rm_X10_join.slots) (F0 m 92 ls [])) {H : Heap} {locs : List Loc} {ls : Array Slot} (hX : pm_X M0 M) (hI : pm_I G H0 M H locs) (t_v0 : pm_is M v0 9) (hl : lv_has ls 6 [(0, .ref (H0.size + v0)), (1, .int v1), (2, .int v2), (3, .int v3), (5, .int v5)]) (hw : w_X10_join_131 Post k_56 k_92 v0 v1 v2 v3 v5 s0 M) : W p l e rm_X10_join s m args below meth c H locs 0 0 (pm_Z G H0 M0 (pm_Pi Post) below args s rm_X10_join.cells rm_X10_join.slots) (F0 m 131 ls [.int s0]) := by
  have hx := E.1
  have hb := E.2.1
  have hown := E.2.2.2.1
  have hts := E.2.2.2.2.1
  unfold w_X10_join_131 at hw
  refine lv_istore (lv' := [(4, .int s0), (0, .ref (H0.size + v0)), (1, .int v1), (2, .int v2), (3, .int v3), (5, .int v5)]) hx hb dX10_join_131 hl (by decide) rfl (fun ls hl_1 => ?_)
  refine lv_iload hx hb dX10_join_133 (lv_at hl_1 5 rfl) ?_
  refine lv_iconst (v := (1 : Int32)) hx hb dX10_join_135 (by decide) ?_
  refine lv_isub hx hb dX10_join_136 ?_
  refine lv_iload_n hx hb dX10_join_137 rfl (lv_at hl_1 4 rfl) ?_
  refine lv_iand hx hb dX10_join_138 ?_
  refine lv_topi (fun x_2 e_x_2 => ?_)
  replace hw := hw x_2 e_x_2
  refine lv_istore (lv' := [(5, .int x_2), (4, .int s0), (0, .ref (H0.size + v0)), (1, .int v1), (2, .int v2), (3, .int v3)]) hx hb dX10_join_139 hl_1 (by decide) rfl (fun ls hl_3 => ?_)
  refine lv_goto (tgt := 92) hx hb dX10_join_141 (by decide) ?_
  exact hk_92 _ _ _ _ _ hX hI t_v0 (lv_sub hl_3 [2, 3, 4, 5, 1, 0] rfl) hw
set_option maxHeartbeats 4000000 in
set_option maxRecDepth 100000 in
theorem c_X10_join_130 {p : Program} {l : Launch} {e : Env} {s : State} {m : MethodId} {args : Array Value} {below : List Frame} {meth : Method} {c : Code} {G : pm_G} {H0 : Heap} {M0 : pm_M} {Post : Int32 → pm_M → Prop} {v0 : Nat} {v1 : Int32} {v2 : Int32} {v3 : Int32} {v5 : Int32} {M : pm_M} {k_56 : Int32 → pm_M → Prop} {k_92 : Int32 → Int32 → Prop} (E : pm_E G p s m args meth c cX10_join 6 RX10) (hret : meth.sig.returnType = (some .int)) (hk_56 : ∀ (v3 : Int32) (M : pm_M) (H : Heap) (locs : List Loc) (ls : Array Slot), pm_X M0 M → pm_I G H0 M H locs → (pm_is M v0 9) → lv_has ls 6 [(0, .ref (H0.size + v0)), (1, .int v1), (2, .int v2), (3, .int v3)] → k_56 v3 M → W p l e rm_X10_join s m args below meth c H locs 0 0 (pm_Z G H0 M0 (pm_Pi Post) below args s rm_X10_join.cells rm_X10_join.slots) (F0 m 56 ls [])) (hk_92 : ∀ (v4 : Int32) (v5 : Int32) (H : Heap) (locs : List Loc) (ls : Array Slot), pm_X M0 M → pm_I G H0 M H locs → (pm_is M v0 9) → lv_has ls 6 [(0, .ref (H0.size + v0)), (1, .int v1), (2, .int v2), (3, .int v3), (4, .int v4), (5, .int v5)] → k_92 v4 v5 → W p l e rm_X10_join s m args below meth c H locs 0 0 (pm_Z G H0 M0 (pm_Pi Post) below args s rm_X10_join.cells rm_X10_join.slots) (F0 m 92 ls [])) {H : Heap} {locs : List Loc} {ls : Array Slot} (hX : pm_X M0 M) (hI : pm_I G H0 M H locs) (t_v0 : pm_is M v0 9) (hl : lv_has ls 6 [(0, .ref (H0.size + v0)), (1, .int v1), (2, .int v2), (3, .int v3), (5, .int v5)]) (hw : w_X10_join_130 Post k_56 k_92 v0 v1 v2 v3 v5 M) : W p l e rm_X10_join s m args below meth c H locs 0 0 (pm_Z G H0 M0 (pm_Pi Post) below args s rm_X10_join.cells rm_X10_join.slots) (F0 m 130 ls []) := by
  have hx := E.1
  have hb := E.2.1
  have hown := E.2.2.2.1
  have hts := E.2.2.2.2.1
  unfold w_X10_join_130 at hw
  refine lv_iconst (v := (0 : Int32)) hx hb dX10_join_130 (by decide) ?_
  exact c_X10_join_131 E hret hk_56 hk_92 hX hI t_v0 (lv_sub hl [0, 1, 2, 3, 4] rfl) hw
set_option maxHeartbeats 4000000 in
set_option maxRecDepth 100000 in
theorem c_X10_join_92 {p : Program} {l : Launch} {e : Env} {s : State} {m : MethodId} {args : Array Value} {below : List Frame} {meth : Method} {c : Code} {G : pm_G} {H0 : Heap} {M0 : pm_M} {Post : Int32 → pm_M → Prop} {v0 : Nat} {v1 : Int32} {v2 : Int32} {v3 : Int32} {M : pm_M} {k_56 : Int32 → pm_M → Prop} (E : pm_E G p s m args meth c cX10_join 6 RX10) (hret : meth.sig.returnType = (some .int)) (hk_56 : ∀ (v3 : Int32) (M : pm_M) (H : Heap) (locs : List Loc) (ls : Array Slot), pm_X M0 M → pm_I G H0 M H locs → (pm_is M v0 9) → lv_has ls 6 [(0, .ref (H0.size + v0)), (1, .int v1), (2, .int v2), (3, .int v3)] → k_56 v3 M → W p l e rm_X10_join s m args below meth c H locs 0 0 (pm_Z G H0 M0 (pm_Pi Post) below args s rm_X10_join.cells rm_X10_join.slots) (F0 m 56 ls [])) : ∀ (n : Nat) (v4 : Int32) (v5 : Int32) (H : Heap) (locs : List Loc) (ls : Array Slot), pm_X M0 M → pm_I G H0 M H locs → (pm_is M v0 9) → lv_has ls 6 [(0, .ref (H0.size + v0)), (1, .int v1), (2, .int v2), (3, .int v3), (4, .int v4), (5, .int v5)] → w_X10_join_92 Post k_56 v0 v1 v2 v3 M n v4 v5 → W p l e rm_X10_join s m args below meth c H locs 0 0 (pm_Z G H0 M0 (pm_Pi Post) below args s rm_X10_join.cells rm_X10_join.slots) (F0 m 92 ls []) := by
  have hx := E.1
  have hb := E.2.1
  have hown := E.2.2.2.1
  have hts := E.2.2.2.2.1
  intro n
  induction n with
  | zero =>
    intro v4 v5 H locs ls hX hI t_v0 hl hw
    unfold w_X10_join_92 at hw
    exact hw.elim
  | succ n ih =>
    intro v4 v5 H locs ls hX hI t_v0 hl hw
    unfold w_X10_join_92 at hw
    refine lv_iload hx hb dX10_join_92 (lv_at hl 5 rfl) ?_
    refine lv_if_le (tgt := 144) hx hb dX10_join_94 (by decide) (fun h_1 => ?_) (fun h_1 => ?_)
    · replace hw := hw.1 h_1
      exact c_X10_join_144 E hret hk_56 hX hI t_v0 (lv_sub hl [0, 1, 2, 3, 4] rfl) hw
    · replace hw := hw.2 h_1
      refine lv_iload hx hb dX10_join_97 (lv_at hl 4 rfl) ?_
      refine lv_if_ne (tgt := 144) hx hb dX10_join_99 (by decide) (fun h_2 => ?_) (fun h_2 => ?_)
      · replace hw := hw.1 h_2
        exact c_X10_join_144 E hret hk_56 hX hI t_v0 (lv_sub hl [0, 1, 2, 3, 4] rfl) hw
      · replace hw := hw.2 h_2
        refine lv_aload_n hx hb dX10_join_102 rfl (lv_at hl 0 rfl) ?_
        refine lv_iload_n hx hb dX10_join_103 rfl (lv_at hl 1 rfl) ?_
        refine lv_iload hx hb dX10_join_104 (lv_at hl 5 rfl) ?_
        refine pm_callV (As := [.int v1, .int v5]) (rest := []) 2 E hI (k_X10_isAllowed t_v0 hw) t_v0 (by decide) rfl kc_X10_isAllowed kl_X10_100 km_X10_isAllowed ks_X10_isAllowed ki_X10 (by decide +kernel) ⟨by decide, by decide⟩ rfl hl.1 rfl (by first | exact Nat.le_of_ble_eq_true rfl | (simp only [List.map, pm_rf_cat]; exact Nat.le_of_ble_eq_true rfl)) dX10_join_106 ⟨by decide, by decide⟩ (fun r9 M9 H locs hp hX1 hI => ?_)
        clear hw
        obtain ⟨r_3, rfl, rfl, hw⟩ := hp
        refine pm_nrm (cells' := 0) (slots' := 0) (g2 := F0 m 109 ls [.int r_3]) rfl rfl rfl ?_
        refine lv_if_eq (tgt := 130) hx hb dX10_join_109 (by decide) (fun h_4 => ?_) (fun h_4 => ?_)
        · replace hw := hw.1 h_4
          exact c_X10_join_130 E hret hk_56 ih hX hI t_v0 (lv_sub hl [0, 1, 2, 3, 5] rfl) hw
        · replace hw := hw.2 h_4
          refine lv_aload_n hx hb dX10_join_112 rfl (lv_at hl 0 rfl) ?_
          refine lv_iload_n hx hb dX10_join_113 rfl (lv_at hl 2 rfl) ?_
          refine lv_iload_n hx hb dX10_join_114 rfl (lv_at hl 3 rfl) ?_
          refine lv_iload hx hb dX10_join_115 (lv_at hl 5 rfl) ?_
          refine lv_iconst (v := (-1 : Int32)) hx hb dX10_join_117 (by decide) ?_
          refine lv_ixor hx hb dX10_join_118 ?_
          refine lv_iand hx hb dX10_join_119 ?_
          refine pm_callV (As := [.int v2, .int (v3 &&& (v5 ^^^ (-1 : Int32)))]) (rest := []) 2 E hI (k_X10_isAllowed t_v0 hw) t_v0 (by decide) rfl kc_X10_isAllowed kl_X10_100 km_X10_isAllowed ks_X10_isAllowed ki_X10 (by decide +kernel) ⟨by decide, by decide⟩ rfl hl.1 rfl (by first | exact Nat.le_of_ble_eq_true rfl | (simp only [List.map, pm_rf_cat]; exact Nat.le_of_ble_eq_true rfl)) dX10_join_120 ⟨by decide, by decide⟩ (fun r9 M9 H locs hp hX1 hI => ?_)
          clear hw
          obtain ⟨r_5, rfl, rfl, hw⟩ := hp
          refine pm_nrm (cells' := 0) (slots' := 0) (g2 := F0 m 123 ls [.int r_5]) rfl rfl rfl ?_
          refine lv_if_eq (tgt := 130) hx hb dX10_join_123 (by decide) (fun h_6 => ?_) (fun h_6 => ?_)
          · replace hw := hw.1 h_6
            exact c_X10_join_130 E hret hk_56 ih hX hI t_v0 (lv_sub hl [0, 1, 2, 3, 5] rfl) hw
          · replace hw := hw.2 h_6
            refine lv_iconst (v := (1 : Int32)) hx hb dX10_join_126 (by decide) ?_
            refine lv_goto (tgt := 131) hx hb dX10_join_127 (by decide) ?_
            exact c_X10_join_131 E hret hk_56 ih hX hI t_v0 (lv_sub hl [0, 1, 2, 3, 5] rfl) hw
set_option maxHeartbeats 4000000 in
set_option maxRecDepth 100000 in
theorem c_X10_join_87 {p : Program} {l : Launch} {e : Env} {s : State} {m : MethodId} {args : Array Value} {below : List Frame} {meth : Method} {c : Code} {G : pm_G} {H0 : Heap} {M0 : pm_M} {Post : Int32 → pm_M → Prop} {v0 : Nat} {v1 : Int32} {v2 : Int32} {v3 : Int32} {s0 : Int32} {M : pm_M} {k_56 : Int32 → pm_M → Prop} (E : pm_E G p s m args meth c cX10_join 6 RX10) (hret : meth.sig.returnType = (some .int)) (hk_56 : ∀ (v3 : Int32) (M : pm_M) (H : Heap) (locs : List Loc) (ls : Array Slot), pm_X M0 M → pm_I G H0 M H locs → (pm_is M v0 9) → lv_has ls 6 [(0, .ref (H0.size + v0)), (1, .int v1), (2, .int v2), (3, .int v3)] → k_56 v3 M → W p l e rm_X10_join s m args below meth c H locs 0 0 (pm_Z G H0 M0 (pm_Pi Post) below args s rm_X10_join.cells rm_X10_join.slots) (F0 m 56 ls [])) {H : Heap} {locs : List Loc} {ls : Array Slot} (hX : pm_X M0 M) (hI : pm_I G H0 M H locs) (t_v0 : pm_is M v0 9) (hl : lv_has ls 6 [(0, .ref (H0.size + v0)), (1, .int v1), (2, .int v2), (3, .int v3)]) (hw : w_X10_join_87 Post k_56 v0 v1 v2 v3 s0 M) : W p l e rm_X10_join s m args below meth c H locs 0 0 (pm_Z G H0 M0 (pm_Pi Post) below args s rm_X10_join.cells rm_X10_join.slots) (F0 m 87 ls [.int s0]) := by
  have hx := E.1
  have hb := E.2.1
  have hown := E.2.2.2.1
  have hts := E.2.2.2.2.1
  unfold w_X10_join_87 at hw
  refine lv_istore (lv' := [(4, .int s0), (0, .ref (H0.size + v0)), (1, .int v1), (2, .int v2), (3, .int v3)]) hx hb dX10_join_87 hl (by decide) rfl (fun ls hl_1 => ?_)
  refine lv_iload_n hx hb dX10_join_89 rfl (lv_at hl_1 4 rfl) ?_
  refine lv_istore (lv' := [(5, .int v3), (4, .int s0), (0, .ref (H0.size + v0)), (1, .int v1), (2, .int v2), (3, .int v3)]) hx hb dX10_join_90 hl_1 (by decide) rfl (fun ls hl_2 => ?_)
  obtain ⟨n_3, hw⟩ := hw
  exact c_X10_join_92 E hret hk_56 n_3 _ _ _ _ _ hX hI t_v0 (lv_sub hl_2 [2, 3, 4, 5, 1, 0] rfl) hw
set_option maxHeartbeats 4000000 in
set_option maxRecDepth 100000 in
theorem c_X10_join_86 {p : Program} {l : Launch} {e : Env} {s : State} {m : MethodId} {args : Array Value} {below : List Frame} {meth : Method} {c : Code} {G : pm_G} {H0 : Heap} {M0 : pm_M} {Post : Int32 → pm_M → Prop} {v0 : Nat} {v1 : Int32} {v2 : Int32} {v3 : Int32} {M : pm_M} {k_56 : Int32 → pm_M → Prop} (E : pm_E G p s m args meth c cX10_join 6 RX10) (hret : meth.sig.returnType = (some .int)) (hk_56 : ∀ (v3 : Int32) (M : pm_M) (H : Heap) (locs : List Loc) (ls : Array Slot), pm_X M0 M → pm_I G H0 M H locs → (pm_is M v0 9) → lv_has ls 6 [(0, .ref (H0.size + v0)), (1, .int v1), (2, .int v2), (3, .int v3)] → k_56 v3 M → W p l e rm_X10_join s m args below meth c H locs 0 0 (pm_Z G H0 M0 (pm_Pi Post) below args s rm_X10_join.cells rm_X10_join.slots) (F0 m 56 ls [])) {H : Heap} {locs : List Loc} {ls : Array Slot} (hX : pm_X M0 M) (hI : pm_I G H0 M H locs) (t_v0 : pm_is M v0 9) (hl : lv_has ls 6 [(0, .ref (H0.size + v0)), (1, .int v1), (2, .int v2), (3, .int v3)]) (hw : w_X10_join_86 Post k_56 v0 v1 v2 v3 M) : W p l e rm_X10_join s m args below meth c H locs 0 0 (pm_Z G H0 M0 (pm_Pi Post) below args s rm_X10_join.cells rm_X10_join.slots) (F0 m 86 ls []) := by
  have hx := E.1
  have hb := E.2.1
  have hown := E.2.2.2.1
  have hts := E.2.2.2.2.1
  unfold w_X10_join_86 at hw
  refine lv_iconst (v := (0 : Int32)) hx hb dX10_join_86 (by decide) ?_
  exact c_X10_join_87 E hret hk_56 hX hI t_v0 (lv_sub hl [0, 1, 2, 3] rfl) hw
set_option maxHeartbeats 4000000 in
set_option maxRecDepth 100000 in
theorem c_X10_join_56 {p : Program} {l : Launch} {e : Env} {s : State} {m : MethodId} {args : Array Value} {below : List Frame} {meth : Method} {c : Code} {G : pm_G} {H0 : Heap} {M0 : pm_M} {Post : Int32 → pm_M → Prop} {v0 : Nat} {v1 : Int32} {v2 : Int32} (E : pm_E G p s m args meth c cX10_join 6 RX10) (hret : meth.sig.returnType = (some .int)) : ∀ (n : Nat) (v3 : Int32) (M : pm_M) (H : Heap) (locs : List Loc) (ls : Array Slot), pm_X M0 M → pm_I G H0 M H locs → (pm_is M v0 9) → lv_has ls 6 [(0, .ref (H0.size + v0)), (1, .int v1), (2, .int v2), (3, .int v3)] → w_X10_join_56 Post v0 v1 v2 n v3 M → W p l e rm_X10_join s m args below meth c H locs 0 0 (pm_Z G H0 M0 (pm_Pi Post) below args s rm_X10_join.cells rm_X10_join.slots) (F0 m 56 ls []) := by
  have hx := E.1
  have hb := E.2.1
  have hown := E.2.2.2.1
  have hts := E.2.2.2.2.1
  intro n
  induction n with
  | zero =>
    intro v3 M H locs ls hX hI t_v0 hl hw
    unfold w_X10_join_56 at hw
    exact hw.elim
  | succ n ih =>
    intro v3 M H locs ls hX hI t_v0 hl hw
    unfold w_X10_join_56 at hw
    refine lv_iload_n hx hb dX10_join_56 rfl (lv_at hl 3 rfl) ?_
    refine lv_aload_n hx hb dX10_join_57 rfl (lv_at hl 0 rfl) ?_
    refine gf_X10_13 E hI t_v0 dX10_join_58 ?_
    refine lv_icmp_gt (tgt := 157) hx hb dX10_join_61 (by decide) (fun h_1 => ?_) (fun h_1 => ?_)
    · replace hw := hw.1 h_1
      refine lv_aload_n hx hb dX10_join_157 rfl (lv_at hl 0 rfl) ?_
      refine lv_bipush (v := (10 : Int32)) hx hb dX10_join_158 (by decide) ?_
      refine lv_iload_n hx hb dX10_join_160 rfl (lv_at hl 1 rfl) ?_
      refine lv_iload_n hx hb dX10_join_161 rfl (lv_at hl 2 rfl) ?_
      refine lv_iconst (v := (1 : Int32)) hx hb dX10_join_162 (by decide) ?_
      refine lv_aload_n hx hb dX10_join_163 rfl (lv_at hl 0 rfl) ?_
      obtain ⟨q_2, e_q_2, hw⟩ := hw
      refine gf_X10_38 E hI t_v0 dX10_join_164 e_q_2 (fun t_q_2 => ?_)
      refine lv_iload_n hx hb dX10_join_167 rfl (lv_at hl 1 rfl) ?_
      obtain ⟨h_3, hw⟩ := hw
      refine pm_iald E hI t_q_2 h_3 dX10_join_168 ?_
      refine lv_aload_n hx hb dX10_join_169 rfl (lv_at hl 0 rfl) ?_
      refine gf_X10_38 E hI t_v0 dX10_join_170 e_q_2 (fun _ => ?_)
      refine lv_iload_n hx hb dX10_join_173 rfl (lv_at hl 2 rfl) ?_
      obtain ⟨h_4, hw⟩ := hw
      refine pm_iald E hI t_q_2 h_4 dX10_join_174 ?_
      refine pm_callS (As := [.int (mI M q_2 v1.toNatClampNeg), .int (mI M q_2 v2.toNatClampNeg)]) (rest := [.int (1 : Int32), .int v2, .int v1, .int (10 : Int32), .ref (H0.size + v0)]) 2 E hI (k_J9_max_7cf53 hw) kc_J9_max_7cf53 kl_X10_111 kt_J9_max_7cf53 ki_J9 (by decide +kernel) ⟨by decide, by decide⟩ rfl hl.1 rfl (by first | exact Nat.le_of_ble_eq_true rfl | (simp only [List.map, pm_rf_cat]; exact Nat.le_of_ble_eq_true rfl)) dX10_join_175 ⟨by decide, by decide⟩ (fun r9 M9 H locs hp hX1 hI => ?_)
      clear hw
      obtain ⟨r_5, rfl, rfl, hw⟩ := hp
      refine pm_nrm (cells' := 0) (slots' := 0) (g2 := F0 m 178 ls [.int r_5, .int (1 : Int32), .int v2, .int v1, .int (10 : Int32), .ref (H0.size + v0)]) rfl rfl rfl ?_
      refine lv_iadd hx hb dX10_join_178 ?_
      refine pm_callV (As := [.int (10 : Int32), .int v1, .int v2, .int ((1 : Int32) + r_5)]) (rest := []) 4 E hI (k_X10_made t_v0 hw) t_v0 (by decide) rfl kc_X10_made kl_X10_146 km_X10_made ks_X10_made ki_X10 (by decide +kernel) ⟨by decide, by decide⟩ rfl hl.1 rfl (by first | exact Nat.le_of_ble_eq_true rfl | (simp only [List.map, pm_rf_cat]; exact Nat.le_of_ble_eq_true rfl)) dX10_join_179 ⟨by decide, by decide⟩ (fun r9 M_6 H locs hp hX1 hI => ?_)
      clear hw
      obtain ⟨r_7, rfl, hw⟩ := hp
      replace t_v0 := t_v0.x hX1
      replace hX := hX.tr hX1
      refine pm_nrm (cells' := 0) (slots' := 0) (g2 := F0 m 182 ls [.int r_7]) rfl rfl rfl ?_
      exact pm_iret E hret hI hX ⟨_, rfl, hw⟩ (by decide) (by decide) dX10_join_182
    · replace hw := hw.2 h_1
      refine lv_aload_n hx hb dX10_join_64 rfl (lv_at hl 0 rfl) ?_
      refine lv_iload_n hx hb dX10_join_65 rfl (lv_at hl 2 rfl) ?_
      refine lv_iload_n hx hb dX10_join_66 rfl (lv_at hl 3 rfl) ?_
      refine pm_callV (As := [.int v2, .int v3]) (rest := []) 2 E hI (k_X10_isAllowed t_v0 hw) t_v0 (by decide) rfl kc_X10_isAllowed kl_X10_100 km_X10_isAllowed ks_X10_isAllowed ki_X10 (by decide +kernel) ⟨by decide, by decide⟩ rfl hl.1 rfl (by first | exact Nat.le_of_ble_eq_true rfl | (simp only [List.map, pm_rf_cat]; exact Nat.le_of_ble_eq_true rfl)) dX10_join_67 ⟨by decide, by decide⟩ (fun r9 M9 H locs hp hX1 hI => ?_)
      clear hw
      obtain ⟨r_8, rfl, rfl, hw⟩ := hp
      refine pm_nrm (cells' := 0) (slots' := 0) (g2 := F0 m 70 ls [.int r_8]) rfl rfl rfl ?_
      refine lv_if_eq (tgt := 86) hx hb dX10_join_70 (by decide) (fun h_9 => ?_) (fun h_9 => ?_)
      · replace hw := hw.1 h_9
        exact c_X10_join_86 E hret ih hX hI t_v0 (lv_sub hl [0, 1, 2, 3] rfl) hw
      · replace hw := hw.2 h_9
        refine lv_aload_n hx hb dX10_join_73 rfl (lv_at hl 0 rfl) ?_
        refine lv_iload_n hx hb dX10_join_74 rfl (lv_at hl 1 rfl) ?_
        refine lv_iconst (v := (0 : Int32)) hx hb dX10_join_75 (by decide) ?_
        refine pm_callV (As := [.int v1, .int (0 : Int32)]) (rest := []) 2 E hI (k_X10_isAllowed t_v0 hw) t_v0 (by decide) rfl kc_X10_isAllowed kl_X10_100 km_X10_isAllowed ks_X10_isAllowed ki_X10 (by decide +kernel) ⟨by decide, by decide⟩ rfl hl.1 rfl (by first | exact Nat.le_of_ble_eq_true rfl | (simp only [List.map, pm_rf_cat]; exact Nat.le_of_ble_eq_true rfl)) dX10_join_76 ⟨by decide, by decide⟩ (fun r9 M9 H locs hp hX1 hI => ?_)
        clear hw
        obtain ⟨r_10, rfl, rfl, hw⟩ := hp
        refine pm_nrm (cells' := 0) (slots' := 0) (g2 := F0 m 79 ls [.int r_10]) rfl rfl rfl ?_
        refine lv_if_eq (tgt := 86) hx hb dX10_join_79 (by decide) (fun h_11 => ?_) (fun h_11 => ?_)
        · replace hw := hw.1 h_11
          exact c_X10_join_86 E hret ih hX hI t_v0 (lv_sub hl [0, 1, 2, 3] rfl) hw
        · replace hw := hw.2 h_11
          refine lv_iconst (v := (1 : Int32)) hx hb dX10_join_82 (by decide) ?_
          refine lv_goto (tgt := 87) hx hb dX10_join_83 (by decide) ?_
          exact c_X10_join_87 E hret ih hX hI t_v0 (lv_sub hl [0, 1, 2, 3] rfl) hw
set_option maxHeartbeats 4000000 in
set_option maxRecDepth 100000 in
theorem c_X10_join_51 {p : Program} {l : Launch} {e : Env} {s : State} {m : MethodId} {args : Array Value} {below : List Frame} {meth : Method} {c : Code} {G : pm_G} {H0 : Heap} {M0 : pm_M} {Post : Int32 → pm_M → Prop} {M : pm_M} (E : pm_E G p s m args meth c cX10_join 6 RX10) (hret : meth.sig.returnType = (some .int)) {H : Heap} {locs : List Loc} {ls : Array Slot} (hX : pm_X M0 M) (hI : pm_I G H0 M H locs) (hl : lv_has ls 6 []) (hw : w_X10_join_51 Post M) : W p l e rm_X10_join s m args below meth c H locs 0 0 (pm_Z G H0 M0 (pm_Pi Post) below args s rm_X10_join.cells rm_X10_join.slots) (F0 m 51 ls []) := by
  have hx := E.1
  have hb := E.2.1
  have hown := E.2.2.2.1
  have hts := E.2.2.2.2.1
  unfold w_X10_join_51 at hw
  refine lv_bipush (v := (-3 : Int32)) hx hb dX10_join_51 (by decide) ?_
  exact pm_iret E hret hI hX ⟨_, rfl, hw⟩ (by decide) (by decide) dX10_join_53
set_option maxHeartbeats 4000000 in
set_option maxRecDepth 100000 in
theorem c_X10_join_16 {p : Program} {l : Launch} {e : Env} {s : State} {m : MethodId} {args : Array Value} {below : List Frame} {meth : Method} {c : Code} {G : pm_G} {H0 : Heap} {M0 : pm_M} {Post : Int32 → pm_M → Prop} {M : pm_M} (E : pm_E G p s m args meth c cX10_join 6 RX10) (hret : meth.sig.returnType = (some .int)) {H : Heap} {locs : List Loc} {ls : Array Slot} (hX : pm_X M0 M) (hI : pm_I G H0 M H locs) (hl : lv_has ls 6 []) (hw : w_X10_join_16 Post M) : W p l e rm_X10_join s m args below meth c H locs 0 0 (pm_Z G H0 M0 (pm_Pi Post) below args s rm_X10_join.cells rm_X10_join.slots) (F0 m 16 ls []) := by
  have hx := E.1
  have hb := E.2.1
  have hown := E.2.2.2.1
  have hts := E.2.2.2.2.1
  unfold w_X10_join_16 at hw
  refine lv_bipush (v := (-2 : Int32)) hx hb dX10_join_16 (by decide) ?_
  exact pm_iret E hret hI hX ⟨_, rfl, hw⟩ (by decide) (by decide) dX10_join_18
set_option maxHeartbeats 4000000 in
set_option maxRecDepth 100000 in
theorem k_X10_join {l : Launch} {G : pm_G} {H0 : Heap} {th : Nat} {a1 : Int32} {a2 : Int32} {M : pm_M} {Post : Int32 → pm_M → Prop} (t_th : pm_is M th 9) (hw : w_X10_join th a1 a2 M Post) : pm_C l G H0 yX10_join cX10_join 6 (some .int) rm_X10_join [.ref (H0.size + th), .int a1, .int a2] M (pm_Pi Post) := by
  refine pm_start (by decide +kernel) (Nat.le_of_ble_eq_true rfl) ?_
  intro p e s m args below meth c H ls E hret hnm hI hl
  have hX : pm_X M M := pm_X.rf
  have hl : lv_has ls 6 [(0, .ref (H0.size + th)), (1, .int a1), (2, .int a2)] := hl
  have hx := E.1
  have hb := E.2.1
  have hown := E.2.2.2.1
  have hts := E.2.2.2.2.1
  unfold w_X10_join at hw
  refine lv_aload_n hx hb dX10_join_0 rfl (lv_at hl 0 rfl) ?_
  refine lv_iload_n hx hb dX10_join_1 rfl (lv_at hl 1 rfl) ?_
  refine pm_callV (As := [.int a1]) (rest := []) 1 E hI (k_X10_isRule t_th hw) t_th (by decide) rfl kc_X10_isRule kl_X10_191 km_X10_isRule ks_X10_isRule ki_X10 (by decide +kernel) ⟨by decide, by decide⟩ rfl hl.1 rfl (by first | exact Nat.le_of_ble_eq_true rfl | (simp only [List.map, pm_rf_cat]; exact Nat.le_of_ble_eq_true rfl)) dX10_join_2 ⟨by decide, by decide⟩ (fun r9 M9 H locs hp hX1 hI => ?_)
  clear hw
  obtain ⟨r_1, rfl, rfl, hw⟩ := hp
  refine pm_nrm (cells' := 0) (slots' := 0) (g2 := F0 m 5 ls [.int r_1]) rfl rfl rfl ?_
  refine lv_if_eq (tgt := 16) hx hb dX10_join_5 (by decide) (fun h_2 => ?_) (fun h_2 => ?_)
  · replace hw := hw.1 h_2
    exact c_X10_join_16 E hret hX hI (lv_sub hl [] rfl) hw
  · replace hw := hw.2 h_2
    refine lv_aload_n hx hb dX10_join_8 rfl (lv_at hl 0 rfl) ?_
    refine lv_iload_n hx hb dX10_join_9 rfl (lv_at hl 2 rfl) ?_
    refine pm_callV (As := [.int a2]) (rest := []) 1 E hI (k_X10_isRule t_th hw) t_th (by decide) rfl kc_X10_isRule kl_X10_191 km_X10_isRule ks_X10_isRule ki_X10 (by decide +kernel) ⟨by decide, by decide⟩ rfl hl.1 rfl (by first | exact Nat.le_of_ble_eq_true rfl | (simp only [List.map, pm_rf_cat]; exact Nat.le_of_ble_eq_true rfl)) dX10_join_10 ⟨by decide, by decide⟩ (fun r9 M9 H locs hp hX1 hI => ?_)
    clear hw
    obtain ⟨r_3, rfl, rfl, hw⟩ := hp
    refine pm_nrm (cells' := 0) (slots' := 0) (g2 := F0 m 13 ls [.int r_3]) rfl rfl rfl ?_
    refine lv_if_ne (tgt := 19) hx hb dX10_join_13 (by decide) (fun h_4 => ?_) (fun h_4 => ?_)
    · replace hw := hw.1 h_4
      refine lv_aload_n hx hb dX10_join_19 rfl (lv_at hl 0 rfl) ?_
      refine gf_X10_85 E hI t_th dX10_join_20 ?_
      refine lv_bipush (v := (24 : Int32)) hx hb dX10_join_23 (by decide) ?_
      refine lv_icmp_ne (tgt := 31) hx hb dX10_join_25 (by decide) (fun h_5 => ?_) (fun h_5 => ?_)
      · replace hw := hw.1 h_5
        refine lv_aload_n hx hb dX10_join_31 rfl (lv_at hl 0 rfl) ?_
        obtain ⟨q_6, e_q_6, hw⟩ := hw
        refine gf_X10_38 E hI t_th dX10_join_32 e_q_6 (fun t_q_6 => ?_)
        refine lv_iload_n hx hb dX10_join_35 rfl (lv_at hl 1 rfl) ?_
        obtain ⟨h_7, hw⟩ := hw
        refine pm_iald E hI t_q_6 h_7 dX10_join_36 ?_
        refine lv_iconst (v := (3 : Int32)) hx hb dX10_join_37 (by decide) ?_
        refine lv_icmp_eq (tgt := 51) hx hb dX10_join_38 (by decide) (fun h_8 => ?_) (fun h_8 => ?_)
        · replace hw := hw.1 h_8
          exact c_X10_join_51 E hret hX hI (lv_sub hl [] rfl) hw
        · replace hw := hw.2 h_8
          refine lv_aload_n hx hb dX10_join_41 rfl (lv_at hl 0 rfl) ?_
          refine gf_X10_38 E hI t_th dX10_join_42 e_q_6 (fun _ => ?_)
          refine lv_iload_n hx hb dX10_join_45 rfl (lv_at hl 2 rfl) ?_
          obtain ⟨h_9, hw⟩ := hw
          refine pm_iald E hI t_q_6 h_9 dX10_join_46 ?_
          refine lv_iconst (v := (3 : Int32)) hx hb dX10_join_47 (by decide) ?_
          refine lv_icmp_ne (tgt := 54) hx hb dX10_join_48 (by decide) (fun h_10 => ?_) (fun h_10 => ?_)
          · replace hw := hw.1 h_10
            refine lv_iconst (v := (0 : Int32)) hx hb dX10_join_54 (by decide) ?_
            refine lv_istore_n (lv' := [(3, .int (0 : Int32)), (0, .ref (H0.size + th)), (1, .int a1), (2, .int a2)]) hx hb dX10_join_55 rfl hl (by decide) rfl (fun ls hl_11 => ?_)
            obtain ⟨n_12, hw⟩ := hw
            exact c_X10_join_56 E hret n_12 _ _ _ _ _ hX hI t_th (lv_sub hl_11 [1, 2, 3, 0] rfl) hw
          · replace hw := hw.2 h_10
            exact c_X10_join_51 E hret hX hI (lv_sub hl [] rfl) hw
      · replace hw := hw.2 h_5
        refine lv_bipush (v := (-8 : Int32)) hx hb dX10_join_28 (by decide) ?_
        exact pm_iret E hret hI hX ⟨_, rfl, hw⟩ (by decide) (by decide) dX10_join_30
    · replace hw := hw.2 h_4
      exact c_X10_join_16 E hret hX hI (lv_sub hl [] rfl) hw
set_option maxHeartbeats 4000000 in
set_option maxRecDepth 100000 in
theorem c_X10_broken_19 {p : Program} {l : Launch} {e : Env} {s : State} {m : MethodId} {args : Array Value} {below : List Frame} {meth : Method} {c : Code} {G : pm_G} {H0 : Heap} {Post : Int32 → Prop} {s0 : Int32} {M : pm_M} (E : pm_E G p s m args meth c cX10_broken 2 RX10) (hret : meth.sig.returnType = (some .int)) {H : Heap} {locs : List Loc} {ls : Array Slot} (hI : pm_I G H0 M H locs) (hl : lv_has ls 2 []) (hw : w_X10_broken_19 Post s0 M) : W p l e rm_X10_broken s m args below meth c H locs 0 0 (pm_Z G H0 M (pm_Pi (fun r9 M9 => M = M9 ∧ Post r9)) below args s rm_X10_broken.cells rm_X10_broken.slots) (F0 m 19 ls [.int s0]) := by
  have hx := E.1
  have hb := E.2.1
  have hown := E.2.2.2.1
  have hts := E.2.2.2.2.1
  unfold w_X10_broken_19 at hw
  exact pm_iret E hret hI pm_X.rf ⟨_, rfl, rfl, hw⟩ (by decide) (by decide) dX10_broken_19
set_option maxHeartbeats 4000000 in
set_option maxRecDepth 100000 in
theorem c_X10_broken_9 {p : Program} {l : Launch} {e : Env} {s : State} {m : MethodId} {args : Array Value} {below : List Frame} {meth : Method} {c : Code} {G : pm_G} {H0 : Heap} {Post : Int32 → Prop} {M : pm_M} (E : pm_E G p s m args meth c cX10_broken 2 RX10) (hret : meth.sig.returnType = (some .int)) {H : Heap} {locs : List Loc} {ls : Array Slot} (hI : pm_I G H0 M H locs) (hl : lv_has ls 2 []) (hw : w_X10_broken_9 Post M) : W p l e rm_X10_broken s m args below meth c H locs 0 0 (pm_Z G H0 M (pm_Pi (fun r9 M9 => M = M9 ∧ Post r9)) below args s rm_X10_broken.cells rm_X10_broken.slots) (F0 m 9 ls []) := by
  have hx := E.1
  have hb := E.2.1
  have hown := E.2.2.2.1
  have hts := E.2.2.2.2.1
  unfold w_X10_broken_9 at hw
  refine lv_iconst (v := (-1 : Int32)) hx hb dX10_broken_9 (by decide) ?_
  refine lv_goto (tgt := 19) hx hb dX10_broken_10 (by decide) ?_
  exact c_X10_broken_19 E hret hI (lv_sub hl [] rfl) hw
set_option maxHeartbeats 4000000 in
set_option maxRecDepth 100000 in
theorem k_X10_broken {l : Launch} {G : pm_G} {H0 : Heap} {th : Nat} {a1 : Int32} {M : pm_M} {Post : Int32 → Prop} (t_th : pm_is M th 9) (hw : w_X10_broken th a1 M Post) : pm_C l G H0 yX10_broken cX10_broken 2 (some .int) rm_X10_broken [.ref (H0.size + th), .int a1] M (pm_Pi (fun r9 M9 => M = M9 ∧ Post r9)) := by
  refine pm_start (by decide +kernel) (Nat.le_of_ble_eq_true rfl) ?_
  intro p e s m args below meth c H ls E hret hnm hI hl
  have hl : lv_has ls 2 [(0, .ref (H0.size + th)), (1, .int a1)] := hl
  have hx := E.1
  have hb := E.2.1
  have hown := E.2.2.2.1
  have hts := E.2.2.2.2.1
  unfold w_X10_broken at hw
  refine lv_iload_n hx hb dX10_broken_0 rfl (lv_at hl 1 rfl) ?_
  refine lv_if_lt (tgt := 9) hx hb dX10_broken_1 (by decide) (fun h_1 => ?_) (fun h_1 => ?_)
  · replace hw := hw.1 h_1
    exact c_X10_broken_9 E hret hI (lv_sub hl [] rfl) hw
  · replace hw := hw.2 h_1
    refine lv_iload_n hx hb dX10_broken_4 rfl (lv_at hl 1 rfl) ?_
    refine lv_iconst (v := (2 : Int32)) hx hb dX10_broken_5 (by decide) ?_
    refine lv_icmp_le (tgt := 13) hx hb dX10_broken_6 (by decide) (fun h_2 => ?_) (fun h_2 => ?_)
    · replace hw := hw.1 h_2
      refine lv_aload_n hx hb dX10_broken_13 rfl (lv_at hl 0 rfl) ?_
      obtain ⟨q_3, e_q_3, hw⟩ := hw
      refine gf_X10_41 E hI t_th dX10_broken_14 e_q_3 (fun t_q_3 => ?_)
      refine lv_iload_n hx hb dX10_broken_17 rfl (lv_at hl 1 rfl) ?_
      obtain ⟨h_4, hw⟩ := hw
      refine pm_iald E hI t_q_3 h_4 dX10_broken_18 ?_
      exact c_X10_broken_19 E hret hI (lv_sub hl [] rfl) hw
    · replace hw := hw.2 h_2
      exact c_X10_broken_9 E hret hI (lv_sub hl [] rfl) hw
set_option maxHeartbeats 4000000 in
set_option maxRecDepth 100000 in
theorem c_X10_look_95 {p : Program} {l : Launch} {e : Env} {s : State} {m : MethodId} {args : Array Value} {below : List Frame} {meth : Method} {c : Code} {G : pm_G} {H0 : Heap} {Post : Int32 → Prop} {v0 : Nat} {v1 : Int32} {v4 : Int32} {s0 : Int32} {s1 : Int32} {M : pm_M} {k_70 : Int32 → Int32 → Prop} (E : pm_E G p s m args meth c cX10_look 5 RX10) (hret : meth.sig.returnType = (some .int)) (hk_70 : ∀ (v3 : Int32) (v4 : Int32) (H : Heap) (locs : List Loc) (ls : Array Slot), pm_I G H0 M H locs → (pm_is M v0 9) → lv_has ls 5 [(0, .ref (H0.size + v0)), (1, .int v1), (3, .int v3), (4, .int v4)] → k_70 v3 v4 → W p l e rm_X10_look s m args below meth c H locs 0 0 (pm_Z G H0 M (pm_Pi (fun r9 M9 => M = M9 ∧ Post r9)) below args s rm_X10_look.cells rm_X10_look.slots) (F0 m 70 ls [])) {H : Heap} {locs : List Loc} {ls : Array Slot} (hI : pm_I G H0 M H locs) (t_v0 : pm_is M v0 9) (hl : lv_has ls 5 [(0, .ref (H0.size + v0)), (1, .int v1), (4, .int v4)]) (hw : w_X10_look_95 Post k_70 v0 v1 v4 s0 s1 M) : W p l e rm_X10_look s m args below meth c H locs 0 0 (pm_Z G H0 M (pm_Pi (fun r9 M9 => M = M9 ∧ Post r9)) below args s rm_X10_look.cells rm_X10_look.slots) (F0 m 95 ls [.int s1, .int s0]) := by
  have hx := E.1
  have hb := E.2.1
  have hown := E.2.2.2.1
  have hts := E.2.2.2.2.1
  unfold w_X10_look_95 at hw
  refine lv_iadd hx hb dX10_look_95 ?_
  refine lv_topi (fun x_1 e_x_1 => ?_)
  replace hw := hw x_1 e_x_1
  refine lv_istore_n (lv' := [(3, .int x_1), (0, .ref (H0.size + v0)), (1, .int v1), (4, .int v4)]) hx hb dX10_look_96 rfl hl (by decide) rfl (fun ls hl_2 => ?_)
  obtain ⟨x_3, e_x_3⟩ : ∃ z : Int32, z = v4 + (1 : Int32) := ⟨_, rfl⟩
  refine lv_iinc (v := x_3) (lv' := [(4, .int x_3), (3, .int x_1), (0, .ref (H0.size + v0)), (1, .int v1)]) hx hb dX10_look_97 hl_2 (k := 3) rfl (by rw [e_x_3]; rfl) (by decide) rfl (fun ls hl_4 => ?_)
  replace hw := hw x_3 e_x_3
  refine lv_goto (tgt := 70) hx hb dX10_look_100 (by decide) ?_
  exact hk_70 _ _ _ _ _ hI t_v0 (lv_sub hl_4 [2, 3, 1, 0] rfl) hw
set_option maxHeartbeats 4000000 in
set_option maxRecDepth 100000 in
theorem c_X10_look_70 {p : Program} {l : Launch} {e : Env} {s : State} {m : MethodId} {args : Array Value} {below : List Frame} {meth : Method} {c : Code} {G : pm_G} {H0 : Heap} {Post : Int32 → Prop} {v0 : Nat} {v1 : Int32} {M : pm_M} (E : pm_E G p s m args meth c cX10_look 5 RX10) (hret : meth.sig.returnType = (some .int)) : ∀ (n : Nat) (v3 : Int32) (v4 : Int32) (H : Heap) (locs : List Loc) (ls : Array Slot), pm_I G H0 M H locs → (pm_is M v0 9) → lv_has ls 5 [(0, .ref (H0.size + v0)), (1, .int v1), (3, .int v3), (4, .int v4)] → w_X10_look_70 Post v0 v1 M n v3 v4 → W p l e rm_X10_look s m args below meth c H locs 0 0 (pm_Z G H0 M (pm_Pi (fun r9 M9 => M = M9 ∧ Post r9)) below args s rm_X10_look.cells rm_X10_look.slots) (F0 m 70 ls []) := by
  have hx := E.1
  have hb := E.2.1
  have hown := E.2.2.2.1
  have hts := E.2.2.2.2.1
  intro n
  induction n with
  | zero =>
    intro v3 v4 H locs ls hI t_v0 hl hw
    unfold w_X10_look_70 at hw
    exact hw.elim
  | succ n ih =>
    intro v3 v4 H locs ls hI t_v0 hl hw
    unfold w_X10_look_70 at hw
    refine lv_iload hx hb dX10_look_70 (lv_at hl 3 rfl) ?_
    refine lv_aload_n hx hb dX10_look_72 rfl (lv_at hl 0 rfl) ?_
    refine gf_X10_13 E hI t_v0 dX10_look_73 ?_
    refine lv_icmp_gt (tgt := 103) hx hb dX10_look_76 (by decide) (fun h_1 => ?_) (fun h_1 => ?_)
    · replace hw := hw.1 h_1
      refine lv_iload_n hx hb dX10_look_103 rfl (lv_at hl 2 rfl) ?_
      exact pm_iret E hret hI pm_X.rf ⟨_, rfl, rfl, hw⟩ (by decide) (by decide) dX10_look_104
    · replace hw := hw.2 h_1
      refine lv_iload_n hx hb dX10_look_79 rfl (lv_at hl 2 rfl) ?_
      refine lv_aload_n hx hb dX10_look_80 rfl (lv_at hl 0 rfl) ?_
      refine lv_iload_n hx hb dX10_look_81 rfl (lv_at hl 1 rfl) ?_
      refine lv_iload hx hb dX10_look_82 (lv_at hl 3 rfl) ?_
      refine pm_callV (As := [.int v1, .int v4]) (rest := [.int v3]) 2 E hI (k_X10_isAllowed t_v0 hw) t_v0 (by decide) rfl kc_X10_isAllowed kl_X10_100 km_X10_isAllowed ks_X10_isAllowed ki_X10 (by decide +kernel) ⟨by decide, by decide⟩ rfl hl.1 rfl (by first | exact Nat.le_of_ble_eq_true rfl | (simp only [List.map, pm_rf_cat]; exact Nat.le_of_ble_eq_true rfl)) dX10_look_84 ⟨by decide, by decide⟩ (fun r9 M9 H locs hp hX1 hI => ?_)
      clear hw
      obtain ⟨r_2, rfl, rfl, hw⟩ := hp
      refine pm_nrm (cells' := 0) (slots' := 0) (g2 := F0 m 87 ls [.int r_2, .int v3]) rfl rfl rfl ?_
      refine lv_if_eq (tgt := 94) hx hb dX10_look_87 (by decide) (fun h_3 => ?_) (fun h_3 => ?_)
      · replace hw := hw.1 h_3
        refine lv_iconst (v := (0 : Int32)) hx hb dX10_look_94 (by decide) ?_
        exact c_X10_look_95 E hret ih hI t_v0 (lv_sub hl [0, 1, 3] rfl) hw
      · replace hw := hw.2 h_3
        refine lv_iconst (v := (1 : Int32)) hx hb dX10_look_90 (by decide) ?_
        refine lv_goto (tgt := 95) hx hb dX10_look_91 (by decide) ?_
        exact c_X10_look_95 E hret ih hI t_v0 (lv_sub hl [0, 1, 3] rfl) hw
set_option maxHeartbeats 4000000 in
set_option maxRecDepth 100000 in
theorem k_X10_look {l : Launch} {G : pm_G} {H0 : Heap} {th : Nat} {a1 : Int32} {a2 : Int32} {M : pm_M} {Post : Int32 → Prop} (t_th : pm_is M th 9) (hw : w_X10_look th a1 a2 M Post) : pm_C l G H0 yX10_look cX10_look 5 (some .int) rm_X10_look [.ref (H0.size + th), .int a1, .int a2] M (pm_Pi (fun r9 M9 => M = M9 ∧ Post r9)) := by
  refine pm_start (by decide +kernel) (Nat.le_of_ble_eq_true rfl) ?_
  intro p e s m args below meth c H ls E hret hnm hI hl
  have hl : lv_has ls 5 [(0, .ref (H0.size + th)), (1, .int a1), (2, .int a2)] := hl
  have hx := E.1
  have hb := E.2.1
  have hown := E.2.2.2.1
  have hts := E.2.2.2.2.1
  unfold w_X10_look at hw
  refine lv_aload_n hx hb dX10_look_0 rfl (lv_at hl 0 rfl) ?_
  refine lv_iload_n hx hb dX10_look_1 rfl (lv_at hl 1 rfl) ?_
  refine pm_callV (As := [.int a1]) (rest := []) 1 E hI (k_X10_isRule t_th hw) t_th (by decide) rfl kc_X10_isRule kl_X10_191 km_X10_isRule ks_X10_isRule ki_X10 (by decide +kernel) ⟨by decide, by decide⟩ rfl hl.1 rfl (by first | exact Nat.le_of_ble_eq_true rfl | (simp only [List.map, pm_rf_cat]; exact Nat.le_of_ble_eq_true rfl)) dX10_look_2 ⟨by decide, by decide⟩ (fun r9 M9 H locs hp hX1 hI => ?_)
  clear hw
  obtain ⟨r_1, rfl, rfl, hw⟩ := hp
  refine pm_nrm (cells' := 0) (slots' := 0) (g2 := F0 m 5 ls [.int r_1]) rfl rfl rfl ?_
  refine lv_if_ne (tgt := 10) hx hb dX10_look_5 (by decide) (fun h_2 => ?_) (fun h_2 => ?_)
  · replace hw := hw.1 h_2
    refine lv_iload_n hx hb dX10_look_10 rfl (lv_at hl 2 rfl) ?_
    refine pm_cases (x := a2) 0 6 (fun j hj h9 => ?_) (fun h9 => ?_)
    · match j, hj, h9 with
      | 0, hj, h9 =>
        refine lv_tableIn (tgt := 48) hx hb dX10_look_11 (by rw [h9]; decide) (by rw [h9]; decide) (by rw [h9]; rfl) (by decide) ?_
        replace hw := hw.1 h9
        refine lv_aload_n hx hb dX10_look_48 rfl (lv_at hl 0 rfl) ?_
        obtain ⟨q_3, e_q_3, hw⟩ := hw
        refine gf_X10_29 E hI t_th dX10_look_49 e_q_3 (fun t_q_3 => ?_)
        refine lv_iload_n hx hb dX10_look_52 rfl (lv_at hl 1 rfl) ?_
        obtain ⟨h_4, hw⟩ := hw
        refine pm_iald E hI t_q_3 h_4 dX10_look_53 ?_
        exact pm_iret E hret hI pm_X.rf ⟨_, rfl, rfl, hw⟩ (by decide) (by decide) dX10_look_54
      | 1, hj, h9 =>
        refine lv_tableIn (tgt := 55) hx hb dX10_look_11 (by rw [h9]; decide) (by rw [h9]; decide) (by rw [h9]; rfl) (by decide) ?_
        replace hw := hw.2.1 h9
        refine lv_aload_n hx hb dX10_look_55 rfl (lv_at hl 0 rfl) ?_
        refine lv_iload_n hx hb dX10_look_56 rfl (lv_at hl 1 rfl) ?_
        refine lv_aload_n hx hb dX10_look_57 rfl (lv_at hl 0 rfl) ?_
        refine gf_X10_13 E hI t_th dX10_look_58 ?_
        refine pm_callV (As := [.int a1, .int (mI M th 1)]) (rest := []) 2 E hI (k_X10_rankOf t_th hw) t_th (by decide) rfl kc_X10_rankOf kl_X10_108 km_X10_rankOf ks_X10_rankOf ki_X10 (by decide +kernel) ⟨by decide, by decide⟩ rfl hl.1 rfl (by first | exact Nat.le_of_ble_eq_true rfl | (simp only [List.map, pm_rf_cat]; exact Nat.le_of_ble_eq_true rfl)) dX10_look_61 ⟨by decide, by decide⟩ (fun r9 M9 H locs hp hX1 hI => ?_)
        clear hw
        obtain ⟨r_5, rfl, rfl, hw⟩ := hp
        refine pm_nrm (cells' := 0) (slots' := 0) (g2 := F0 m 64 ls [.int r_5]) rfl rfl rfl ?_
        exact pm_iret E hret hI pm_X.rf ⟨_, rfl, rfl, hw⟩ (by decide) (by decide) dX10_look_64
      | 2, hj, h9 =>
        refine lv_tableIn (tgt := 65) hx hb dX10_look_11 (by rw [h9]; decide) (by rw [h9]; decide) (by rw [h9]; rfl) (by decide) ?_
        replace hw := hw.2.2.1 h9
        refine lv_iconst (v := (0 : Int32)) hx hb dX10_look_65 (by decide) ?_
        refine lv_istore_n (lv' := [(3, .int (0 : Int32)), (0, .ref (H0.size + th)), (1, .int a1), (2, .int a2)]) hx hb dX10_look_66 rfl hl (by decide) rfl (fun ls hl_6 => ?_)
        refine lv_iconst (v := (0 : Int32)) hx hb dX10_look_67 (by decide) ?_
        refine lv_istore (lv' := [(4, .int (0 : Int32)), (3, .int (0 : Int32)), (0, .ref (H0.size + th)), (1, .int a1), (2, .int a2)]) hx hb dX10_look_68 hl_6 (by decide) rfl (fun ls hl_7 => ?_)
        obtain ⟨n_8, hw⟩ := hw
        exact c_X10_look_70 E hret n_8 _ _ _ _ _ hI t_th (lv_sub hl_7 [2, 3, 1, 0] rfl) hw
      | 3, hj, h9 =>
        refine lv_tableIn (tgt := 105) hx hb dX10_look_11 (by rw [h9]; decide) (by rw [h9]; decide) (by rw [h9]; rfl) (by decide) ?_
        replace hw := hw.2.2.2.1 h9
        refine lv_aload_n hx hb dX10_look_105 rfl (lv_at hl 0 rfl) ?_
        obtain ⟨q_9, e_q_9, hw⟩ := hw
        refine gf_X10_32 E hI t_th dX10_look_106 e_q_9 (fun t_q_9 => ?_)
        refine lv_iload_n hx hb dX10_look_109 rfl (lv_at hl 1 rfl) ?_
        obtain ⟨h_10, hw⟩ := hw
        refine pm_iald E hI t_q_9 h_10 dX10_look_110 ?_
        exact pm_iret E hret hI pm_X.rf ⟨_, rfl, rfl, hw⟩ (by decide) (by decide) dX10_look_111
      | 4, hj, h9 =>
        refine lv_tableIn (tgt := 112) hx hb dX10_look_11 (by rw [h9]; decide) (by rw [h9]; decide) (by rw [h9]; rfl) (by decide) ?_
        replace hw := hw.2.2.2.2.1 h9
        refine lv_aload_n hx hb dX10_look_112 rfl (lv_at hl 0 rfl) ?_
        obtain ⟨q_11, e_q_11, hw⟩ := hw
        refine gf_X10_35 E hI t_th dX10_look_113 e_q_11 (fun t_q_11 => ?_)
        refine lv_iload_n hx hb dX10_look_116 rfl (lv_at hl 1 rfl) ?_
        obtain ⟨h_12, hw⟩ := hw
        refine pm_iald E hI t_q_11 h_12 dX10_look_117 ?_
        exact pm_iret E hret hI pm_X.rf ⟨_, rfl, rfl, hw⟩ (by decide) (by decide) dX10_look_118
      | 5, hj, h9 =>
        refine lv_tableIn (tgt := 119) hx hb dX10_look_11 (by rw [h9]; decide) (by rw [h9]; decide) (by rw [h9]; rfl) (by decide) ?_
        replace hw := hw.2.2.2.2.2.1 h9
        refine lv_aload_n hx hb dX10_look_119 rfl (lv_at hl 0 rfl) ?_
        obtain ⟨q_13, e_q_13, hw⟩ := hw
        refine gf_X10_38 E hI t_th dX10_look_120 e_q_13 (fun t_q_13 => ?_)
        refine lv_iload_n hx hb dX10_look_123 rfl (lv_at hl 1 rfl) ?_
        obtain ⟨h_14, hw⟩ := hw
        refine pm_iald E hI t_q_13 h_14 dX10_look_124 ?_
        exact pm_iret E hret hI pm_X.rf ⟨_, rfl, rfl, hw⟩ (by decide) (by decide) dX10_look_125
      | (j + 6), hj, h9 => exact absurd hj (by omega)
    · refine lv_tableOut (tgt := 126) hx hb dX10_look_11 (pm_out h9) (by decide) ?_
      replace hw := hw.2.2.2.2.2.2 h9
      refine lv_iconst (v := (-1 : Int32)) hx hb dX10_look_126 (by decide) ?_
      exact pm_iret E hret hI pm_X.rf ⟨_, rfl, rfl, hw⟩ (by decide) (by decide) dX10_look_127
  · replace hw := hw.2 h_2
    refine lv_iconst (v := (-1 : Int32)) hx hb dX10_look_8 (by decide) ?_
    exact pm_iret E hret hI pm_X.rf ⟨_, rfl, rfl, hw⟩ (by decide) (by decide) dX10_look_9
set_option maxHeartbeats 4000000 in
set_option maxRecDepth 100000 in
theorem c_X10_allows_34 {p : Program} {l : Launch} {e : Env} {s : State} {m : MethodId} {args : Array Value} {below : List Frame} {meth : Method} {c : Code} {G : pm_G} {H0 : Heap} {Post : Int32 → Prop} {s0 : Int32} {M : pm_M} (E : pm_E G p s m args meth c cX10_allows 3 RX10) (hret : meth.sig.returnType = (some .int)) {H : Heap} {locs : List Loc} {ls : Array Slot} (hI : pm_I G H0 M H locs) (hl : lv_has ls 3 []) (hw : w_X10_allows_34 Post s0 M) : W p l e rm_X10_allows s m args below meth c H locs 0 0 (pm_Z G H0 M (pm_Pi (fun r9 M9 => M = M9 ∧ Post r9)) below args s rm_X10_allows.cells rm_X10_allows.slots) (F0 m 34 ls [.int s0]) := by
  have hx := E.1
  have hb := E.2.1
  have hown := E.2.2.2.1
  have hts := E.2.2.2.2.1
  unfold w_X10_allows_34 at hw
  exact pm_iret E hret hI pm_X.rf ⟨_, rfl, rfl, hw⟩ (by decide) (by decide) dX10_allows_34
set_option maxHeartbeats 4000000 in
set_option maxRecDepth 100000 in
theorem c_X10_allows_16 {p : Program} {l : Launch} {e : Env} {s : State} {m : MethodId} {args : Array Value} {below : List Frame} {meth : Method} {c : Code} {G : pm_G} {H0 : Heap} {Post : Int32 → Prop} {M : pm_M} (E : pm_E G p s m args meth c cX10_allows 3 RX10) (hret : meth.sig.returnType = (some .int)) {H : Heap} {locs : List Loc} {ls : Array Slot} (hI : pm_I G H0 M H locs) (hl : lv_has ls 3 []) (hw : w_X10_allows_16 Post M) : W p l e rm_X10_allows s m args below meth c H locs 0 0 (pm_Z G H0 M (pm_Pi (fun r9 M9 => M = M9 ∧ Post r9)) below args s rm_X10_allows.cells rm_X10_allows.slots) (F0 m 16 ls []) := by
  have hx := E.1
  have hb := E.2.1
  have hown := E.2.2.2.1
  have hts := E.2.2.2.2.1
  unfold w_X10_allows_16 at hw
  refine lv_iconst (v := (-1 : Int32)) hx hb dX10_allows_16 (by decide) ?_
  refine lv_goto (tgt := 34) hx hb dX10_allows_17 (by decide) ?_
  exact c_X10_allows_34 E hret hI (lv_sub hl [] rfl) hw
set_option maxHeartbeats 4000000 in
set_option maxRecDepth 100000 in
theorem k_X10_allows {l : Launch} {G : pm_G} {H0 : Heap} {th : Nat} {a1 : Int32} {a2 : Int32} {M : pm_M} {Post : Int32 → Prop} (t_th : pm_is M th 9) (hw : w_X10_allows th a1 a2 M Post) : pm_C l G H0 yX10_allows cX10_allows 3 (some .int) rm_X10_allows [.ref (H0.size + th), .int a1, .int a2] M (pm_Pi (fun r9 M9 => M = M9 ∧ Post r9)) := by
  refine pm_start (by decide +kernel) (Nat.le_of_ble_eq_true rfl) ?_
  intro p e s m args below meth c H ls E hret hnm hI hl
  have hl : lv_has ls 3 [(0, .ref (H0.size + th)), (1, .int a1), (2, .int a2)] := hl
  have hx := E.1
  have hb := E.2.1
  have hown := E.2.2.2.1
  have hts := E.2.2.2.2.1
  unfold w_X10_allows at hw
  refine lv_aload_n hx hb dX10_allows_0 rfl (lv_at hl 0 rfl) ?_
  refine lv_iload_n hx hb dX10_allows_1 rfl (lv_at hl 1 rfl) ?_
  refine pm_callV (As := [.int a1]) (rest := []) 1 E hI (k_X10_isRule t_th hw) t_th (by decide) rfl kc_X10_isRule kl_X10_191 km_X10_isRule ks_X10_isRule ki_X10 (by decide +kernel) ⟨by decide, by decide⟩ rfl hl.1 rfl (by first | exact Nat.le_of_ble_eq_true rfl | (simp only [List.map, pm_rf_cat]; exact Nat.le_of_ble_eq_true rfl)) dX10_allows_2 ⟨by decide, by decide⟩ (fun r9 M9 H locs hp hX1 hI => ?_)
  clear hw
  obtain ⟨r_1, rfl, rfl, hw⟩ := hp
  refine pm_nrm (cells' := 0) (slots' := 0) (g2 := F0 m 5 ls [.int r_1]) rfl rfl rfl ?_
  refine lv_if_eq (tgt := 16) hx hb dX10_allows_5 (by decide) (fun h_2 => ?_) (fun h_2 => ?_)
  · replace hw := hw.1 h_2
    exact c_X10_allows_16 E hret hI (lv_sub hl [] rfl) hw
  · replace hw := hw.2 h_2
    refine lv_aload_n hx hb dX10_allows_8 rfl (lv_at hl 0 rfl) ?_
    refine lv_iload_n hx hb dX10_allows_9 rfl (lv_at hl 2 rfl) ?_
    refine pm_callV (As := [.int a2]) (rest := []) 1 E hI (k_X10_isSet t_th hw) t_th (by decide) rfl kc_X10_isSet kl_X10_194 km_X10_isSet ks_X10_isSet ki_X10 (by decide +kernel) ⟨by decide, by decide⟩ rfl hl.1 rfl (by first | exact Nat.le_of_ble_eq_true rfl | (simp only [List.map, pm_rf_cat]; exact Nat.le_of_ble_eq_true rfl)) dX10_allows_10 ⟨by decide, by decide⟩ (fun r9 M9 H locs hp hX1 hI => ?_)
    clear hw
    obtain ⟨r_3, rfl, rfl, hw⟩ := hp
    refine pm_nrm (cells' := 0) (slots' := 0) (g2 := F0 m 13 ls [.int r_3]) rfl rfl rfl ?_
    refine lv_if_ne (tgt := 20) hx hb dX10_allows_13 (by decide) (fun h_4 => ?_) (fun h_4 => ?_)
    · replace hw := hw.1 h_4
      refine lv_aload_n hx hb dX10_allows_20 rfl (lv_at hl 0 rfl) ?_
      refine lv_iload_n hx hb dX10_allows_21 rfl (lv_at hl 1 rfl) ?_
      refine lv_iload_n hx hb dX10_allows_22 rfl (lv_at hl 2 rfl) ?_
      refine pm_callV (As := [.int a1, .int a2]) (rest := []) 2 E hI (k_X10_isAllowed t_th hw) t_th (by decide) rfl kc_X10_isAllowed kl_X10_100 km_X10_isAllowed ks_X10_isAllowed ki_X10 (by decide +kernel) ⟨by decide, by decide⟩ rfl hl.1 rfl (by first | exact Nat.le_of_ble_eq_true rfl | (simp only [List.map, pm_rf_cat]; exact Nat.le_of_ble_eq_true rfl)) dX10_allows_23 ⟨by decide, by decide⟩ (fun r9 M9 H locs hp hX1 hI => ?_)
      clear hw
      obtain ⟨r_5, rfl, rfl, hw⟩ := hp
      refine pm_nrm (cells' := 0) (slots' := 0) (g2 := F0 m 26 ls [.int r_5]) rfl rfl rfl ?_
      refine lv_if_eq (tgt := 33) hx hb dX10_allows_26 (by decide) (fun h_6 => ?_) (fun h_6 => ?_)
      · replace hw := hw.1 h_6
        refine lv_iconst (v := (0 : Int32)) hx hb dX10_allows_33 (by decide) ?_
        exact c_X10_allows_34 E hret hI (lv_sub hl [] rfl) hw
      · replace hw := hw.2 h_6
        refine lv_iconst (v := (1 : Int32)) hx hb dX10_allows_29 (by decide) ?_
        refine lv_goto (tgt := 34) hx hb dX10_allows_30 (by decide) ?_
        exact c_X10_allows_34 E hret hI (lv_sub hl [] rfl) hw
    · replace hw := hw.2 h_4
      exact c_X10_allows_16 E hret hI (lv_sub hl [] rfl) hw
set_option maxHeartbeats 4000000 in
set_option maxRecDepth 100000 in
theorem c_X10_rank_26 {p : Program} {l : Launch} {e : Env} {s : State} {m : MethodId} {args : Array Value} {below : List Frame} {meth : Method} {c : Code} {G : pm_G} {H0 : Heap} {Post : Int32 → Prop} {s0 : Int32} {M : pm_M} (E : pm_E G p s m args meth c cX10_rank 3 RX10) (hret : meth.sig.returnType = (some .int)) {H : Heap} {locs : List Loc} {ls : Array Slot} (hI : pm_I G H0 M H locs) (hl : lv_has ls 3 []) (hw : w_X10_rank_26 Post s0 M) : W p l e rm_X10_rank s m args below meth c H locs 0 0 (pm_Z G H0 M (pm_Pi (fun r9 M9 => M = M9 ∧ Post r9)) below args s rm_X10_rank.cells rm_X10_rank.slots) (F0 m 26 ls [.int s0]) := by
  have hx := E.1
  have hb := E.2.1
  have hown := E.2.2.2.1
  have hts := E.2.2.2.2.1
  unfold w_X10_rank_26 at hw
  exact pm_iret E hret hI pm_X.rf ⟨_, rfl, rfl, hw⟩ (by decide) (by decide) dX10_rank_26
set_option maxHeartbeats 4000000 in
set_option maxRecDepth 100000 in
theorem c_X10_rank_16 {p : Program} {l : Launch} {e : Env} {s : State} {m : MethodId} {args : Array Value} {below : List Frame} {meth : Method} {c : Code} {G : pm_G} {H0 : Heap} {Post : Int32 → Prop} {M : pm_M} (E : pm_E G p s m args meth c cX10_rank 3 RX10) (hret : meth.sig.returnType = (some .int)) {H : Heap} {locs : List Loc} {ls : Array Slot} (hI : pm_I G H0 M H locs) (hl : lv_has ls 3 []) (hw : w_X10_rank_16 Post M) : W p l e rm_X10_rank s m args below meth c H locs 0 0 (pm_Z G H0 M (pm_Pi (fun r9 M9 => M = M9 ∧ Post r9)) below args s rm_X10_rank.cells rm_X10_rank.slots) (F0 m 16 ls []) := by
  have hx := E.1
  have hb := E.2.1
  have hown := E.2.2.2.1
  have hts := E.2.2.2.2.1
  unfold w_X10_rank_16 at hw
  refine lv_iconst (v := (-1 : Int32)) hx hb dX10_rank_16 (by decide) ?_
  refine lv_goto (tgt := 26) hx hb dX10_rank_17 (by decide) ?_
  exact c_X10_rank_26 E hret hI (lv_sub hl [] rfl) hw
set_option maxHeartbeats 4000000 in
set_option maxRecDepth 100000 in
theorem k_X10_rank {l : Launch} {G : pm_G} {H0 : Heap} {th : Nat} {a1 : Int32} {a2 : Int32} {M : pm_M} {Post : Int32 → Prop} (t_th : pm_is M th 9) (hw : w_X10_rank th a1 a2 M Post) : pm_C l G H0 yX10_rank cX10_rank 3 (some .int) rm_X10_rank [.ref (H0.size + th), .int a1, .int a2] M (pm_Pi (fun r9 M9 => M = M9 ∧ Post r9)) := by
  refine pm_start (by decide +kernel) (Nat.le_of_ble_eq_true rfl) ?_
  intro p e s m args below meth c H ls E hret hnm hI hl
  have hl : lv_has ls 3 [(0, .ref (H0.size + th)), (1, .int a1), (2, .int a2)] := hl
  have hx := E.1
  have hb := E.2.1
  have hown := E.2.2.2.1
  have hts := E.2.2.2.2.1
  unfold w_X10_rank at hw
  refine lv_aload_n hx hb dX10_rank_0 rfl (lv_at hl 0 rfl) ?_
  refine lv_iload_n hx hb dX10_rank_1 rfl (lv_at hl 1 rfl) ?_
  refine pm_callV (As := [.int a1]) (rest := []) 1 E hI (k_X10_isRule t_th hw) t_th (by decide) rfl kc_X10_isRule kl_X10_191 km_X10_isRule ks_X10_isRule ki_X10 (by decide +kernel) ⟨by decide, by decide⟩ rfl hl.1 rfl (by first | exact Nat.le_of_ble_eq_true rfl | (simp only [List.map, pm_rf_cat]; exact Nat.le_of_ble_eq_true rfl)) dX10_rank_2 ⟨by decide, by decide⟩ (fun r9 M9 H locs hp hX1 hI => ?_)
  clear hw
  obtain ⟨r_1, rfl, rfl, hw⟩ := hp
  refine pm_nrm (cells' := 0) (slots' := 0) (g2 := F0 m 5 ls [.int r_1]) rfl rfl rfl ?_
  refine lv_if_eq (tgt := 16) hx hb dX10_rank_5 (by decide) (fun h_2 => ?_) (fun h_2 => ?_)
  · replace hw := hw.1 h_2
    exact c_X10_rank_16 E hret hI (lv_sub hl [] rfl) hw
  · replace hw := hw.2 h_2
    refine lv_aload_n hx hb dX10_rank_8 rfl (lv_at hl 0 rfl) ?_
    refine lv_iload_n hx hb dX10_rank_9 rfl (lv_at hl 2 rfl) ?_
    refine pm_callV (As := [.int a2]) (rest := []) 1 E hI (k_X10_isSet t_th hw) t_th (by decide) rfl kc_X10_isSet kl_X10_194 km_X10_isSet ks_X10_isSet ki_X10 (by decide +kernel) ⟨by decide, by decide⟩ rfl hl.1 rfl (by first | exact Nat.le_of_ble_eq_true rfl | (simp only [List.map, pm_rf_cat]; exact Nat.le_of_ble_eq_true rfl)) dX10_rank_10 ⟨by decide, by decide⟩ (fun r9 M9 H locs hp hX1 hI => ?_)
    clear hw
    obtain ⟨r_3, rfl, rfl, hw⟩ := hp
    refine pm_nrm (cells' := 0) (slots' := 0) (g2 := F0 m 13 ls [.int r_3]) rfl rfl rfl ?_
    refine lv_if_ne (tgt := 20) hx hb dX10_rank_13 (by decide) (fun h_4 => ?_) (fun h_4 => ?_)
    · replace hw := hw.1 h_4
      refine lv_aload_n hx hb dX10_rank_20 rfl (lv_at hl 0 rfl) ?_
      refine lv_iload_n hx hb dX10_rank_21 rfl (lv_at hl 1 rfl) ?_
      refine lv_iload_n hx hb dX10_rank_22 rfl (lv_at hl 2 rfl) ?_
      refine pm_callV (As := [.int a1, .int a2]) (rest := []) 2 E hI (k_X10_rankOf t_th hw) t_th (by decide) rfl kc_X10_rankOf kl_X10_108 km_X10_rankOf ks_X10_rankOf ki_X10 (by decide +kernel) ⟨by decide, by decide⟩ rfl hl.1 rfl (by first | exact Nat.le_of_ble_eq_true rfl | (simp only [List.map, pm_rf_cat]; exact Nat.le_of_ble_eq_true rfl)) dX10_rank_23 ⟨by decide, by decide⟩ (fun r9 M9 H locs hp hX1 hI => ?_)
      clear hw
      obtain ⟨r_5, rfl, rfl, hw⟩ := hp
      refine pm_nrm (cells' := 0) (slots' := 0) (g2 := F0 m 26 ls [.int r_5]) rfl rfl rfl ?_
      exact c_X10_rank_26 E hret hI (lv_sub hl [] rfl) hw
    · replace hw := hw.2 h_4
      exact c_X10_rank_16 E hret hI (lv_sub hl [] rfl) hw
set_option maxHeartbeats 4000000 in
set_option maxRecDepth 100000 in
theorem c_X10_span_61 {p : Program} {l : Launch} {e : Env} {s : State} {m : MethodId} {args : Array Value} {below : List Frame} {meth : Method} {c : Code} {G : pm_G} {H0 : Heap} {Post : Int32 → Prop} {v0 : Nat} {v1 : Int32} {v2 : Int32} {v4 : Int32} {s0 : Int32} {s1 : Int32} {M : pm_M} {k_23 : Int32 → Int32 → Prop} (E : pm_E G p s m args meth c cX10_span 5 RX10) (hret : meth.sig.returnType = (some .int)) (hk_23 : ∀ (v3 : Int32) (v4 : Int32) (H : Heap) (locs : List Loc) (ls : Array Slot), pm_I G H0 M H locs → (pm_is M v0 9) → lv_has ls 5 [(0, .ref (H0.size + v0)), (1, .int v1), (2, .int v2), (3, .int v3), (4, .int v4)] → k_23 v3 v4 → W p l e rm_X10_span s m args below meth c H locs 0 0 (pm_Z G H0 M (pm_Pi (fun r9 M9 => M = M9 ∧ Post r9)) below args s rm_X10_span.cells rm_X10_span.slots) (F0 m 23 ls [])) {H : Heap} {locs : List Loc} {ls : Array Slot} (hI : pm_I G H0 M H locs) (t_v0 : pm_is M v0 9) (hl : lv_has ls 5 [(0, .ref (H0.size + v0)), (1, .int v1), (2, .int v2), (4, .int v4)]) (hw : w_X10_span_61 Post k_23 v0 v1 v2 v4 s0 s1 M) : W p l e rm_X10_span s m args below meth c H locs 0 0 (pm_Z G H0 M (pm_Pi (fun r9 M9 => M = M9 ∧ Post r9)) below args s rm_X10_span.cells rm_X10_span.slots) (F0 m 61 ls [.int s1, .int s0]) := by
  have hx := E.1
  have hb := E.2.1
  have hown := E.2.2.2.1
  have hts := E.2.2.2.2.1
  unfold w_X10_span_61 at hw
  refine lv_ior hx hb dX10_span_61 ?_
  refine lv_topi (fun x_1 e_x_1 => ?_)
  replace hw := hw x_1 e_x_1
  refine lv_istore_n (lv' := [(3, .int x_1), (0, .ref (H0.size + v0)), (1, .int v1), (2, .int v2), (4, .int v4)]) hx hb dX10_span_62 rfl hl (by decide) rfl (fun ls hl_2 => ?_)
  obtain ⟨x_3, e_x_3⟩ : ∃ z : Int32, z = v4 + (1 : Int32) := ⟨_, rfl⟩
  refine lv_iinc (v := x_3) (lv' := [(4, .int x_3), (3, .int x_1), (0, .ref (H0.size + v0)), (1, .int v1), (2, .int v2)]) hx hb dX10_span_63 hl_2 (k := 4) rfl (by rw [e_x_3]; rfl) (by decide) rfl (fun ls hl_4 => ?_)
  replace hw := hw x_3 e_x_3
  refine lv_goto (tgt := 23) hx hb dX10_span_66 (by decide) ?_
  exact hk_23 _ _ _ _ _ hI t_v0 (lv_sub hl_4 [2, 3, 4, 1, 0] rfl) hw
set_option maxHeartbeats 4000000 in
set_option maxRecDepth 100000 in
theorem c_X10_span_23 {p : Program} {l : Launch} {e : Env} {s : State} {m : MethodId} {args : Array Value} {below : List Frame} {meth : Method} {c : Code} {G : pm_G} {H0 : Heap} {Post : Int32 → Prop} {v0 : Nat} {v1 : Int32} {v2 : Int32} {M : pm_M} (E : pm_E G p s m args meth c cX10_span 5 RX10) (hret : meth.sig.returnType = (some .int)) : ∀ (n : Nat) (v3 : Int32) (v4 : Int32) (H : Heap) (locs : List Loc) (ls : Array Slot), pm_I G H0 M H locs → (pm_is M v0 9) → lv_has ls 5 [(0, .ref (H0.size + v0)), (1, .int v1), (2, .int v2), (3, .int v3), (4, .int v4)] → w_X10_span_23 Post v0 v1 v2 M n v3 v4 → W p l e rm_X10_span s m args below meth c H locs 0 0 (pm_Z G H0 M (pm_Pi (fun r9 M9 => M = M9 ∧ Post r9)) below args s rm_X10_span.cells rm_X10_span.slots) (F0 m 23 ls []) := by
  have hx := E.1
  have hb := E.2.1
  have hown := E.2.2.2.1
  have hts := E.2.2.2.2.1
  intro n
  induction n with
  | zero =>
    intro v3 v4 H locs ls hI t_v0 hl hw
    unfold w_X10_span_23 at hw
    exact hw.elim
  | succ n ih =>
    intro v3 v4 H locs ls hI t_v0 hl hw
    unfold w_X10_span_23 at hw
    refine lv_iload hx hb dX10_span_23 (lv_at hl 4 rfl) ?_
    refine lv_aload_n hx hb dX10_span_25 rfl (lv_at hl 0 rfl) ?_
    refine gf_X10_7 E hI t_v0 dX10_span_26 ?_
    refine lv_icmp_ge (tgt := 69) hx hb dX10_span_29 (by decide) (fun h_1 => ?_) (fun h_1 => ?_)
    · replace hw := hw.1 h_1
      refine lv_iload_n hx hb dX10_span_69 rfl (lv_at hl 3 rfl) ?_
      exact pm_iret E hret hI pm_X.rf ⟨_, rfl, rfl, hw⟩ (by decide) (by decide) dX10_span_70
    · replace hw := hw.2 h_1
      refine lv_iload_n hx hb dX10_span_32 rfl (lv_at hl 3 rfl) ?_
      refine lv_aload_n hx hb dX10_span_33 rfl (lv_at hl 0 rfl) ?_
      refine lv_iload_n hx hb dX10_span_34 rfl (lv_at hl 1 rfl) ?_
      refine lv_iload_n hx hb dX10_span_35 rfl (lv_at hl 2 rfl) ?_
      refine lv_iconst (v := (1 : Int32)) hx hb dX10_span_36 (by decide) ?_
      refine lv_iload hx hb dX10_span_37 (lv_at hl 4 rfl) ?_
      refine lv_ishl hx hb dX10_span_39 ?_
      refine lv_ior hx hb dX10_span_40 ?_
      refine pm_callV (As := [.int v1, .int (v2 ||| ((1 : Int32) <<< (v4 &&& 31)))]) (rest := [.int v3]) 2 E hI (k_X10_rankOf t_v0 hw) t_v0 (by decide) rfl kc_X10_rankOf kl_X10_108 km_X10_rankOf ks_X10_rankOf ki_X10 (by decide +kernel) ⟨by decide, by decide⟩ rfl hl.1 rfl (by first | exact Nat.le_of_ble_eq_true rfl | (simp only [List.map, pm_rf_cat]; exact Nat.le_of_ble_eq_true rfl)) dX10_span_41 ⟨by decide, by decide⟩ (fun r9 M9 H locs hp hX1 hI => ?_)
      clear hw
      obtain ⟨r_2, rfl, rfl, hw⟩ := hp
      refine pm_nrm (cells' := 0) (slots' := 0) (g2 := F0 m 44 ls [.int r_2, .int v3]) rfl rfl rfl ?_
      refine lv_aload_n hx hb dX10_span_44 rfl (lv_at hl 0 rfl) ?_
      refine lv_iload_n hx hb dX10_span_45 rfl (lv_at hl 1 rfl) ?_
      refine lv_iload_n hx hb dX10_span_46 rfl (lv_at hl 2 rfl) ?_
      refine pm_callV (As := [.int v1, .int v2]) (rest := [.int r_2, .int v3]) 2 E hI (k_X10_rankOf t_v0 hw) t_v0 (by decide) rfl kc_X10_rankOf kl_X10_108 km_X10_rankOf ks_X10_rankOf ki_X10 (by decide +kernel) ⟨by decide, by decide⟩ rfl hl.1 rfl (by first | exact Nat.le_of_ble_eq_true rfl | (simp only [List.map, pm_rf_cat]; exact Nat.le_of_ble_eq_true rfl)) dX10_span_47 ⟨by decide, by decide⟩ (fun r9 M9 H locs hp hX1 hI => ?_)
      clear hw
      obtain ⟨r_3, rfl, rfl, hw⟩ := hp
      refine pm_nrm (cells' := 0) (slots' := 0) (g2 := F0 m 50 ls [.int r_3, .int r_2, .int v3]) rfl rfl rfl ?_
      refine lv_icmp_ne (tgt := 60) hx hb dX10_span_50 (by decide) (fun h_4 => ?_) (fun h_4 => ?_)
      · replace hw := hw.1 h_4
        refine lv_iconst (v := (0 : Int32)) hx hb dX10_span_60 (by decide) ?_
        exact c_X10_span_61 E hret ih hI t_v0 (lv_sub hl [0, 1, 2, 4] rfl) hw
      · replace hw := hw.2 h_4
        refine lv_iconst (v := (1 : Int32)) hx hb dX10_span_53 (by decide) ?_
        refine lv_iload hx hb dX10_span_54 (lv_at hl 4 rfl) ?_
        refine lv_ishl hx hb dX10_span_56 ?_
        refine lv_goto (tgt := 61) hx hb dX10_span_57 (by decide) ?_
        exact c_X10_span_61 E hret ih hI t_v0 (lv_sub hl [0, 1, 2, 4] rfl) hw
set_option maxHeartbeats 4000000 in
set_option maxRecDepth 100000 in
theorem c_X10_span_16 {p : Program} {l : Launch} {e : Env} {s : State} {m : MethodId} {args : Array Value} {below : List Frame} {meth : Method} {c : Code} {G : pm_G} {H0 : Heap} {Post : Int32 → Prop} {M : pm_M} (E : pm_E G p s m args meth c cX10_span 5 RX10) (hret : meth.sig.returnType = (some .int)) {H : Heap} {locs : List Loc} {ls : Array Slot} (hI : pm_I G H0 M H locs) (hl : lv_has ls 5 []) (hw : w_X10_span_16 Post M) : W p l e rm_X10_span s m args below meth c H locs 0 0 (pm_Z G H0 M (pm_Pi (fun r9 M9 => M = M9 ∧ Post r9)) below args s rm_X10_span.cells rm_X10_span.slots) (F0 m 16 ls []) := by
  have hx := E.1
  have hb := E.2.1
  have hown := E.2.2.2.1
  have hts := E.2.2.2.2.1
  unfold w_X10_span_16 at hw
  refine lv_iconst (v := (-1 : Int32)) hx hb dX10_span_16 (by decide) ?_
  exact pm_iret E hret hI pm_X.rf ⟨_, rfl, rfl, hw⟩ (by decide) (by decide) dX10_span_17
set_option maxHeartbeats 4000000 in
set_option maxRecDepth 100000 in
theorem k_X10_span {l : Launch} {G : pm_G} {H0 : Heap} {th : Nat} {a1 : Int32} {a2 : Int32} {M : pm_M} {Post : Int32 → Prop} (t_th : pm_is M th 9) (hw : w_X10_span th a1 a2 M Post) : pm_C l G H0 yX10_span cX10_span 5 (some .int) rm_X10_span [.ref (H0.size + th), .int a1, .int a2] M (pm_Pi (fun r9 M9 => M = M9 ∧ Post r9)) := by
  refine pm_start (by decide +kernel) (Nat.le_of_ble_eq_true rfl) ?_
  intro p e s m args below meth c H ls E hret hnm hI hl
  have hl : lv_has ls 5 [(0, .ref (H0.size + th)), (1, .int a1), (2, .int a2)] := hl
  have hx := E.1
  have hb := E.2.1
  have hown := E.2.2.2.1
  have hts := E.2.2.2.2.1
  unfold w_X10_span at hw
  refine lv_aload_n hx hb dX10_span_0 rfl (lv_at hl 0 rfl) ?_
  refine lv_iload_n hx hb dX10_span_1 rfl (lv_at hl 1 rfl) ?_
  refine pm_callV (As := [.int a1]) (rest := []) 1 E hI (k_X10_isRule t_th hw) t_th (by decide) rfl kc_X10_isRule kl_X10_191 km_X10_isRule ks_X10_isRule ki_X10 (by decide +kernel) ⟨by decide, by decide⟩ rfl hl.1 rfl (by first | exact Nat.le_of_ble_eq_true rfl | (simp only [List.map, pm_rf_cat]; exact Nat.le_of_ble_eq_true rfl)) dX10_span_2 ⟨by decide, by decide⟩ (fun r9 M9 H locs hp hX1 hI => ?_)
  clear hw
  obtain ⟨r_1, rfl, rfl, hw⟩ := hp
  refine pm_nrm (cells' := 0) (slots' := 0) (g2 := F0 m 5 ls [.int r_1]) rfl rfl rfl ?_
  refine lv_if_eq (tgt := 16) hx hb dX10_span_5 (by decide) (fun h_2 => ?_) (fun h_2 => ?_)
  · replace hw := hw.1 h_2
    exact c_X10_span_16 E hret hI (lv_sub hl [] rfl) hw
  · replace hw := hw.2 h_2
    refine lv_aload_n hx hb dX10_span_8 rfl (lv_at hl 0 rfl) ?_
    refine lv_iload_n hx hb dX10_span_9 rfl (lv_at hl 2 rfl) ?_
    refine pm_callV (As := [.int a2]) (rest := []) 1 E hI (k_X10_isSet t_th hw) t_th (by decide) rfl kc_X10_isSet kl_X10_194 km_X10_isSet ks_X10_isSet ki_X10 (by decide +kernel) ⟨by decide, by decide⟩ rfl hl.1 rfl (by first | exact Nat.le_of_ble_eq_true rfl | (simp only [List.map, pm_rf_cat]; exact Nat.le_of_ble_eq_true rfl)) dX10_span_10 ⟨by decide, by decide⟩ (fun r9 M9 H locs hp hX1 hI => ?_)
    clear hw
    obtain ⟨r_3, rfl, rfl, hw⟩ := hp
    refine pm_nrm (cells' := 0) (slots' := 0) (g2 := F0 m 13 ls [.int r_3]) rfl rfl rfl ?_
    refine lv_if_ne (tgt := 18) hx hb dX10_span_13 (by decide) (fun h_4 => ?_) (fun h_4 => ?_)
    · replace hw := hw.1 h_4
      refine lv_iconst (v := (0 : Int32)) hx hb dX10_span_18 (by decide) ?_
      refine lv_istore_n (lv' := [(3, .int (0 : Int32)), (0, .ref (H0.size + th)), (1, .int a1), (2, .int a2)]) hx hb dX10_span_19 rfl hl (by decide) rfl (fun ls hl_5 => ?_)
      refine lv_iconst (v := (0 : Int32)) hx hb dX10_span_20 (by decide) ?_
      refine lv_istore (lv' := [(4, .int (0 : Int32)), (3, .int (0 : Int32)), (0, .ref (H0.size + th)), (1, .int a1), (2, .int a2)]) hx hb dX10_span_21 hl_5 (by decide) rfl (fun ls hl_6 => ?_)
      obtain ⟨n_7, hw⟩ := hw
      exact c_X10_span_23 E hret n_7 _ _ _ _ _ hI t_th (lv_sub hl_6 [2, 3, 4, 1, 0] rfl) hw
    · replace hw := hw.2 h_4
      exact c_X10_span_16 E hret hI (lv_sub hl [] rfl) hw
set_option maxHeartbeats 4000000 in
set_option maxRecDepth 100000 in
theorem c_X10_ring_59 {p : Program} {l : Launch} {e : Env} {s : State} {m : MethodId} {args : Array Value} {below : List Frame} {meth : Method} {c : Code} {G : pm_G} {H0 : Heap} {Post : Int32 → Prop} {M : pm_M} (E : pm_E G p s m args meth c cX10_ring 4 RX10) (hret : meth.sig.returnType = (some .int)) {H : Heap} {locs : List Loc} {ls : Array Slot} (hI : pm_I G H0 M H locs) (hl : lv_has ls 4 []) (hw : w_X10_ring_59 Post M) : W p l e rm_X10_ring s m args below meth c H locs 0 0 (pm_Z G H0 M (pm_Pi (fun r9 M9 => M = M9 ∧ Post r9)) below args s rm_X10_ring.cells rm_X10_ring.slots) (F0 m 59 ls []) := by
  have hx := E.1
  have hb := E.2.1
  have hown := E.2.2.2.1
  have hts := E.2.2.2.2.1
  unfold w_X10_ring_59 at hw
  refine lv_iconst (v := (0 : Int32)) hx hb dX10_ring_59 (by decide) ?_
  exact pm_iret E hret hI pm_X.rf ⟨_, rfl, rfl, hw⟩ (by decide) (by decide) dX10_ring_60
set_option maxHeartbeats 4000000 in
set_option maxRecDepth 100000 in
theorem c_X10_ring_53 {p : Program} {l : Launch} {e : Env} {s : State} {m : MethodId} {args : Array Value} {below : List Frame} {meth : Method} {c : Code} {G : pm_G} {H0 : Heap} {Post : Int32 → Prop} {v0 : Nat} {v1 : Int32} {v2 : Int32} {v3 : Int32} {M : pm_M} {k_20 : Int32 → Prop} (E : pm_E G p s m args meth c cX10_ring 4 RX10) (hret : meth.sig.returnType = (some .int)) (hk_20 : ∀ (v3 : Int32) (H : Heap) (locs : List Loc) (ls : Array Slot), pm_I G H0 M H locs → (pm_is M v0 9) → lv_has ls 4 [(0, .ref (H0.size + v0)), (1, .int v1), (2, .int v2), (3, .int v3)] → k_20 v3 → W p l e rm_X10_ring s m args below meth c H locs 0 0 (pm_Z G H0 M (pm_Pi (fun r9 M9 => M = M9 ∧ Post r9)) below args s rm_X10_ring.cells rm_X10_ring.slots) (F0 m 20 ls [])) {H : Heap} {locs : List Loc} {ls : Array Slot} (hI : pm_I G H0 M H locs) (t_v0 : pm_is M v0 9) (hl : lv_has ls 4 [(0, .ref (H0.size + v0)), (1, .int v1), (2, .int v2), (3, .int v3)]) (hw : w_X10_ring_53 Post k_20 v0 v1 v2 v3 M) : W p l e rm_X10_ring s m args below meth c H locs 0 0 (pm_Z G H0 M (pm_Pi (fun r9 M9 => M = M9 ∧ Post r9)) below args s rm_X10_ring.cells rm_X10_ring.slots) (F0 m 53 ls []) := by
  have hx := E.1
  have hb := E.2.1
  have hown := E.2.2.2.1
  have hts := E.2.2.2.2.1
  unfold w_X10_ring_53 at hw
  obtain ⟨x_1, e_x_1⟩ : ∃ z : Int32, z = v3 + (1 : Int32) := ⟨_, rfl⟩
  refine lv_iinc (v := x_1) (lv' := [(3, .int x_1), (0, .ref (H0.size + v0)), (1, .int v1), (2, .int v2)]) hx hb dX10_ring_53 hl (k := 3) rfl (by rw [e_x_1]; rfl) (by decide) rfl (fun ls hl_2 => ?_)
  replace hw := hw x_1 e_x_1
  refine lv_goto (tgt := 20) hx hb dX10_ring_56 (by decide) ?_
  exact hk_20 _ _ _ _ hI t_v0 (lv_sub hl_2 [1, 2, 3, 0] rfl) hw
set_option maxHeartbeats 4000000 in
set_option maxRecDepth 100000 in
theorem c_X10_ring_20 {p : Program} {l : Launch} {e : Env} {s : State} {m : MethodId} {args : Array Value} {below : List Frame} {meth : Method} {c : Code} {G : pm_G} {H0 : Heap} {Post : Int32 → Prop} {v0 : Nat} {v1 : Int32} {v2 : Int32} {M : pm_M} (E : pm_E G p s m args meth c cX10_ring 4 RX10) (hret : meth.sig.returnType = (some .int)) : ∀ (n : Nat) (v3 : Int32) (H : Heap) (locs : List Loc) (ls : Array Slot), pm_I G H0 M H locs → (pm_is M v0 9) → lv_has ls 4 [(0, .ref (H0.size + v0)), (1, .int v1), (2, .int v2), (3, .int v3)] → w_X10_ring_20 Post v0 v1 v2 M n v3 → W p l e rm_X10_ring s m args below meth c H locs 0 0 (pm_Z G H0 M (pm_Pi (fun r9 M9 => M = M9 ∧ Post r9)) below args s rm_X10_ring.cells rm_X10_ring.slots) (F0 m 20 ls []) := by
  have hx := E.1
  have hb := E.2.1
  have hown := E.2.2.2.1
  have hts := E.2.2.2.2.1
  intro n
  induction n with
  | zero =>
    intro v3 H locs ls hI t_v0 hl hw
    unfold w_X10_ring_20 at hw
    exact hw.elim
  | succ n ih =>
    intro v3 H locs ls hI t_v0 hl hw
    unfold w_X10_ring_20 at hw
    refine lv_iload_n hx hb dX10_ring_20 rfl (lv_at hl 3 rfl) ?_
    refine lv_iload_n hx hb dX10_ring_21 rfl (lv_at hl 2 rfl) ?_
    refine lv_icmp_gt (tgt := 59) hx hb dX10_ring_22 (by decide) (fun h_1 => ?_) (fun h_1 => ?_)
    · replace hw := hw.1 h_1
      exact c_X10_ring_59 E hret hI (lv_sub hl [] rfl) hw
    · replace hw := hw.2 h_1
      refine lv_aload_n hx hb dX10_ring_25 rfl (lv_at hl 0 rfl) ?_
      refine lv_iload_n hx hb dX10_ring_26 rfl (lv_at hl 1 rfl) ?_
      refine lv_iload_n hx hb dX10_ring_27 rfl (lv_at hl 2 rfl) ?_
      refine pm_callV (As := [.int v1, .int v2]) (rest := []) 2 E hI (k_X10_isAllowed t_v0 hw) t_v0 (by decide) rfl kc_X10_isAllowed kl_X10_100 km_X10_isAllowed ks_X10_isAllowed ki_X10 (by decide +kernel) ⟨by decide, by decide⟩ rfl hl.1 rfl (by first | exact Nat.le_of_ble_eq_true rfl | (simp only [List.map, pm_rf_cat]; exact Nat.le_of_ble_eq_true rfl)) dX10_ring_28 ⟨by decide, by decide⟩ (fun r9 M9 H locs hp hX1 hI => ?_)
      clear hw
      obtain ⟨r_2, rfl, rfl, hw⟩ := hp
      refine pm_nrm (cells' := 0) (slots' := 0) (g2 := F0 m 31 ls [.int r_2]) rfl rfl rfl ?_
      refine lv_if_ne (tgt := 59) hx hb dX10_ring_31 (by decide) (fun h_3 => ?_) (fun h_3 => ?_)
      · replace hw := hw.1 h_3
        exact c_X10_ring_59 E hret hI (lv_sub hl [] rfl) hw
      · replace hw := hw.2 h_3
        refine lv_iload_n hx hb dX10_ring_34 rfl (lv_at hl 3 rfl) ?_
        refine lv_iload_n hx hb dX10_ring_35 rfl (lv_at hl 2 rfl) ?_
        refine lv_iconst (v := (-1 : Int32)) hx hb dX10_ring_36 (by decide) ?_
        refine lv_ixor hx hb dX10_ring_37 ?_
        refine lv_iand hx hb dX10_ring_38 ?_
        refine lv_if_ne (tgt := 53) hx hb dX10_ring_39 (by decide) (fun h_4 => ?_) (fun h_4 => ?_)
        · replace hw := hw.1 h_4
          exact c_X10_ring_53 E hret ih hI t_v0 (lv_sub hl [0, 1, 2, 3] rfl) hw
        · replace hw := hw.2 h_4
          refine lv_aload_n hx hb dX10_ring_42 rfl (lv_at hl 0 rfl) ?_
          refine lv_iload_n hx hb dX10_ring_43 rfl (lv_at hl 1 rfl) ?_
          refine lv_iload_n hx hb dX10_ring_44 rfl (lv_at hl 3 rfl) ?_
          refine pm_callV (As := [.int v1, .int v3]) (rest := []) 2 E hI (k_X10_isAllowed t_v0 hw) t_v0 (by decide) rfl kc_X10_isAllowed kl_X10_100 km_X10_isAllowed ks_X10_isAllowed ki_X10 (by decide +kernel) ⟨by decide, by decide⟩ rfl hl.1 rfl (by first | exact Nat.le_of_ble_eq_true rfl | (simp only [List.map, pm_rf_cat]; exact Nat.le_of_ble_eq_true rfl)) dX10_ring_45 ⟨by decide, by decide⟩ (fun r9 M9 H locs hp hX1 hI => ?_)
          clear hw
          obtain ⟨r_5, rfl, rfl, hw⟩ := hp
          refine pm_nrm (cells' := 0) (slots' := 0) (g2 := F0 m 48 ls [.int r_5]) rfl rfl rfl ?_
          refine lv_if_ne (tgt := 53) hx hb dX10_ring_48 (by decide) (fun h_6 => ?_) (fun h_6 => ?_)
          · replace hw := hw.1 h_6
            exact c_X10_ring_53 E hret ih hI t_v0 (lv_sub hl [0, 1, 2, 3] rfl) hw
          · replace hw := hw.2 h_6
            refine lv_iload_n hx hb dX10_ring_51 rfl (lv_at hl 3 rfl) ?_
            exact pm_iret E hret hI pm_X.rf ⟨_, rfl, rfl, hw⟩ (by decide) (by decide) dX10_ring_52
set_option maxHeartbeats 4000000 in
set_option maxRecDepth 100000 in
theorem c_X10_ring_16 {p : Program} {l : Launch} {e : Env} {s : State} {m : MethodId} {args : Array Value} {below : List Frame} {meth : Method} {c : Code} {G : pm_G} {H0 : Heap} {Post : Int32 → Prop} {M : pm_M} (E : pm_E G p s m args meth c cX10_ring 4 RX10) (hret : meth.sig.returnType = (some .int)) {H : Heap} {locs : List Loc} {ls : Array Slot} (hI : pm_I G H0 M H locs) (hl : lv_has ls 4 []) (hw : w_X10_ring_16 Post M) : W p l e rm_X10_ring s m args below meth c H locs 0 0 (pm_Z G H0 M (pm_Pi (fun r9 M9 => M = M9 ∧ Post r9)) below args s rm_X10_ring.cells rm_X10_ring.slots) (F0 m 16 ls []) := by
  have hx := E.1
  have hb := E.2.1
  have hown := E.2.2.2.1
  have hts := E.2.2.2.2.1
  unfold w_X10_ring_16 at hw
  refine lv_iconst (v := (-1 : Int32)) hx hb dX10_ring_16 (by decide) ?_
  exact pm_iret E hret hI pm_X.rf ⟨_, rfl, rfl, hw⟩ (by decide) (by decide) dX10_ring_17
set_option maxHeartbeats 4000000 in
set_option maxRecDepth 100000 in
theorem k_X10_ring {l : Launch} {G : pm_G} {H0 : Heap} {th : Nat} {a1 : Int32} {a2 : Int32} {M : pm_M} {Post : Int32 → Prop} (t_th : pm_is M th 9) (hw : w_X10_ring th a1 a2 M Post) : pm_C l G H0 yX10_ring cX10_ring 4 (some .int) rm_X10_ring [.ref (H0.size + th), .int a1, .int a2] M (pm_Pi (fun r9 M9 => M = M9 ∧ Post r9)) := by
  refine pm_start (by decide +kernel) (Nat.le_of_ble_eq_true rfl) ?_
  intro p e s m args below meth c H ls E hret hnm hI hl
  have hl : lv_has ls 4 [(0, .ref (H0.size + th)), (1, .int a1), (2, .int a2)] := hl
  have hx := E.1
  have hb := E.2.1
  have hown := E.2.2.2.1
  have hts := E.2.2.2.2.1
  unfold w_X10_ring at hw
  refine lv_aload_n hx hb dX10_ring_0 rfl (lv_at hl 0 rfl) ?_
  refine lv_iload_n hx hb dX10_ring_1 rfl (lv_at hl 1 rfl) ?_
  refine pm_callV (As := [.int a1]) (rest := []) 1 E hI (k_X10_isRule t_th hw) t_th (by decide) rfl kc_X10_isRule kl_X10_191 km_X10_isRule ks_X10_isRule ki_X10 (by decide +kernel) ⟨by decide, by decide⟩ rfl hl.1 rfl (by first | exact Nat.le_of_ble_eq_true rfl | (simp only [List.map, pm_rf_cat]; exact Nat.le_of_ble_eq_true rfl)) dX10_ring_2 ⟨by decide, by decide⟩ (fun r9 M9 H locs hp hX1 hI => ?_)
  clear hw
  obtain ⟨r_1, rfl, rfl, hw⟩ := hp
  refine pm_nrm (cells' := 0) (slots' := 0) (g2 := F0 m 5 ls [.int r_1]) rfl rfl rfl ?_
  refine lv_if_eq (tgt := 16) hx hb dX10_ring_5 (by decide) (fun h_2 => ?_) (fun h_2 => ?_)
  · replace hw := hw.1 h_2
    exact c_X10_ring_16 E hret hI (lv_sub hl [] rfl) hw
  · replace hw := hw.2 h_2
    refine lv_aload_n hx hb dX10_ring_8 rfl (lv_at hl 0 rfl) ?_
    refine lv_iload_n hx hb dX10_ring_9 rfl (lv_at hl 2 rfl) ?_
    refine pm_callV (As := [.int a2]) (rest := []) 1 E hI (k_X10_isSet t_th hw) t_th (by decide) rfl kc_X10_isSet kl_X10_194 km_X10_isSet ks_X10_isSet ki_X10 (by decide +kernel) ⟨by decide, by decide⟩ rfl hl.1 rfl (by first | exact Nat.le_of_ble_eq_true rfl | (simp only [List.map, pm_rf_cat]; exact Nat.le_of_ble_eq_true rfl)) dX10_ring_10 ⟨by decide, by decide⟩ (fun r9 M9 H locs hp hX1 hI => ?_)
    clear hw
    obtain ⟨r_3, rfl, rfl, hw⟩ := hp
    refine pm_nrm (cells' := 0) (slots' := 0) (g2 := F0 m 13 ls [.int r_3]) rfl rfl rfl ?_
    refine lv_if_ne (tgt := 18) hx hb dX10_ring_13 (by decide) (fun h_4 => ?_) (fun h_4 => ?_)
    · replace hw := hw.1 h_4
      refine lv_iconst (v := (0 : Int32)) hx hb dX10_ring_18 (by decide) ?_
      refine lv_istore_n (lv' := [(3, .int (0 : Int32)), (0, .ref (H0.size + th)), (1, .int a1), (2, .int a2)]) hx hb dX10_ring_19 rfl hl (by decide) rfl (fun ls hl_5 => ?_)
      obtain ⟨n_6, hw⟩ := hw
      exact c_X10_ring_20 E hret n_6 _ _ _ _ hI t_th (lv_sub hl_5 [1, 2, 3, 0] rfl) hw
    · replace hw := hw.2 h_4
      exact c_X10_ring_16 E hret hI (lv_sub hl [] rfl) hw
