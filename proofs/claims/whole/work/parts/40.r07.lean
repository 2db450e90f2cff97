set_option maxHeartbeats 4000000 in
set_option maxRecDepth 100000 in
theorem c_X10_readsTold_72 {p : Program} {l : Launch} {e : Env} {s : State} {m : MethodId} {args : Array Value} {below : List Frame} {meth : Method} {c : Code} {G : pm_G} {H0 : Heap} {M0 : pm_M} {Post : pm_M → Prop} {M : pm_M} (E : pm_E G p s m args meth c cX10_readsTold 4 RX10) (hret : meth.sig.returnType = none) {H : Heap} {locs : List Loc} {ls : Array Slot} (hX : pm_X M0 M) (hI : pm_I G H0 M H locs) (hl : lv_has ls 4 []) (hw : w_X10_readsTold_72 Post M) : W p l e rm_X10_readsTold s m args below meth c H locs 0 0 (pm_Z G H0 M0 (pm_Pv Post) below args s rm_X10_readsTold.cells rm_X10_readsTold.slots) (F0 m 72 ls []) := by
  have hx := E.1
  have hb := E.2.1
  have hown := E.2.2.2.1
  have hts := E.2.2.2.2.1
  unfold w_X10_readsTold_72 at hw
  exact pm_vret E hret hI hX ⟨rfl, hw⟩ (by decide) (by decide) dX10_readsTold_72
set_option maxHeartbeats 4000000 in
set_option maxRecDepth 100000 in
theorem c_X10_readsTold_52 {p : Program} {l : Launch} {e : Env} {s : State} {m : MethodId} {args : Array Value} {below : List Frame} {meth : Method} {c : Code} {G : pm_G} {H0 : Heap} {M0 : pm_M} {Post : pm_M → Prop} {v0 : Nat} {M : pm_M} (E : pm_E G p s m args meth c cX10_readsTold 4 RX10) (hret : meth.sig.returnType = none) {H : Heap} {locs : List Loc} {ls : Array Slot} (hX : pm_X M0 M) (hI : pm_I G H0 M H locs) (t_v0 : pm_is M v0 9) (hl : lv_has ls 4 [(0, .ref (H0.size + v0))]) (hw : w_X10_readsTold_52 Post v0 M) : W p l e rm_X10_readsTold s m args below meth c H locs 0 0 (pm_Z G H0 M0 (pm_Pv Post) below args s rm_X10_readsTold.cells rm_X10_readsTold.slots) (F0 m 52 ls []) := by
  have hx := E.1
  have hb := E.2.1
  have hown := E.2.2.2.1
  have hts := E.2.2.2.2.1
  unfold w_X10_readsTold_52 at hw
  refine lv_aload_n hx hb dX10_readsTold_52 rfl (lv_at hl 0 rfl) ?_
  refine gf_X10_116 E hI t_v0 dX10_readsTold_53 ?_
  refine lv_if_ne (tgt := 72) hx hb dX10_readsTold_56 (by decide) (fun h_1 => ?_) (fun h_1 => ?_)
  · replace hw := hw.1 h_1
    exact c_X10_readsTold_72 E hret hX hI (lv_sub hl [] rfl) hw
  · replace hw := hw.2 h_1
    refine lv_aload_n hx hb dX10_readsTold_59 rfl (lv_at hl 0 rfl) ?_
    refine pm_callV (As := []) (rest := []) 0 E hI (k_X10_breaks_ t_v0 hw) t_v0 (by decide) rfl kc_X10_breaks_ kl_X10_159 km_X10_breaks_ ks_X10_breaks_ ki_X10 (by decide +kernel) ⟨by decide, by decide⟩ rfl hl.1 rfl (by first | exact Nat.le_of_ble_eq_true rfl | (simp only [List.map, pm_rf_cat]; exact Nat.le_of_ble_eq_true rfl)) dX10_readsTold_60 ⟨by decide, by decide⟩ (fun r9 M_2 H locs hp hX1 hI => ?_)
    clear hw
    obtain ⟨r_3, rfl, hw⟩ := hp
    replace t_v0 := t_v0.x hX1
    replace hX := hX.tr hX1
    refine pm_nrm (cells' := 0) (slots' := 0) (g2 := F0 m 63 ls [.int r_3]) rfl rfl rfl ?_
    refine lv_if_eq (tgt := 72) hx hb dX10_readsTold_63 (by decide) (fun h_4 => ?_) (fun h_4 => ?_)
    · replace hw := hw.1 h_4
      exact c_X10_readsTold_72 E hret hX hI (lv_sub hl [] rfl) hw
    · replace hw := hw.2 h_4
      refine lv_aload_n hx hb dX10_readsTold_66 rfl (lv_at hl 0 rfl) ?_
      refine lv_bipush (v := (-9 : Int32)) hx hb dX10_readsTold_67 (by decide) ?_
      refine pf_X10_116 E hI t_v0 dX10_readsTold_69 (fun H locs M_5 e_M_5 hX1 hI => ?_)
      replace hw := hw M_5 e_M_5
      replace t_v0 := t_v0.x hX1
      replace hX := hX.tr hX1
      exact c_X10_readsTold_72 E hret hX hI (lv_sub hl [] rfl) hw
set_option maxHeartbeats 4000000 in
set_option maxRecDepth 100000 in
theorem c_X10_readsTold_46 {p : Program} {l : Launch} {e : Env} {s : State} {m : MethodId} {args : Array Value} {below : List Frame} {meth : Method} {c : Code} {G : pm_G} {H0 : Heap} {M0 : pm_M} {Post : pm_M → Prop} {v0 : Nat} {v1 : Int32} {v2 : Int32} {M : pm_M} {k_11 : Int32 → pm_M → Prop} (E : pm_E G p s m args meth c cX10_readsTold 4 RX10) (hret : meth.sig.returnType = none) (hk_11 : ∀ (v2 : Int32) (M : pm_M) (H : Heap) (locs : List Loc) (ls : Array Slot), pm_X M0 M → pm_I G H0 M H locs → (pm_is M v0 9) → lv_has ls 4 [(0, .ref (H0.size + v0)), (1, .int v1), (2, .int v2)] → k_11 v2 M → W p l e rm_X10_readsTold s m args below meth c H locs 0 0 (pm_Z G H0 M0 (pm_Pv Post) below args s rm_X10_readsTold.cells rm_X10_readsTold.slots) (F0 m 11 ls [])) {H : Heap} {locs : List Loc} {ls : Array Slot} (hX : pm_X M0 M) (hI : pm_I G H0 M H locs) (t_v0 : pm_is M v0 9) (hl : lv_has ls 4 [(0, .ref (H0.size + v0)), (1, .int v1), (2, .int v2)]) (hw : w_X10_readsTold_46 Post k_11 v0 v1 v2 M) : W p l e rm_X10_readsTold s m args below meth c H locs 0 0 (pm_Z G H0 M0 (pm_Pv Post) below args s rm_X10_readsTold.cells rm_X10_readsTold.slots) (F0 m 46 ls []) := by
  have hx := E.1
  have hb := E.2.1
  have hown := E.2.2.2.1
  have hts := E.2.2.2.2.1
  unfold w_X10_readsTold_46 at hw
  obtain ⟨x_1, e_x_1⟩ : ∃ z : Int32, z = v2 + (1 : Int32) := ⟨_, rfl⟩
  refine lv_iinc (v := x_1) (lv' := [(2, .int x_1), (0, .ref (H0.size + v0)), (1, .int v1)]) hx hb dX10_readsTold_46 hl (k := 2) rfl (by rw [e_x_1]; rfl) (by decide) rfl (fun ls hl_2 => ?_)
  replace hw := hw x_1 e_x_1
  refine lv_goto (tgt := 11) hx hb dX10_readsTold_49 (by decide) ?_
  exact hk_11 _ _ _ _ _ hX hI t_v0 (lv_sub hl_2 [1, 2, 0] rfl) hw
set_option maxHeartbeats 4000000 in
set_option maxRecDepth 100000 in
theorem c_X10_readsTold_11 {p : Program} {l : Launch} {e : Env} {s : State} {m : MethodId} {args : Array Value} {below : List Frame} {meth : Method} {c : Code} {G : pm_G} {H0 : Heap} {M0 : pm_M} {Post : pm_M → Prop} {v0 : Nat} {v1 : Int32} (E : pm_E G p s m args meth c cX10_readsTold 4 RX10) (hret : meth.sig.returnType = none) : ∀ (n : Nat) (v2 : Int32) (M : pm_M) (H : Heap) (locs : List Loc) (ls : Array Slot), pm_X M0 M → pm_I G H0 M H locs → (pm_is M v0 9) → lv_has ls 4 [(0, .ref (H0.size + v0)), (1, .int v1), (2, .int v2)] → w_X10_readsTold_11 Post v0 v1 n v2 M → W p l e rm_X10_readsTold s m args below meth c H locs 0 0 (pm_Z G H0 M0 (pm_Pv Post) below args s rm_X10_readsTold.cells rm_X10_readsTold.slots) (F0 m 11 ls []) := by
  have hx := E.1
  have hb := E.2.1
  have hown := E.2.2.2.1
  have hts := E.2.2.2.2.1
  intro n
  induction n with
  | zero =>
    intro v2 M H locs ls hX hI t_v0 hl hw
    unfold w_X10_readsTold_11 at hw
    exact hw.elim
  | succ n ih =>
    intro v2 M H locs ls hX hI t_v0 hl hw
    unfold w_X10_readsTold_11 at hw
    refine lv_iload_n hx hb dX10_readsTold_11 rfl (lv_at hl 2 rfl) ?_
    refine lv_iload_n hx hb dX10_readsTold_12 rfl (lv_at hl 1 rfl) ?_
    refine lv_icmp_ge (tgt := 52) hx hb dX10_readsTold_13 (by decide) (fun h_1 => ?_) (fun h_1 => ?_)
    · replace hw := hw.1 h_1
      exact c_X10_readsTold_52 E hret hX hI t_v0 (lv_sub hl [0] rfl) hw
    · replace hw := hw.2 h_1
      refine lv_aload_n hx hb dX10_readsTold_16 rfl (lv_at hl 0 rfl) ?_
      refine gf_X10_116 E hI t_v0 dX10_readsTold_17 ?_
      refine lv_if_ne (tgt := 52) hx hb dX10_readsTold_20 (by decide) (fun h_2 => ?_) (fun h_2 => ?_)
      · replace hw := hw.1 h_2
        exact c_X10_readsTold_52 E hret hX hI t_v0 (lv_sub hl [0] rfl) hw
      · replace hw := hw.2 h_2
        refine lv_aload_n hx hb dX10_readsTold_23 rfl (lv_at hl 0 rfl) ?_
        refine lv_lconst (v := (0 : Int64)) hx hb dX10_readsTold_24 (by decide) ?_
        refine lv_aload_n hx hb dX10_readsTold_25 rfl (lv_at hl 0 rfl) ?_
        refine gf_X10_13 E hI t_v0 dX10_readsTold_26 ?_
        refine lv_i2l hx hb dX10_readsTold_29 rfl ?_
        refine pm_callV (As := [.long (0 : Int64), .long ((mI M v0 1).toInt64)]) (rest := []) 2 E hI (k_X10_next t_v0 hw) t_v0 (by decide) rfl kc_X10_next kl_X10_152 km_X10_next ks_X10_next ki_X10 (by decide +kernel) ⟨by decide, by decide⟩ rfl hl.1 rfl (by first | exact Nat.le_of_ble_eq_true rfl | (simp only [List.map, pm_rf_cat]; exact Nat.le_of_ble_eq_true rfl)) dX10_readsTold_30 ⟨by decide, by decide⟩ (fun r9 M_3 H locs hp hX1 hI => ?_)
        clear hw
        obtain ⟨r_4, rfl, hw⟩ := hp
        replace t_v0 := t_v0.x hX1
        replace hX := hX.tr hX1
        refine pm_nrm (cells' := 0) (slots' := 0) (g2 := F0 m 33 ls [.int r_4]) rfl rfl rfl ?_
        refine lv_istore_n (lv' := [(3, .int r_4), (0, .ref (H0.size + v0)), (1, .int v1), (2, .int v2)]) hx hb dX10_readsTold_33 rfl hl (by decide) rfl (fun ls hl_5 => ?_)
        refine lv_aload_n hx hb dX10_readsTold_34 rfl (lv_at hl_5 1 rfl) ?_
        refine gf_X10_116 E hI t_v0 dX10_readsTold_35 ?_
        refine lv_if_ne (tgt := 46) hx hb dX10_readsTold_38 (by decide) (fun h_6 => ?_) (fun h_6 => ?_)
        · replace hw := hw.1 h_6
          exact c_X10_readsTold_46 E hret ih hX hI t_v0 (lv_sub hl_5 [1, 2, 3] rfl) hw
        · replace hw := hw.2 h_6
          refine lv_aload_n hx hb dX10_readsTold_41 rfl (lv_at hl_5 1 rfl) ?_
          refine lv_iload_n hx hb dX10_readsTold_42 rfl (lv_at hl_5 0 rfl) ?_
          refine pm_callV (As := [.int r_4]) (rest := []) 1 E hI (k_X10_allow t_v0 hw) t_v0 (by decide) rfl kc_X10_allow kl_X10_156 km_X10_allow ks_X10_allow ki_X10 (by decide +kernel) ⟨by decide, by decide⟩ rfl hl_5.1 rfl (by first | exact Nat.le_of_ble_eq_true rfl | (simp only [List.map, pm_rf_cat]; exact Nat.le_of_ble_eq_true rfl)) dX10_readsTold_43 ⟨by decide, by decide⟩ (fun r9 M_7 H locs hp hX1 hI => ?_)
          clear hw
          obtain ⟨rfl, hw⟩ := hp
          replace t_v0 := t_v0.x hX1
          replace hX := hX.tr hX1
          refine pm_nrm (cells' := 0) (slots' := 0) (g2 := F0 m 46 ls []) rfl rfl rfl ?_
          exact c_X10_readsTold_46 E hret ih hX hI t_v0 (lv_sub hl_5 [1, 2, 3] rfl) hw
set_option maxHeartbeats 4000000 in
set_option maxRecDepth 100000 in
theorem k_X10_readsTold {l : Launch} {G : pm_G} {H0 : Heap} {th : Nat} {M : pm_M} {Post : pm_M → Prop} (t_th : pm_is M th 9) (hw : w_X10_readsTold th M Post) : pm_C l G H0 yX10_readsTold cX10_readsTold 4 none rm_X10_readsTold [.ref (H0.size + th)] M (pm_Pv Post) := by
  refine pm_start (by decide +kernel) (Nat.le_of_ble_eq_true rfl) ?_
  intro p e s m args below meth c H ls E hret hnm hI hl
  have hX : pm_X M M := pm_X.rf
  have hl : lv_has ls 4 [(0, .ref (H0.size + th))] := hl
  have hx := E.1
  have hb := E.2.1
  have hown := E.2.2.2.1
  have hts := E.2.2.2.2.1
  unfold w_X10_readsTold at hw
  refine lv_aload_n hx hb dX10_readsTold_0 rfl (lv_at hl 0 rfl) ?_
  refine lv_lconst (v := (0 : Int64)) hx hb dX10_readsTold_1 (by decide) ?_
  refine lv_ldc2 (v := (150 : Int64)) hx hb hown (hts _ kl_X10_150) dX10_readsTold_2 ?_
  refine pm_callV (As := [.long (0 : Int64), .long (150 : Int64)]) (rest := []) 2 E hI (k_X10_next t_th hw) t_th (by decide) rfl kc_X10_next kl_X10_152 km_X10_next ks_X10_next ki_X10 (by decide +kernel) ⟨by decide, by decide⟩ rfl hl.1 rfl (by first | exact Nat.le_of_ble_eq_true rfl | (simp only [List.map, pm_rf_cat]; exact Nat.le_of_ble_eq_true rfl)) dX10_readsTold_5 ⟨by decide, by decide⟩ (fun r9 M_1 H locs hp hX1 hI => ?_)
  clear hw
  obtain ⟨r_2, rfl, hw⟩ := hp
  replace t_th := t_th.x hX1
  replace hX := hX.tr hX1
  refine pm_nrm (cells' := 0) (slots' := 0) (g2 := F0 m 8 ls [.int r_2]) rfl rfl rfl ?_
  refine lv_istore_n (lv' := [(1, .int r_2), (0, .ref (H0.size + th))]) hx hb dX10_readsTold_8 rfl hl (by decide) rfl (fun ls hl_3 => ?_)
  refine lv_iconst (v := (0 : Int32)) hx hb dX10_readsTold_9 (by decide) ?_
  refine lv_istore_n (lv' := [(2, .int (0 : Int32)), (1, .int r_2), (0, .ref (H0.size + th))]) hx hb dX10_readsTold_10 rfl hl_3 (by decide) rfl (fun ls hl_4 => ?_)
  obtain ⟨n_5, hw⟩ := hw
  exact c_X10_readsTold_11 E hret n_5 _ _ _ _ _ hX hI t_th (lv_sub hl_4 [2, 1, 0] rfl) hw
set_option maxHeartbeats 4000000 in
set_option maxRecDepth 100000 in
theorem c_X10_readsEven_45 {p : Program} {l : Launch} {e : Env} {s : State} {m : MethodId} {args : Array Value} {below : List Frame} {meth : Method} {c : Code} {G : pm_G} {H0 : Heap} {M0 : pm_M} {Post : pm_M → Prop} {M : pm_M} (E : pm_E G p s m args meth c cX10_readsEven 3 RX10) (hret : meth.sig.returnType = none) {H : Heap} {locs : List Loc} {ls : Array Slot} (hX : pm_X M0 M) (hI : pm_I G H0 M H locs) (hl : lv_has ls 3 []) (hw : w_X10_readsEven_45 Post M) : W p l e rm_X10_readsEven s m args below meth c H locs 0 0 (pm_Z G H0 M0 (pm_Pv Post) below args s rm_X10_readsEven.cells rm_X10_readsEven.slots) (F0 m 45 ls []) := by
  have hx := E.1
  have hb := E.2.1
  have hown := E.2.2.2.1
  have hts := E.2.2.2.2.1
  unfold w_X10_readsEven_45 at hw
  exact pm_vret E hret hI hX ⟨rfl, hw⟩ (by decide) (by decide) dX10_readsEven_45
set_option maxHeartbeats 4000000 in
set_option maxRecDepth 100000 in
theorem c_X10_readsEven_39 {p : Program} {l : Launch} {e : Env} {s : State} {m : MethodId} {args : Array Value} {below : List Frame} {meth : Method} {c : Code} {G : pm_G} {H0 : Heap} {M0 : pm_M} {Post : pm_M → Prop} {v0 : Nat} {v1 : Int32} {v2 : Int32} {M : pm_M} {k_11 : Int32 → pm_M → Prop} (E : pm_E G p s m args meth c cX10_readsEven 3 RX10) (hret : meth.sig.returnType = none) (hk_11 : ∀ (v2 : Int32) (M : pm_M) (H : Heap) (locs : List Loc) (ls : Array Slot), pm_X M0 M → pm_I G H0 M H locs → (pm_is M v0 9) → lv_has ls 3 [(0, .ref (H0.size + v0)), (1, .int v1), (2, .int v2)] → k_11 v2 M → W p l e rm_X10_readsEven s m args below meth c H locs 0 0 (pm_Z G H0 M0 (pm_Pv Post) below args s rm_X10_readsEven.cells rm_X10_readsEven.slots) (F0 m 11 ls [])) {H : Heap} {locs : List Loc} {ls : Array Slot} (hX : pm_X M0 M) (hI : pm_I G H0 M H locs) (t_v0 : pm_is M v0 9) (hl : lv_has ls 3 [(0, .ref (H0.size + v0)), (1, .int v1), (2, .int v2)]) (hw : w_X10_readsEven_39 Post k_11 v0 v1 v2 M) : W p l e rm_X10_readsEven s m args below meth c H locs 0 0 (pm_Z G H0 M0 (pm_Pv Post) below args s rm_X10_readsEven.cells rm_X10_readsEven.slots) (F0 m 39 ls []) := by
  have hx := E.1
  have hb := E.2.1
  have hown := E.2.2.2.1
  have hts := E.2.2.2.2.1
  unfold w_X10_readsEven_39 at hw
  obtain ⟨x_1, e_x_1⟩ : ∃ z : Int32, z = v2 + (1 : Int32) := ⟨_, rfl⟩
  refine lv_iinc (v := x_1) (lv' := [(2, .int x_1), (0, .ref (H0.size + v0)), (1, .int v1)]) hx hb dX10_readsEven_39 hl (k := 2) rfl (by rw [e_x_1]; rfl) (by decide) rfl (fun ls hl_2 => ?_)
  replace hw := hw x_1 e_x_1
  refine lv_goto (tgt := 11) hx hb dX10_readsEven_42 (by decide) ?_
  exact hk_11 _ _ _ _ _ hX hI t_v0 (lv_sub hl_2 [1, 2, 0] rfl) hw
set_option maxHeartbeats 4000000 in
set_option maxRecDepth 100000 in
theorem c_X10_readsEven_11 {p : Program} {l : Launch} {e : Env} {s : State} {m : MethodId} {args : Array Value} {below : List Frame} {meth : Method} {c : Code} {G : pm_G} {H0 : Heap} {M0 : pm_M} {Post : pm_M → Prop} {v0 : Nat} {v1 : Int32} (E : pm_E G p s m args meth c cX10_readsEven 3 RX10) (hret : meth.sig.returnType = none) : ∀ (n : Nat) (v2 : Int32) (M : pm_M) (H : Heap) (locs : List Loc) (ls : Array Slot), pm_X M0 M → pm_I G H0 M H locs → (pm_is M v0 9) → lv_has ls 3 [(0, .ref (H0.size + v0)), (1, .int v1), (2, .int v2)] → w_X10_readsEven_11 Post v0 v1 n v2 M → W p l e rm_X10_readsEven s m args below meth c H locs 0 0 (pm_Z G H0 M0 (pm_Pv Post) below args s rm_X10_readsEven.cells rm_X10_readsEven.slots) (F0 m 11 ls []) := by
  have hx := E.1
  have hb := E.2.1
  have hown := E.2.2.2.1
  have hts := E.2.2.2.2.1
  intro n
  induction n with
  | zero =>
    intro v2 M H locs ls hX hI t_v0 hl hw
    unfold w_X10_readsEven_11 at hw
    exact hw.elim
  | succ n ih =>
    intro v2 M H locs ls hX hI t_v0 hl hw
    unfold w_X10_readsEven_11 at hw
    refine lv_iload_n hx hb dX10_readsEven_11 rfl (lv_at hl 2 rfl) ?_
    refine lv_aload_n hx hb dX10_readsEven_12 rfl (lv_at hl 0 rfl) ?_
    refine gf_X10_13 E hI t_v0 dX10_readsEven_13 ?_
    refine lv_icmp_gt (tgt := 45) hx hb dX10_readsEven_16 (by decide) (fun h_1 => ?_) (fun h_1 => ?_)
    · replace hw := hw.1 h_1
      exact c_X10_readsEven_45 E hret hX hI (lv_sub hl [] rfl) hw
    · replace hw := hw.2 h_1
      refine lv_aload_n hx hb dX10_readsEven_19 rfl (lv_at hl 0 rfl) ?_
      refine gf_X10_116 E hI t_v0 dX10_readsEven_20 ?_
      refine lv_if_ne (tgt := 45) hx hb dX10_readsEven_23 (by decide) (fun h_2 => ?_) (fun h_2 => ?_)
      · replace hw := hw.1 h_2
        exact c_X10_readsEven_45 E hret hX hI (lv_sub hl [] rfl) hw
      · replace hw := hw.2 h_2
        refine lv_iload_n hx hb dX10_readsEven_26 rfl (lv_at hl 2 rfl) ?_
        refine pm_callS (As := [.int v2]) (rest := []) 1 E hI (k_X10_bitsOf hw) kc_X10_bitsOf kl_X10_104 kt_X10_bitsOf ki_X10 (by decide +kernel) ⟨by decide, by decide⟩ rfl hl.1 rfl (by first | exact Nat.le_of_ble_eq_true rfl | (simp only [List.map, pm_rf_cat]; exact Nat.le_of_ble_eq_true rfl)) dX10_readsEven_27 ⟨by decide, by decide⟩ (fun r9 M9 H locs hp hX1 hI => ?_)
        clear hw
        obtain ⟨r_3, rfl, rfl, hw⟩ := hp
        refine pm_nrm (cells' := 0) (slots' := 0) (g2 := F0 m 30 ls [.int r_3]) rfl rfl rfl ?_
        refine lv_iload_n hx hb dX10_readsEven_30 rfl (lv_at hl 1 rfl) ?_
        refine lv_icmp_gt (tgt := 39) hx hb dX10_readsEven_31 (by decide) (fun h_4 => ?_) (fun h_4 => ?_)
        · replace hw := hw.1 h_4
          exact c_X10_readsEven_39 E hret ih hX hI t_v0 (lv_sub hl [0, 1, 2] rfl) hw
        · replace hw := hw.2 h_4
          refine lv_aload_n hx hb dX10_readsEven_34 rfl (lv_at hl 0 rfl) ?_
          refine lv_iload_n hx hb dX10_readsEven_35 rfl (lv_at hl 2 rfl) ?_
          refine pm_callV (As := [.int v2]) (rest := []) 1 E hI (k_X10_allow t_v0 hw) t_v0 (by decide) rfl kc_X10_allow kl_X10_156 km_X10_allow ks_X10_allow ki_X10 (by decide +kernel) ⟨by decide, by decide⟩ rfl hl.1 rfl (by first | exact Nat.le_of_ble_eq_true rfl | (simp only [List.map, pm_rf_cat]; exact Nat.le_of_ble_eq_true rfl)) dX10_readsEven_36 ⟨by decide, by decide⟩ (fun r9 M_5 H locs hp hX1 hI => ?_)
          clear hw
          obtain ⟨rfl, hw⟩ := hp
          replace t_v0 := t_v0.x hX1
          replace hX := hX.tr hX1
          refine pm_nrm (cells' := 0) (slots' := 0) (g2 := F0 m 39 ls []) rfl rfl rfl ?_
          exact c_X10_readsEven_39 E hret ih hX hI t_v0 (lv_sub hl [0, 1, 2] rfl) hw
set_option maxHeartbeats 4000000 in
set_option maxRecDepth 100000 in
theorem k_X10_readsEven {l : Launch} {G : pm_G} {H0 : Heap} {th : Nat} {M : pm_M} {Post : pm_M → Prop} (t_th : pm_is M th 9) (hw : w_X10_readsEven th M Post) : pm_C l G H0 yX10_readsEven cX10_readsEven 3 none rm_X10_readsEven [.ref (H0.size + th)] M (pm_Pv Post) := by
  refine pm_start (by decide +kernel) (Nat.le_of_ble_eq_true rfl) ?_
  intro p e s m args below meth c H ls E hret hnm hI hl
  have hX : pm_X M M := pm_X.rf
  have hl : lv_has ls 3 [(0, .ref (H0.size + th))] := hl
  have hx := E.1
  have hb := E.2.1
  have hown := E.2.2.2.1
  have hts := E.2.2.2.2.1
  unfold w_X10_readsEven at hw
  refine lv_aload_n hx hb dX10_readsEven_0 rfl (lv_at hl 0 rfl) ?_
  refine lv_lconst (v := (0 : Int64)) hx hb dX10_readsEven_1 (by decide) ?_
  refine lv_ldc2 (v := (12 : Int64)) hx hb hown (hts _ kl_X10_166) dX10_readsEven_2 ?_
  refine pm_callV (As := [.long (0 : Int64), .long (12 : Int64)]) (rest := []) 2 E hI (k_X10_next t_th hw) t_th (by decide) rfl kc_X10_next kl_X10_152 km_X10_next ks_X10_next ki_X10 (by decide +kernel) ⟨by decide, by decide⟩ rfl hl.1 rfl (by first | exact Nat.le_of_ble_eq_true rfl | (simp only [List.map, pm_rf_cat]; exact Nat.le_of_ble_eq_true rfl)) dX10_readsEven_5 ⟨by decide, by decide⟩ (fun r9 M_1 H locs hp hX1 hI => ?_)
  clear hw
  obtain ⟨r_2, rfl, hw⟩ := hp
  replace t_th := t_th.x hX1
  replace hX := hX.tr hX1
  refine pm_nrm (cells' := 0) (slots' := 0) (g2 := F0 m 8 ls [.int r_2]) rfl rfl rfl ?_
  refine lv_istore_n (lv' := [(1, .int r_2), (0, .ref (H0.size + th))]) hx hb dX10_readsEven_8 rfl hl (by decide) rfl (fun ls hl_3 => ?_)
  refine lv_iconst (v := (0 : Int32)) hx hb dX10_readsEven_9 (by decide) ?_
  refine lv_istore_n (lv' := [(2, .int (0 : Int32)), (1, .int r_2), (0, .ref (H0.size + th))]) hx hb dX10_readsEven_10 rfl hl_3 (by decide) rfl (fun ls hl_4 => ?_)
  obtain ⟨n_5, hw⟩ := hw
  exact c_X10_readsEven_11 E hret n_5 _ _ _ _ _ hX hI t_th (lv_sub hl_4 [2, 1, 0] rfl) hw
set_option maxHeartbeats 4000000 in
set_option maxRecDepth 100000 in
theorem c_X10_readsParts_194 {p : Program} {l : Launch} {e : Env} {s : State} {m : MethodId} {args : Array Value} {below : List Frame} {meth : Method} {c : Code} {G : pm_G} {H0 : Heap} {M0 : pm_M} {Post : pm_M → Prop} {M : pm_M} (E : pm_E G p s m args meth c cX10_readsParts 7 RX10) (hret : meth.sig.returnType = none) {H : Heap} {locs : List Loc} {ls : Array Slot} (hX : pm_X M0 M) (hI : pm_I G H0 M H locs) (hl : lv_has ls 7 []) (hw : w_X10_readsParts_194 Post M) : W p l e rm_X10_readsParts s m args below meth c H locs 0 0 (pm_Z G H0 M0 (pm_Pv Post) below args s rm_X10_readsParts.cells rm_X10_readsParts.slots) (F0 m 194 ls []) := by
  have hx := E.1
  have hb := E.2.1
  have hown := E.2.2.2.1
  have hts := E.2.2.2.2.1
  unfold w_X10_readsParts_194 at hw
  exact pm_vret E hret hI hX ⟨rfl, hw⟩ (by decide) (by decide) dX10_readsParts_194
set_option maxHeartbeats 4000000 in
set_option maxRecDepth 100000 in
theorem c_X10_readsParts_188 {p : Program} {l : Launch} {e : Env} {s : State} {m : MethodId} {args : Array Value} {below : List Frame} {meth : Method} {c : Code} {G : pm_G} {H0 : Heap} {M0 : pm_M} {Post : pm_M → Prop} {v0 : Nat} {v1 : Int32} {v2 : Int32} {M : pm_M} {k_72 : Int32 → pm_M → Prop} (E : pm_E G p s m args meth c cX10_readsParts 7 RX10) (hret : meth.sig.returnType = none) (hk_72 : ∀ (v2 : Int32) (M : pm_M) (H : Heap) (locs : List Loc) (ls : Array Slot), pm_X M0 M → pm_I G H0 M H locs → (pm_is M v0 9) → lv_has ls 7 [(0, .ref (H0.size + v0)), (1, .int v1), (2, .int v2)] → k_72 v2 M → W p l e rm_X10_readsParts s m args below meth c H locs 0 0 (pm_Z G H0 M0 (pm_Pv Post) below args s rm_X10_readsParts.cells rm_X10_readsParts.slots) (F0 m 72 ls [])) {H : Heap} {locs : List Loc} {ls : Array Slot} (hX : pm_X M0 M) (hI : pm_I G H0 M H locs) (t_v0 : pm_is M v0 9) (hl : lv_has ls 7 [(0, .ref (H0.size + v0)), (1, .int v1), (2, .int v2)]) (hw : w_X10_readsParts_188 Post k_72 v0 v1 v2 M) : W p l e rm_X10_readsParts s m args below meth c H locs 0 0 (pm_Z G H0 M0 (pm_Pv Post) below args s rm_X10_readsParts.cells rm_X10_readsParts.slots) (F0 m 188 ls []) := by
  have hx := E.1
  have hb := E.2.1
  have hown := E.2.2.2.1
  have hts := E.2.2.2.2.1
  unfold w_X10_readsParts_188 at hw
  obtain ⟨x_1, e_x_1⟩ : ∃ z : Int32, z = v2 + (1 : Int32) := ⟨_, rfl⟩
  refine lv_iinc (v := x_1) (lv' := [(2, .int x_1), (0, .ref (H0.size + v0)), (1, .int v1)]) hx hb dX10_readsParts_188 hl (k := 2) rfl (by rw [e_x_1]; rfl) (by decide) rfl (fun ls hl_2 => ?_)
  replace hw := hw x_1 e_x_1
  refine lv_goto (tgt := 72) hx hb dX10_readsParts_191 (by decide) ?_
  exact hk_72 _ _ _ _ _ hX hI t_v0 (lv_sub hl_2 [1, 2, 0] rfl) hw
set_option maxHeartbeats 4000000 in
set_option maxRecDepth 100000 in
theorem c_X10_readsParts_172 {p : Program} {l : Launch} {e : Env} {s : State} {m : MethodId} {args : Array Value} {below : List Frame} {meth : Method} {c : Code} {G : pm_G} {H0 : Heap} {M0 : pm_M} {Post : pm_M → Prop} {v0 : Nat} {v1 : Int32} {v2 : Int32} {v4 : Int32} {s0 : Int32} {M : pm_M} {k_72 : Int32 → pm_M → Prop} {k_92 : Int32 → Int32 → Prop} (E : pm_E G p s m args meth c cX10_readsParts 7 RX10) (hret : meth.sig.returnType = none) (hk_72 : ∀ (v2 : Int32) (M : pm_M) (H : Heap) (locs : List Loc) (ls : Array Slot), pm_X M0 M → pm_I G H0 M H locs → (pm_is M v0 9) → lv_has ls 7 [(0, .ref (H0.size + v0)), (1, .int v1), (2, .int v2)] → k_72 v2 M → W p l e rm_X10_readsParts s m args below meth c H locs 0 0 (pm_Z G H0 M0 (pm_Pv Post) below args s rm_X10_readsParts.cells rm_X10_readsParts.slots) (F0 m 72 ls [])) (hk_92 : ∀ (v3 : Int32) (v4 : Int32) (H : Heap) (locs : List Loc) (ls : Array Slot), pm_X M0 M → pm_I G H0 M H locs → (pm_is M v0 9) → lv_has ls 7 [(0, .ref (H0.size + v0)), (1, .int v1), (2, .int v2), (3, .int v3), (4, .int v4)] → k_92 v3 v4 → W p l e rm_X10_readsParts s m args below meth c H locs 0 0 (pm_Z G H0 M0 (pm_Pv Post) below args s rm_X10_readsParts.cells rm_X10_readsParts.slots) (F0 m 92 ls [])) {H : Heap} {locs : List Loc} {ls : Array Slot} (hX : pm_X M0 M) (hI : pm_I G H0 M H locs) (t_v0 : pm_is M v0 9) (hl : lv_has ls 7 [(0, .ref (H0.size + v0)), (1, .int v1), (2, .int v2), (4, .int v4)]) (hw : w_X10_readsParts_172 Post k_72 k_92 v0 v1 v2 v4 s0 M) : W p l e rm_X10_readsParts s m args below meth c H locs 0 0 (pm_Z G H0 M0 (pm_Pv Post) below args s rm_X10_readsParts.cells rm_X10_readsParts.slots) (F0 m 172 ls [.int s0]) := by
  have hx := E.1
  have hb := E.2.1
  have hown := E.2.2.2.1
  have hts := E.2.2.2.2.1
  unfold w_X10_readsParts_172 at hw
  refine lv_istore_n (lv' := [(3, .int s0), (0, .ref (H0.size + v0)), (1, .int v1), (2, .int v2), (4, .int v4)]) hx hb dX10_readsParts_172 rfl hl (by decide) rfl (fun ls hl_1 => ?_)
  obtain ⟨x_2, e_x_2⟩ : ∃ z : Int32, z = v4 + (1 : Int32) := ⟨_, rfl⟩
  refine lv_iinc (v := x_2) (lv' := [(4, .int x_2), (3, .int s0), (0, .ref (H0.size + v0)), (1, .int v1), (2, .int v2)]) hx hb dX10_readsParts_173 hl_1 (k := 4) rfl (by rw [e_x_2]; rfl) (by decide) rfl (fun ls hl_3 => ?_)
  replace hw := hw x_2 e_x_2
  refine lv_goto (tgt := 92) hx hb dX10_readsParts_176 (by decide) ?_
  exact hk_92 _ _ _ _ _ hX hI t_v0 (lv_sub hl_3 [2, 3, 4, 1, 0] rfl) hw
set_option maxHeartbeats 4000000 in
set_option maxRecDepth 100000 in
theorem c_X10_readsParts_171 {p : Program} {l : Launch} {e : Env} {s : State} {m : MethodId} {args : Array Value} {below : List Frame} {meth : Method} {c : Code} {G : pm_G} {H0 : Heap} {M0 : pm_M} {Post : pm_M → Prop} {v0 : Nat} {v1 : Int32} {v2 : Int32} {v4 : Int32} {M : pm_M} {k_72 : Int32 → pm_M → Prop} {k_92 : Int32 → Int32 → Prop} (E : pm_E G p s m args meth c cX10_readsParts 7 RX10) (hret : meth.sig.returnType = none) (hk_72 : ∀ (v2 : Int32) (M : pm_M) (H : Heap) (locs : List Loc) (ls : Array Slot), pm_X M0 M → pm_I G H0 M H locs → (pm_is M v0 9) → lv_has ls 7 [(0, .ref (H0.size + v0)), (1, .int v1), (2, .int v2)] → k_72 v2 M → W p l e rm_X10_readsParts s m args below meth c H locs 0 0 (pm_Z G H0 M0 (pm_Pv Post) below args s rm_X10_readsParts.cells rm_X10_readsParts.slots) (F0 m 72 ls [])) (hk_92 : ∀ (v3 : Int32) (v4 : Int32) (H : Heap) (locs : List Loc) (ls : Array Slot), pm_X M0 M → pm_I G H0 M H locs → (pm_is M v0 9) → lv_has ls 7 [(0, .ref (H0.size + v0)), (1, .int v1), (2, .int v2), (3, .int v3), (4, .int v4)] → k_92 v3 v4 → W p l e rm_X10_readsParts s m args below meth c H locs 0 0 (pm_Z G H0 M0 (pm_Pv Post) below args s rm_X10_readsParts.cells rm_X10_readsParts.slots) (F0 m 92 ls [])) {H : Heap} {locs : List Loc} {ls : Array Slot} (hX : pm_X M0 M) (hI : pm_I G H0 M H locs) (t_v0 : pm_is M v0 9) (hl : lv_has ls 7 [(0, .ref (H0.size + v0)), (1, .int v1), (2, .int v2), (4, .int v4)]) (hw : w_X10_readsParts_171 Post k_72 k_92 v0 v1 v2 v4 M) : W p l e rm_X10_readsParts s m args below meth c H locs 0 0 (pm_Z G H0 M0 (pm_Pv Post) below args s rm_X10_readsParts.cells rm_X10_readsParts.slots) (F0 m 171 ls []) := by
  have hx := E.1
  have hb := E.2.1
  have hown := E.2.2.2.1
  have hts := E.2.2.2.2.1
  unfold w_X10_readsParts_171 at hw
  refine lv_iconst (v := (0 : Int32)) hx hb dX10_readsParts_171 (by decide) ?_
  exact c_X10_readsParts_172 E hret hk_72 hk_92 hX hI t_v0 (lv_sub hl [0, 1, 2, 3] rfl) hw
set_option maxHeartbeats 4000000 in
set_option maxRecDepth 100000 in
theorem c_X10_readsParts_142 {p : Program} {l : Launch} {e : Env} {s : State} {m : MethodId} {args : Array Value} {below : List Frame} {meth : Method} {c : Code} {G : pm_G} {H0 : Heap} {M0 : pm_M} {Post : pm_M → Prop} {v0 : Nat} {v1 : Int32} {v2 : Int32} {v3 : Int32} {v4 : Int32} {v6 : Int32} {s0 : Int32} {s1 : Int32} {M : pm_M} {k_72 : Int32 → pm_M → Prop} {k_92 : Int32 → Int32 → Prop} {k_104 : Int32 → Int32 → Prop} (E : pm_E G p s m args meth c cX10_readsParts 7 RX10) (hret : meth.sig.returnType = none) (hk_72 : ∀ (v2 : Int32) (M : pm_M) (H : Heap) (locs : List Loc) (ls : Array Slot), pm_X M0 M → pm_I G H0 M H locs → (pm_is M v0 9) → lv_has ls 7 [(0, .ref (H0.size + v0)), (1, .int v1), (2, .int v2)] → k_72 v2 M → W p l e rm_X10_readsParts s m args below meth c H locs 0 0 (pm_Z G H0 M0 (pm_Pv Post) below args s rm_X10_readsParts.cells rm_X10_readsParts.slots) (F0 m 72 ls [])) (hk_92 : ∀ (v3 : Int32) (v4 : Int32) (H : Heap) (locs : List Loc) (ls : Array Slot), pm_X M0 M → pm_I G H0 M H locs → (pm_is M v0 9) → lv_has ls 7 [(0, .ref (H0.size + v0)), (1, .int v1), (2, .int v2), (3, .int v3), (4, .int v4)] → k_92 v3 v4 → W p l e rm_X10_readsParts s m args below meth c H locs 0 0 (pm_Z G H0 M0 (pm_Pv Post) below args s rm_X10_readsParts.cells rm_X10_readsParts.slots) (F0 m 92 ls [])) (hk_104 : ∀ (v5 : Int32) (v6 : Int32) (H : Heap) (locs : List Loc) (ls : Array Slot), pm_X M0 M → pm_I G H0 M H locs → (pm_is M v0 9) → lv_has ls 7 [(0, .ref (H0.size + v0)), (1, .int v1), (2, .int v2), (3, .int v3), (4, .int v4), (5, .int v5), (6, .int v6)] → k_104 v5 v6 → W p l e rm_X10_readsParts s m args below meth c H locs 0 0 (pm_Z G H0 M0 (pm_Pv Post) below args s rm_X10_readsParts.cells rm_X10_readsParts.slots) (F0 m 104 ls [])) {H : Heap} {locs : List Loc} {ls : Array Slot} (hX : pm_X M0 M) (hI : pm_I G H0 M H locs) (t_v0 : pm_is M v0 9) (hl : lv_has ls 7 [(0, .ref (H0.size + v0)), (1, .int v1), (2, .int v2), (3, .int v3), (4, .int v4), (6, .int v6)]) (hw : w_X10_readsParts_142 Post k_72 k_92 k_104 v0 v1 v2 v3 v4 v6 s0 s1 M) : W p l e rm_X10_readsParts s m args below meth c H locs 0 0 (pm_Z G H0 M0 (pm_Pv Post) below args s rm_X10_readsParts.cells rm_X10_readsParts.slots) (F0 m 142 ls [.int s1, .int s0]) := by
  have hx := E.1
  have hb := E.2.1
  have hown := E.2.2.2.1
  have hts := E.2.2.2.2.1
  unfold w_X10_readsParts_142 at hw
  refine lv_iadd hx hb dX10_readsParts_142 ?_
  refine lv_topi (fun x_1 e_x_1 => ?_)
  replace hw := hw x_1 e_x_1
  refine lv_istore (lv' := [(5, .int x_1), (0, .ref (H0.size + v0)), (1, .int v1), (2, .int v2), (3, .int v3), (4, .int v4), (6, .int v6)]) hx hb dX10_readsParts_143 hl (by decide) rfl (fun ls hl_2 => ?_)
  obtain ⟨x_3, e_x_3⟩ : ∃ z : Int32, z = v6 + (1 : Int32) := ⟨_, rfl⟩
  refine lv_iinc (v := x_3) (lv' := [(6, .int x_3), (5, .int x_1), (0, .ref (H0.size + v0)), (1, .int v1), (2, .int v2), (3, .int v3), (4, .int v4)]) hx hb dX10_readsParts_145 hl_2 (k := 6) rfl (by rw [e_x_3]; rfl) (by decide) rfl (fun ls hl_4 => ?_)
  replace hw := hw x_3 e_x_3
  refine lv_goto (tgt := 104) hx hb dX10_readsParts_148 (by decide) ?_
  exact hk_104 _ _ _ _ _ hX hI t_v0 (lv_sub hl_4 [2, 3, 4, 5, 6, 1, 0] rfl) hw
set_option maxHeartbeats 4000000 in
set_option maxRecDepth 100000 in
theorem c_X10_readsParts_141 {p : Program} {l : Launch} {e : Env} {s : State} {m : MethodId} {args : Array Value} {below : List Frame} {meth : Method} {c : Code} {G : pm_G} {H0 : Heap} {M0 : pm_M} {Post : pm_M → Prop} {v0 : Nat} {v1 : Int32} {v2 : Int32} {v3 : Int32} {v4 : Int32} {v6 : Int32} {s0 : Int32} {M : pm_M} {k_72 : Int32 → pm_M → Prop} {k_92 : Int32 → Int32 → Prop} {k_104 : Int32 → Int32 → Prop} (E : pm_E G p s m args meth c cX10_readsParts 7 RX10) (hret : meth.sig.returnType = none) (hk_72 : ∀ (v2 : Int32) (M : pm_M) (H : Heap) (locs : List Loc) (ls : Array Slot), pm_X M0 M → pm_I G H0 M H locs → (pm_is M v0 9) → lv_has ls 7 [(0, .ref (H0.size + v0)), (1, .int v1), (2, .int v2)] → k_72 v2 M → W p l e rm_X10_readsParts s m args below meth c H locs 0 0 (pm_Z G H0 M0 (pm_Pv Post) below args s rm_X10_readsParts.cells rm_X10_readsParts.slots) (F0 m 72 ls [])) (hk_92 : ∀ (v3 : Int32) (v4 : Int32) (H : Heap) (locs : List Loc) (ls : Array Slot), pm_X M0 M → pm_I G H0 M H locs → (pm_is M v0 9) → lv_has ls 7 [(0, .ref (H0.size + v0)), (1, .int v1), (2, .int v2), (3, .int v3), (4, .int v4)] → k_92 v3 v4 → W p l e rm_X10_readsParts s m args below meth c H locs 0 0 (pm_Z G H0 M0 (pm_Pv Post) below args s rm_X10_readsParts.cells rm_X10_readsParts.slots) (F0 m 92 ls [])) (hk_104 : ∀ (v5 : Int32) (v6 : Int32) (H : Heap) (locs : List Loc) (ls : Array Slot), pm_X M0 M → pm_I G H0 M H locs → (pm_is M v0 9) → lv_has ls 7 [(0, .ref (H0.size + v0)), (1, .int v1), (2, .int v2), (3, .int v3), (4, .int v4), (5, .int v5), (6, .int v6)] → k_104 v5 v6 → W p l e rm_X10_readsParts s m args below meth c H locs 0 0 (pm_Z G H0 M0 (pm_Pv Post) below args s rm_X10_readsParts.cells rm_X10_readsParts.slots) (F0 m 104 ls [])) {H : Heap} {locs : List Loc} {ls : Array Slot} (hX : pm_X M0 M) (hI : pm_I G H0 M H locs) (t_v0 : pm_is M v0 9) (hl : lv_has ls 7 [(0, .ref (H0.size + v0)), (1, .int v1), (2, .int v2), (3, .int v3), (4, .int v4), (6, .int v6)]) (hw : w_X10_readsParts_141 Post k_72 k_92 k_104 v0 v1 v2 v3 v4 v6 s0 M) : W p l e rm_X10_readsParts s m args below meth c H locs 0 0 (pm_Z G H0 M0 (pm_Pv Post) below args s rm_X10_readsParts.cells rm_X10_readsParts.slots) (F0 m 141 ls [.int s0]) := by
  have hx := E.1
  have hb := E.2.1
  have hown := E.2.2.2.1
  have hts := E.2.2.2.2.1
  unfold w_X10_readsParts_141 at hw
  refine lv_iconst (v := (0 : Int32)) hx hb dX10_readsParts_141 (by decide) ?_
  exact c_X10_readsParts_142 E hret hk_72 hk_92 hk_104 hX hI t_v0 (lv_sub hl [0, 1, 2, 3, 4, 5] rfl) hw
set_option maxHeartbeats 4000000 in
set_option maxRecDepth 100000 in
theorem c_X10_readsParts_104 {p : Program} {l : Launch} {e : Env} {s : State} {m : MethodId} {args : Array Value} {below : List Frame} {meth : Method} {c : Code} {G : pm_G} {H0 : Heap} {M0 : pm_M} {Post : pm_M → Prop} {v0 : Nat} {v1 : Int32} {v2 : Int32} {v3 : Int32} {v4 : Int32} {M : pm_M} {k_72 : Int32 → pm_M → Prop} {k_92 : Int32 → Int32 → Prop} (E : pm_E G p s m args meth c cX10_readsParts 7 RX10) (hret : meth.sig.returnType = none) (hk_72 : ∀ (v2 : Int32) (M : pm_M) (H : Heap) (locs : List Loc) (ls : Array Slot), pm_X M0 M → pm_I G H0 M H locs → (pm_is M v0 9) → lv_has ls 7 [(0, .ref (H0.size + v0)), (1, .int v1), (2, .int v2)] → k_72 v2 M → W p l e rm_X10_readsParts s m args below meth c H locs 0 0 (pm_Z G H0 M0 (pm_Pv Post) below args s rm_X10_readsParts.cells rm_X10_readsParts.slots) (F0 m 72 ls [])) (hk_92 : ∀ (v3 : Int32) (v4 : Int32) (H : Heap) (locs : List Loc) (ls : Array Slot), pm_X M0 M → pm_I G H0 M H locs → (pm_is M v0 9) → lv_has ls 7 [(0, .ref (H0.size + v0)), (1, .int v1), (2, .int v2), (3, .int v3), (4, .int v4)] → k_92 v3 v4 → W p l e rm_X10_readsParts s m args below meth c H locs 0 0 (pm_Z G H0 M0 (pm_Pv Post) below args s rm_X10_readsParts.cells rm_X10_readsParts.slots) (F0 m 92 ls [])) : ∀ (n : Nat) (v5 : Int32) (v6 : Int32) (H : Heap) (locs : List Loc) (ls : Array Slot), pm_X M0 M → pm_I G H0 M H locs → (pm_is M v0 9) → lv_has ls 7 [(0, .ref (H0.size + v0)), (1, .int v1), (2, .int v2), (3, .int v3), (4, .int v4), (5, .int v5), (6, .int v6)] → w_X10_readsParts_104 Post k_72 k_92 v0 v1 v2 v3 v4 M n v5 v6 → W p l e rm_X10_readsParts s m args below meth c H locs 0 0 (pm_Z G H0 M0 (pm_Pv Post) below args s rm_X10_readsParts.cells rm_X10_readsParts.slots) (F0 m 104 ls []) := by
  have hx := E.1
  have hb := E.2.1
  have hown := E.2.2.2.1
  have hts := E.2.2.2.2.1
  intro n
  induction n with
  | zero =>
    intro v5 v6 H locs ls hX hI t_v0 hl hw
    unfold w_X10_readsParts_104 at hw
    exact hw.elim
  | succ n ih =>
    intro v5 v6 H locs ls hX hI t_v0 hl hw
    unfold w_X10_readsParts_104 at hw
    refine lv_iload hx hb dX10_readsParts_104 (lv_at hl 6 rfl) ?_
    refine lv_aload_n hx hb dX10_readsParts_106 rfl (lv_at hl 0 rfl) ?_
    refine gf_X10_7 E hI t_v0 dX10_readsParts_107 ?_
    refine lv_icmp_ge (tgt := 151) hx hb dX10_readsParts_110 (by decide) (fun h_1 => ?_) (fun h_1 => ?_)
    · replace hw := hw.1 h_1
      refine lv_iload_n hx hb dX10_readsParts_151 rfl (lv_at hl 3 rfl) ?_
      refine lv_if_eq (tgt := 171) hx hb dX10_readsParts_152 (by decide) (fun h_2 => ?_) (fun h_2 => ?_)
      · replace hw := hw.1 h_2
        exact c_X10_readsParts_171 E hret hk_72 hk_92 hX hI t_v0 (lv_sub hl [0, 1, 2, 4] rfl) hw
      · replace hw := hw.2 h_2
        refine lv_iload hx hb dX10_readsParts_155 (lv_at hl 5 rfl) ?_
        refine lv_aload_n hx hb dX10_readsParts_157 rfl (lv_at hl 0 rfl) ?_
        obtain ⟨q_3, e_q_3, hw⟩ := hw
        refine gf_X10_60 E hI t_v0 dX10_readsParts_158 e_q_3 (fun t_q_3 => ?_)
        refine lv_iload hx hb dX10_readsParts_161 (lv_at hl 4 rfl) ?_
        obtain ⟨h_4, hw⟩ := hw
        refine pm_iald E hI t_q_3 h_4 dX10_readsParts_163 ?_
        refine lv_icmp_gt (tgt := 171) hx hb dX10_readsParts_164 (by decide) (fun h_5 => ?_) (fun h_5 => ?_)
        · replace hw := hw.1 h_5
          exact c_X10_readsParts_171 E hret hk_72 hk_92 hX hI t_v0 (lv_sub hl [0, 1, 2, 4] rfl) hw
        · replace hw := hw.2 h_5
          refine lv_iconst (v := (1 : Int32)) hx hb dX10_readsParts_167 (by decide) ?_
          refine lv_goto (tgt := 172) hx hb dX10_readsParts_168 (by decide) ?_
          exact c_X10_readsParts_172 E hret hk_72 hk_92 hX hI t_v0 (lv_sub hl [0, 1, 2, 4] rfl) hw
    · replace hw := hw.2 h_1
      refine lv_iload hx hb dX10_readsParts_113 (lv_at hl 5 rfl) ?_
      refine lv_iload_n hx hb dX10_readsParts_115 rfl (lv_at hl 2 rfl) ?_
      refine lv_iload hx hb dX10_readsParts_116 (lv_at hl 6 rfl) ?_
      refine lv_ishr hx hb dX10_readsParts_118 ?_
      refine lv_iconst (v := (1 : Int32)) hx hb dX10_readsParts_119 (by decide) ?_
      refine lv_iand hx hb dX10_readsParts_120 ?_
      refine lv_iconst (v := (1 : Int32)) hx hb dX10_readsParts_121 (by decide) ?_
      refine lv_icmp_ne (tgt := 141) hx hb dX10_readsParts_122 (by decide) (fun h_6 => ?_) (fun h_6 => ?_)
      · replace hw := hw.1 h_6
        exact c_X10_readsParts_141 E hret hk_72 hk_92 ih hX hI t_v0 (lv_sub hl [0, 1, 2, 3, 4, 6] rfl) hw
      · replace hw := hw.2 h_6
        refine lv_aload_n hx hb dX10_readsParts_125 rfl (lv_at hl 0 rfl) ?_
        obtain ⟨q_7, e_q_7, hw⟩ := hw
        refine gf_X10_57 E hI t_v0 dX10_readsParts_126 e_q_7 (fun t_q_7 => ?_)
        refine lv_iload hx hb dX10_readsParts_129 (lv_at hl 6 rfl) ?_
        obtain ⟨h_8, hw⟩ := hw
        refine pm_iald E hI t_q_7 h_8 dX10_readsParts_131 ?_
        refine lv_iload hx hb dX10_readsParts_132 (lv_at hl 4 rfl) ?_
        refine lv_icmp_ne (tgt := 141) hx hb dX10_readsParts_134 (by decide) (fun h_9 => ?_) (fun h_9 => ?_)
        · replace hw := hw.1 h_9
          exact c_X10_readsParts_141 E hret hk_72 hk_92 ih hX hI t_v0 (lv_sub hl [0, 1, 2, 3, 4, 6] rfl) hw
        · replace hw := hw.2 h_9
          refine lv_iconst (v := (1 : Int32)) hx hb dX10_readsParts_137 (by decide) ?_
          refine lv_goto (tgt := 142) hx hb dX10_readsParts_138 (by decide) ?_
          exact c_X10_readsParts_142 E hret hk_72 hk_92 ih hX hI t_v0 (lv_sub hl [0, 1, 2, 3, 4, 6] rfl) hw
set_option maxHeartbeats 4000000 in
set_option maxRecDepth 100000 in
theorem c_X10_readsParts_92 {p : Program} {l : Launch} {e : Env} {s : State} {m : MethodId} {args : Array Value} {below : List Frame} {meth : Method} {c : Code} {G : pm_G} {H0 : Heap} {M0 : pm_M} {Post : pm_M → Prop} {v0 : Nat} {v1 : Int32} {v2 : Int32} {M : pm_M} {k_72 : Int32 → pm_M → Prop} (E : pm_E G p s m args meth c cX10_readsParts 7 RX10) (hret : meth.sig.returnType = none) (hk_72 : ∀ (v2 : Int32) (M : pm_M) (H : Heap) (locs : List Loc) (ls : Array Slot), pm_X M0 M → pm_I G H0 M H locs → (pm_is M v0 9) → lv_has ls 7 [(0, .ref (H0.size + v0)), (1, .int v1), (2, .int v2)] → k_72 v2 M → W p l e rm_X10_readsParts s m args below meth c H locs 0 0 (pm_Z G H0 M0 (pm_Pv Post) below args s rm_X10_readsParts.cells rm_X10_readsParts.slots) (F0 m 72 ls [])) : ∀ (n : Nat) (v3 : Int32) (v4 : Int32) (H : Heap) (locs : List Loc) (ls : Array Slot), pm_X M0 M → pm_I G H0 M H locs → (pm_is M v0 9) → lv_has ls 7 [(0, .ref (H0.size + v0)), (1, .int v1), (2, .int v2), (3, .int v3), (4, .int v4)] → w_X10_readsParts_92 Post k_72 v0 v1 v2 M n v3 v4 → W p l e rm_X10_readsParts s m args below meth c H locs 0 0 (pm_Z G H0 M0 (pm_Pv Post) below args s rm_X10_readsParts.cells rm_X10_readsParts.slots) (F0 m 92 ls []) := by
  have hx := E.1
  have hb := E.2.1
  have hown := E.2.2.2.1
  have hts := E.2.2.2.2.1
  intro n
  induction n with
  | zero =>
    intro v3 v4 H locs ls hX hI t_v0 hl hw
    unfold w_X10_readsParts_92 at hw
    exact hw.elim
  | succ n ih =>
    intro v3 v4 H locs ls hX hI t_v0 hl hw
    unfold w_X10_readsParts_92 at hw
    refine lv_iload hx hb dX10_readsParts_92 (lv_at hl 4 rfl) ?_
    refine lv_iload_n hx hb dX10_readsParts_94 rfl (lv_at hl 1 rfl) ?_
    refine lv_icmp_gt (tgt := 179) hx hb dX10_readsParts_95 (by decide) (fun h_1 => ?_) (fun h_1 => ?_)
    · replace hw := hw.1 h_1
      refine lv_iload_n hx hb dX10_readsParts_179 rfl (lv_at hl 3 rfl) ?_
      refine lv_if_eq (tgt := 188) hx hb dX10_readsParts_180 (by decide) (fun h_2 => ?_) (fun h_2 => ?_)
      · replace hw := hw.1 h_2
        exact c_X10_readsParts_188 E hret hk_72 hX hI t_v0 (lv_sub hl [0, 1, 2] rfl) hw
      · replace hw := hw.2 h_2
        refine lv_aload_n hx hb dX10_readsParts_183 rfl (lv_at hl 0 rfl) ?_
        refine lv_iload_n hx hb dX10_readsParts_184 rfl (lv_at hl 2 rfl) ?_
        refine pm_callV (As := [.int v2]) (rest := []) 1 E hI (k_X10_allow t_v0 hw) t_v0 (by decide) rfl kc_X10_allow kl_X10_156 km_X10_allow ks_X10_allow ki_X10 (by decide +kernel) ⟨by decide, by decide⟩ rfl hl.1 rfl (by first | exact Nat.le_of_ble_eq_true rfl | (simp only [List.map, pm_rf_cat]; exact Nat.le_of_ble_eq_true rfl)) dX10_readsParts_185 ⟨by decide, by decide⟩ (fun r9 M_3 H locs hp hX1 hI => ?_)
        clear hw
        obtain ⟨rfl, hw⟩ := hp
        replace t_v0 := t_v0.x hX1
        replace hX := hX.tr hX1
        refine pm_nrm (cells' := 0) (slots' := 0) (g2 := F0 m 188 ls []) rfl rfl rfl ?_
        exact c_X10_readsParts_188 E hret hk_72 hX hI t_v0 (lv_sub hl [0, 1, 2] rfl) hw
    · replace hw := hw.2 h_1
      refine lv_iconst (v := (0 : Int32)) hx hb dX10_readsParts_98 (by decide) ?_
      refine lv_istore (lv' := [(5, .int (0 : Int32)), (0, .ref (H0.size + v0)), (1, .int v1), (2, .int v2), (3, .int v3), (4, .int v4)]) hx hb dX10_readsParts_99 hl (by decide) rfl (fun ls hl_4 => ?_)
      refine lv_iconst (v := (0 : Int32)) hx hb dX10_readsParts_101 (by decide) ?_
      refine lv_istore (lv' := [(6, .int (0 : Int32)), (5, .int (0 : Int32)), (0, .ref (H0.size + v0)), (1, .int v1), (2, .int v2), (3, .int v3), (4, .int v4)]) hx hb dX10_readsParts_102 hl_4 (by decide) rfl (fun ls hl_5 => ?_)
      obtain ⟨n_6, hw⟩ := hw
      exact c_X10_readsParts_104 E hret hk_72 ih n_6 _ _ _ _ _ hX hI t_v0 (lv_sub hl_5 [2, 3, 4, 5, 6, 1, 0] rfl) hw
set_option maxHeartbeats 4000000 in
set_option maxRecDepth 100000 in
theorem c_X10_readsParts_72 {p : Program} {l : Launch} {e : Env} {s : State} {m : MethodId} {args : Array Value} {below : List Frame} {meth : Method} {c : Code} {G : pm_G} {H0 : Heap} {M0 : pm_M} {Post : pm_M → Prop} {v0 : Nat} {v1 : Int32} (E : pm_E G p s m args meth c cX10_readsParts 7 RX10) (hret : meth.sig.returnType = none) : ∀ (n : Nat) (v2 : Int32) (M : pm_M) (H : Heap) (locs : List Loc) (ls : Array Slot), pm_X M0 M → pm_I G H0 M H locs → (pm_is M v0 9) → lv_has ls 7 [(0, .ref (H0.size + v0)), (1, .int v1), (2, .int v2)] → w_X10_readsParts_72 Post v0 v1 n v2 M → W p l e rm_X10_readsParts s m args below meth c H locs 0 0 (pm_Z G H0 M0 (pm_Pv Post) below args s rm_X10_readsParts.cells rm_X10_readsParts.slots) (F0 m 72 ls []) := by
  have hx := E.1
  have hb := E.2.1
  have hown := E.2.2.2.1
  have hts := E.2.2.2.2.1
  intro n
  induction n with
  | zero =>
    intro v2 M H locs ls hX hI t_v0 hl hw
    unfold w_X10_readsParts_72 at hw
    exact hw.elim
  | succ n ih =>
    intro v2 M H locs ls hX hI t_v0 hl hw
    unfold w_X10_readsParts_72 at hw
    refine lv_iload_n hx hb dX10_readsParts_72 rfl (lv_at hl 2 rfl) ?_
    refine lv_aload_n hx hb dX10_readsParts_73 rfl (lv_at hl 0 rfl) ?_
    refine gf_X10_13 E hI t_v0 dX10_readsParts_74 ?_
    refine lv_icmp_gt (tgt := 194) hx hb dX10_readsParts_77 (by decide) (fun h_1 => ?_) (fun h_1 => ?_)
    · replace hw := hw.1 h_1
      exact c_X10_readsParts_194 E hret hX hI (lv_sub hl [] rfl) hw
    · replace hw := hw.2 h_1
      refine lv_aload_n hx hb dX10_readsParts_80 rfl (lv_at hl 0 rfl) ?_
      refine gf_X10_116 E hI t_v0 dX10_readsParts_81 ?_
      refine lv_if_ne (tgt := 194) hx hb dX10_readsParts_84 (by decide) (fun h_2 => ?_) (fun h_2 => ?_)
      · replace hw := hw.1 h_2
        exact c_X10_readsParts_194 E hret hX hI (lv_sub hl [] rfl) hw
      · replace hw := hw.2 h_2
        refine lv_iconst (v := (1 : Int32)) hx hb dX10_readsParts_87 (by decide) ?_
        refine lv_istore_n (lv' := [(3, .int (1 : Int32)), (0, .ref (H0.size + v0)), (1, .int v1), (2, .int v2)]) hx hb dX10_readsParts_88 rfl hl (by decide) rfl (fun ls hl_3 => ?_)
        refine lv_iconst (v := (0 : Int32)) hx hb dX10_readsParts_89 (by decide) ?_
        refine lv_istore (lv' := [(4, .int (0 : Int32)), (3, .int (1 : Int32)), (0, .ref (H0.size + v0)), (1, .int v1), (2, .int v2)]) hx hb dX10_readsParts_90 hl_3 (by decide) rfl (fun ls hl_4 => ?_)
        obtain ⟨n_5, hw⟩ := hw
        exact c_X10_readsParts_92 E hret ih n_5 _ _ _ _ _ hX hI t_v0 (lv_sub hl_4 [2, 3, 4, 1, 0] rfl) hw
set_option maxHeartbeats 4000000 in
set_option maxRecDepth 100000 in
theorem c_X10_readsParts_45 {p : Program} {l : Launch} {e : Env} {s : State} {m : MethodId} {args : Array Value} {below : List Frame} {meth : Method} {c : Code} {G : pm_G} {H0 : Heap} {M0 : pm_M} {Post : pm_M → Prop} {v0 : Nat} {v1 : Int32} (E : pm_E G p s m args meth c cX10_readsParts 7 RX10) (hret : meth.sig.returnType = none) : ∀ (n : Nat) (v2 : Int32) (M : pm_M) (H : Heap) (locs : List Loc) (ls : Array Slot), pm_X M0 M → pm_I G H0 M H locs → (pm_is M v0 9) → lv_has ls 7 [(0, .ref (H0.size + v0)), (1, .int v1), (2, .int v2)] → w_X10_readsParts_45 Post v0 v1 n v2 M → W p l e rm_X10_readsParts s m args below meth c H locs 0 0 (pm_Z G H0 M0 (pm_Pv Post) below args s rm_X10_readsParts.cells rm_X10_readsParts.slots) (F0 m 45 ls []) := by
  have hx := E.1
  have hb := E.2.1
  have hown := E.2.2.2.1
  have hts := E.2.2.2.2.1
  intro n
  induction n with
  | zero =>
    intro v2 M H locs ls hX hI t_v0 hl hw
    unfold w_X10_readsParts_45 at hw
    exact hw.elim
  | succ n ih =>
    intro v2 M H locs ls hX hI t_v0 hl hw
    unfold w_X10_readsParts_45 at hw
    refine lv_iload_n hx hb dX10_readsParts_45 rfl (lv_at hl 2 rfl) ?_
    refine lv_iload_n hx hb dX10_readsParts_46 rfl (lv_at hl 1 rfl) ?_
    refine lv_icmp_gt (tgt := 70) hx hb dX10_readsParts_47 (by decide) (fun h_1 => ?_) (fun h_1 => ?_)
    · replace hw := hw.1 h_1
      refine lv_iconst (v := (0 : Int32)) hx hb dX10_readsParts_70 (by decide) ?_
      refine lv_istore_n (lv' := [(2, .int (0 : Int32)), (0, .ref (H0.size + v0)), (1, .int v1)]) hx hb dX10_readsParts_71 rfl hl (by decide) rfl (fun ls hl_2 => ?_)
      obtain ⟨n_3, hw⟩ := hw
      exact c_X10_readsParts_72 E hret n_3 _ _ _ _ _ hX hI t_v0 (lv_sub hl_2 [1, 2, 0] rfl) hw
    · replace hw := hw.2 h_1
      refine lv_aload_n hx hb dX10_readsParts_50 rfl (lv_at hl 0 rfl) ?_
      obtain ⟨q_4, e_q_4, hw⟩ := hw
      refine gf_X10_60 E hI t_v0 dX10_readsParts_51 e_q_4 (fun t_q_4 => ?_)
      refine lv_iload_n hx hb dX10_readsParts_54 rfl (lv_at hl 2 rfl) ?_
      refine lv_aload_n hx hb dX10_readsParts_55 rfl (lv_at hl 0 rfl) ?_
      refine lv_lconst (v := (0 : Int64)) hx hb dX10_readsParts_56 (by decide) ?_
      refine lv_ldc2 (v := (12 : Int64)) hx hb hown (hts _ kl_X10_166) dX10_readsParts_57 ?_
      refine pm_callV (As := [.long (0 : Int64), .long (12 : Int64)]) (rest := [.int v2, .ref (H0.size + q_4)]) 2 E hI (k_X10_next t_v0 hw) t_v0 (by decide) rfl kc_X10_next kl_X10_152 km_X10_next ks_X10_next ki_X10 (by decide +kernel) ⟨by decide, by decide⟩ rfl hl.1 rfl (by first | exact Nat.le_of_ble_eq_true rfl | (simp only [List.map, pm_rf_cat]; exact Nat.le_of_ble_eq_true rfl)) dX10_readsParts_60 ⟨by decide, by decide⟩ (fun r9 M_5 H locs hp hX1 hI => ?_)
      clear hw
      obtain ⟨r_6, rfl, hw⟩ := hp
      replace t_v0 := t_v0.x hX1
      replace t_q_4 := t_q_4.x hX1
      replace hX := hX.tr hX1
      refine pm_nrm (cells' := 0) (slots' := 0) (g2 := F0 m 63 ls [.int r_6, .int v2, .ref (H0.size + q_4)]) rfl rfl rfl ?_
      obtain ⟨h_7, hw⟩ := hw
      refine ps_iast E hI t_q_4 h_7 dX10_readsParts_63 (fun H locs M_8 e_M_8 hX1 hI => ?_)
      replace hw := hw M_8 e_M_8
      replace t_v0 := t_v0.x hX1
      replace hX := hX.tr hX1
      obtain ⟨x_9, e_x_9⟩ : ∃ z : Int32, z = v2 + (1 : Int32) := ⟨_, rfl⟩
      refine lv_iinc (v := x_9) (lv' := [(2, .int x_9), (0, .ref (H0.size + v0)), (1, .int v1)]) hx hb dX10_readsParts_64 hl (k := 2) rfl (by rw [e_x_9]; rfl) (by decide) rfl (fun ls hl_10 => ?_)
      replace hw := hw x_9 e_x_9
      refine lv_goto (tgt := 45) hx hb dX10_readsParts_67 (by decide) ?_
      exact ih _ _ _ _ _ hX hI t_v0 (lv_sub hl_10 [1, 2, 0] rfl) hw
set_option maxHeartbeats 4000000 in
set_option maxRecDepth 100000 in
theorem c_X10_readsParts_4 {p : Program} {l : Launch} {e : Env} {s : State} {m : MethodId} {args : Array Value} {below : List Frame} {meth : Method} {c : Code} {G : pm_G} {H0 : Heap} {M0 : pm_M} {Post : pm_M → Prop} {v0 : Nat} (E : pm_E G p s m args meth c cX10_readsParts 7 RX10) (hret : meth.sig.returnType = none) : ∀ (n : Nat) (v1 : Int32) (v2 : Int32) (M : pm_M) (H : Heap) (locs : List Loc) (ls : Array Slot), pm_X M0 M → pm_I G H0 M H locs → (pm_is M v0 9) → lv_has ls 7 [(0, .ref (H0.size + v0)), (1, .int v1), (2, .int v2)] → w_X10_readsParts_4 Post v0 n v1 v2 M → W p l e rm_X10_readsParts s m args below meth c H locs 0 0 (pm_Z G H0 M0 (pm_Pv Post) below args s rm_X10_readsParts.cells rm_X10_readsParts.slots) (F0 m 4 ls []) := by
  have hx := E.1
  have hb := E.2.1
  have hown := E.2.2.2.1
  have hts := E.2.2.2.2.1
  intro n
  induction n with
  | zero =>
    intro v1 v2 M H locs ls hX hI t_v0 hl hw
    unfold w_X10_readsParts_4 at hw
    exact hw.elim
  | succ n ih =>
    intro v1 v2 M H locs ls hX hI t_v0 hl hw
    unfold w_X10_readsParts_4 at hw
    refine lv_iload_n hx hb dX10_readsParts_4 rfl (lv_at hl 2 rfl) ?_
    refine lv_aload_n hx hb dX10_readsParts_5 rfl (lv_at hl 0 rfl) ?_
    refine gf_X10_7 E hI t_v0 dX10_readsParts_6 ?_
    refine lv_icmp_ge (tgt := 43) hx hb dX10_readsParts_9 (by decide) (fun h_1 => ?_) (fun h_1 => ?_)
    · replace hw := hw.1 h_1
      refine lv_iconst (v := (0 : Int32)) hx hb dX10_readsParts_43 (by decide) ?_
      refine lv_istore_n (lv' := [(2, .int (0 : Int32)), (0, .ref (H0.size + v0)), (1, .int v1)]) hx hb dX10_readsParts_44 rfl hl (by decide) rfl (fun ls hl_2 => ?_)
      obtain ⟨n_3, hw⟩ := hw
      exact c_X10_readsParts_45 E hret n_3 _ _ _ _ _ hX hI t_v0 (lv_sub hl_2 [1, 2, 0] rfl) hw
    · replace hw := hw.2 h_1
      refine lv_aload_n hx hb dX10_readsParts_12 rfl (lv_at hl 0 rfl) ?_
      obtain ⟨q_4, e_q_4, hw⟩ := hw
      refine gf_X10_57 E hI t_v0 dX10_readsParts_13 e_q_4 (fun t_q_4 => ?_)
      refine lv_iload_n hx hb dX10_readsParts_16 rfl (lv_at hl 2 rfl) ?_
      refine lv_aload_n hx hb dX10_readsParts_17 rfl (lv_at hl 0 rfl) ?_
      refine lv_lconst (v := (0 : Int64)) hx hb dX10_readsParts_18 (by decide) ?_
      refine lv_ldc2 (v := (11 : Int64)) hx hb hown (hts _ kl_X10_168) dX10_readsParts_19 ?_
      refine pm_callV (As := [.long (0 : Int64), .long (11 : Int64)]) (rest := [.int v2, .ref (H0.size + q_4)]) 2 E hI (k_X10_next t_v0 hw) t_v0 (by decide) rfl kc_X10_next kl_X10_152 km_X10_next ks_X10_next ki_X10 (by decide +kernel) ⟨by decide, by decide⟩ rfl hl.1 rfl (by first | exact Nat.le_of_ble_eq_true rfl | (simp only [List.map, pm_rf_cat]; exact Nat.le_of_ble_eq_true rfl)) dX10_readsParts_22 ⟨by decide, by decide⟩ (fun r9 M_5 H locs hp hX1 hI => ?_)
      clear hw
      obtain ⟨r_6, rfl, hw⟩ := hp
      replace t_v0 := t_v0.x hX1
      replace t_q_4 := t_q_4.x hX1
      replace hX := hX.tr hX1
      refine pm_nrm (cells' := 0) (slots' := 0) (g2 := F0 m 25 ls [.int r_6, .int v2, .ref (H0.size + q_4)]) rfl rfl rfl ?_
      obtain ⟨h_7, hw⟩ := hw
      refine ps_iast E hI t_q_4 h_7 dX10_readsParts_25 (fun H locs M_8 e_M_8 hX1 hI => ?_)
      replace hw := hw M_8 e_M_8
      replace t_v0 := t_v0.x hX1
      replace hX := hX.tr hX1
      refine lv_iload_n hx hb dX10_readsParts_26 rfl (lv_at hl 1 rfl) ?_
      refine lv_aload_n hx hb dX10_readsParts_27 rfl (lv_at hl 0 rfl) ?_
      obtain ⟨q_9, e_q_9, hw⟩ := hw
      refine gf_X10_57 E hI t_v0 dX10_readsParts_28 e_q_9 (fun t_q_9 => ?_)
      refine lv_iload_n hx hb dX10_readsParts_31 rfl (lv_at hl 2 rfl) ?_
      obtain ⟨h_10, hw⟩ := hw
      refine pm_iald E hI t_q_9 h_10 dX10_readsParts_32 ?_
      refine pm_callS (As := [.int v1, .int (mI M_8 q_9 v2.toNatClampNeg)]) (rest := []) 2 E hI (k_J9_max_7cf53 hw) kc_J9_max_7cf53 kl_X10_111 kt_J9_max_7cf53 ki_J9 (by decide +kernel) ⟨by decide, by decide⟩ rfl hl.1 rfl (by first | exact Nat.le_of_ble_eq_true rfl | (simp only [List.map, pm_rf_cat]; exact Nat.le_of_ble_eq_true rfl)) dX10_readsParts_33 ⟨by decide, by decide⟩ (fun r9 M9 H locs hp hX1 hI => ?_)
      clear hw
      obtain ⟨r_11, rfl, rfl, hw⟩ := hp
      refine pm_nrm (cells' := 0) (slots' := 0) (g2 := F0 m 36 ls [.int r_11]) rfl rfl rfl ?_
      refine lv_istore_n (lv' := [(1, .int r_11), (0, .ref (H0.size + v0)), (2, .int v2)]) hx hb dX10_readsParts_36 rfl hl (by decide) rfl (fun ls hl_12 => ?_)
      obtain ⟨x_13, e_x_13⟩ : ∃ z : Int32, z = v2 + (1 : Int32) := ⟨_, rfl⟩
      refine lv_iinc (v := x_13) (lv' := [(2, .int x_13), (1, .int r_11), (0, .ref (H0.size + v0))]) hx hb dX10_readsParts_37 hl_12 (k := 2) rfl (by rw [e_x_13]; rfl) (by decide) rfl (fun ls hl_14 => ?_)
      replace hw := hw x_13 e_x_13
      refine lv_goto (tgt := 4) hx hb dX10_readsParts_40 (by decide) ?_
      exact ih _ _ _ _ _ _ hX hI t_v0 (lv_sub hl_14 [2, 1, 0] rfl) hw
set_option maxHeartbeats 4000000 in
set_option maxRecDepth 100000 in
theorem k_X10_readsParts {l : Launch} {G : pm_G} {H0 : Heap} {th : Nat} {M : pm_M} {Post : pm_M → Prop} (t_th : pm_is M th 9) (hw : w_X10_readsParts th M Post) : pm_C l G H0 yX10_readsParts cX10_readsParts 7 none rm_X10_readsParts [.ref (H0.size + th)] M (pm_Pv Post) := by
  refine pm_start (by decide +kernel) (Nat.le_of_ble_eq_true rfl) ?_
  intro p e s m args below meth c H ls E hret hnm hI hl
  have hX : pm_X M M := pm_X.rf
  have hl : lv_has ls 7 [(0, .ref (H0.size + th))] := hl
  have hx := E.1
  have hb := E.2.1
  have hown := E.2.2.2.1
  have hts := E.2.2.2.2.1
  unfold w_X10_readsParts at hw
  refine lv_iconst (v := (0 : Int32)) hx hb dX10_readsParts_0 (by decide) ?_
  refine lv_istore_n (lv' := [(1, .int (0 : Int32)), (0, .ref (H0.size + th))]) hx hb dX10_readsParts_1 rfl hl (by decide) rfl (fun ls hl_1 => ?_)
  refine lv_iconst (v := (0 : Int32)) hx hb dX10_readsParts_2 (by decide) ?_
  refine lv_istore_n (lv' := [(2, .int (0 : Int32)), (1, .int (0 : Int32)), (0, .ref (H0.size + th))]) hx hb dX10_readsParts_3 rfl hl_1 (by decide) rfl (fun ls hl_2 => ?_)
  obtain ⟨n_3, hw⟩ := hw
  exact c_X10_readsParts_4 E hret n_3 _ _ _ _ _ _ hX hI t_th (lv_sub hl_2 [2, 1, 0] rfl) hw
set_option maxHeartbeats 4000000 in
set_option maxRecDepth 100000 in
theorem c_X10_readsNested_214 {p : Program} {l : Launch} {e : Env} {s : State} {m : MethodId} {args : Array Value} {below : List Frame} {meth : Method} {c : Code} {G : pm_G} {H0 : Heap} {M0 : pm_M} {Post : pm_M → Prop} {M : pm_M} (E : pm_E G p s m args meth c cX10_readsNested 5 RX10) (hret : meth.sig.returnType = none) {H : Heap} {locs : List Loc} {ls : Array Slot} (hX : pm_X M0 M) (hI : pm_I G H0 M H locs) (hl : lv_has ls 5 []) (hw : w_X10_readsNested_214 Post M) : W p l e rm_X10_readsNested s m args below meth c H locs 0 0 (pm_Z G H0 M0 (pm_Pv Post) below args s rm_X10_readsNested.cells rm_X10_readsNested.slots) (F0 m 214 ls []) := by
  have hx := E.1
  have hb := E.2.1
  have hown := E.2.2.2.1
  have hts := E.2.2.2.2.1
  unfold w_X10_readsNested_214 at hw
  exact pm_vret E hret hI hX ⟨rfl, hw⟩ (by decide) (by decide) dX10_readsNested_214
set_option maxHeartbeats 4000000 in
set_option maxRecDepth 100000 in
theorem c_X10_readsNested_208 {p : Program} {l : Launch} {e : Env} {s : State} {m : MethodId} {args : Array Value} {below : List Frame} {meth : Method} {c : Code} {G : pm_G} {H0 : Heap} {M0 : pm_M} {Post : pm_M → Prop} {v0 : Nat} {v1 : Int32} {v2 : Int32} {M : pm_M} {k_135 : Int32 → pm_M → Prop} (E : pm_E G p s m args meth c cX10_readsNested 5 RX10) (hret : meth.sig.returnType = none) (hk_135 : ∀ (v2 : Int32) (M : pm_M) (H : Heap) (locs : List Loc) (ls : Array Slot), pm_X M0 M → pm_I G H0 M H locs → (pm_is M v0 9) → lv_has ls 5 [(0, .ref (H0.size + v0)), (1, .int v1), (2, .int v2)] → k_135 v2 M → W p l e rm_X10_readsNested s m args below meth c H locs 0 0 (pm_Z G H0 M0 (pm_Pv Post) below args s rm_X10_readsNested.cells rm_X10_readsNested.slots) (F0 m 135 ls [])) {H : Heap} {locs : List Loc} {ls : Array Slot} (hX : pm_X M0 M) (hI : pm_I G H0 M H locs) (t_v0 : pm_is M v0 9) (hl : lv_has ls 5 [(0, .ref (H0.size + v0)), (1, .int v1), (2, .int v2)]) (hw : w_X10_readsNested_208 Post k_135 v0 v1 v2 M) : W p l e rm_X10_readsNested s m args below meth c H locs 0 0 (pm_Z G H0 M0 (pm_Pv Post) below args s rm_X10_readsNested.cells rm_X10_readsNested.slots) (F0 m 208 ls []) := by
  have hx := E.1
  have hb := E.2.1
  have hown := E.2.2.2.1
  have hts := E.2.2.2.2.1
  unfold w_X10_readsNested_208 at hw
  obtain ⟨x_1, e_x_1⟩ : ∃ z : Int32, z = v2 + (1 : Int32) := ⟨_, rfl⟩
  refine lv_iinc (v := x_1) (lv' := [(2, .int x_1), (0, .ref (H0.size + v0)), (1, .int v1)]) hx hb dX10_readsNested_208 hl (k := 2) rfl (by rw [e_x_1]; rfl) (by decide) rfl (fun ls hl_2 => ?_)
  replace hw := hw x_1 e_x_1
  refine lv_goto (tgt := 135) hx hb dX10_readsNested_211 (by decide) ?_
  exact hk_135 _ _ _ _ _ hX hI t_v0 (lv_sub hl_2 [1, 2, 0] rfl) hw
set_option maxHeartbeats 4000000 in
set_option maxRecDepth 100000 in
theorem c_X10_readsNested_192 {p : Program} {l : Launch} {e : Env} {s : State} {m : MethodId} {args : Array Value} {below : List Frame} {meth : Method} {c : Code} {G : pm_G} {H0 : Heap} {M0 : pm_M} {Post : pm_M → Prop} {v0 : Nat} {v1 : Int32} {v2 : Int32} {v4 : Int32} {s0 : Int32} {M : pm_M} {k_135 : Int32 → pm_M → Prop} {k_155 : Int32 → Int32 → Prop} (E : pm_E G p s m args meth c cX10_readsNested 5 RX10) (hret : meth.sig.returnType = none) (hk_135 : ∀ (v2 : Int32) (M : pm_M) (H : Heap) (locs : List Loc) (ls : Array Slot), pm_X M0 M → pm_I G H0 M H locs → (pm_is M v0 9) → lv_has ls 5 [(0, .ref (H0.size + v0)), (1, .int v1), (2, .int v2)] → k_135 v2 M → W p l e rm_X10_readsNested s m args below meth c H locs 0 0 (pm_Z G H0 M0 (pm_Pv Post) below args s rm_X10_readsNested.cells rm_X10_readsNested.slots) (F0 m 135 ls [])) (hk_155 : ∀ (v3 : Int32) (v4 : Int32) (H : Heap) (locs : List Loc) (ls : Array Slot), pm_X M0 M → pm_I G H0 M H locs → (pm_is M v0 9) → lv_has ls 5 [(0, .ref (H0.size + v0)), (1, .int v1), (2, .int v2), (3, .int v3), (4, .int v4)] → k_155 v3 v4 → W p l e rm_X10_readsNested s m args below meth c H locs 0 0 (pm_Z G H0 M0 (pm_Pv Post) below args s rm_X10_readsNested.cells rm_X10_readsNested.slots) (F0 m 155 ls [])) {H : Heap} {locs : List Loc} {ls : Array Slot} (hX : pm_X M0 M) (hI : pm_I G H0 M H locs) (t_v0 : pm_is M v0 9) (hl : lv_has ls 5 [(0, .ref (H0.size + v0)), (1, .int v1), (2, .int v2), (4, .int v4)]) (hw : w_X10_readsNested_192 Post k_135 k_155 v0 v1 v2 v4 s0 M) : W p l e rm_X10_readsNested s m args below meth c H locs 0 0 (pm_Z G H0 M0 (pm_Pv Post) below args s rm_X10_readsNested.cells rm_X10_readsNested.slots) (F0 m 192 ls [.int s0]) := by
  have hx := E.1
  have hb := E.2.1
  have hown := E.2.2.2.1
  have hts := E.2.2.2.2.1
  unfold w_X10_readsNested_192 at hw
  refine lv_istore_n (lv' := [(3, .int s0), (0, .ref (H0.size + v0)), (1, .int v1), (2, .int v2), (4, .int v4)]) hx hb dX10_readsNested_192 rfl hl (by decide) rfl (fun ls hl_1 => ?_)
  obtain ⟨x_2, e_x_2⟩ : ∃ z : Int32, z = v4 + (1 : Int32) := ⟨_, rfl⟩
  refine lv_iinc (v := x_2) (lv' := [(4, .int x_2), (3, .int s0), (0, .ref (H0.size + v0)), (1, .int v1), (2, .int v2)]) hx hb dX10_readsNested_193 hl_1 (k := 4) rfl (by rw [e_x_2]; rfl) (by decide) rfl (fun ls hl_3 => ?_)
  replace hw := hw x_2 e_x_2
  refine lv_goto (tgt := 155) hx hb dX10_readsNested_196 (by decide) ?_
  exact hk_155 _ _ _ _ _ hX hI t_v0 (lv_sub hl_3 [2, 3, 4, 1, 0] rfl) hw
set_option maxHeartbeats 4000000 in
set_option maxRecDepth 100000 in
theorem c_X10_readsNested_191 {p : Program} {l : Launch} {e : Env} {s : State} {m : MethodId} {args : Array Value} {below : List Frame} {meth : Method} {c : Code} {G : pm_G} {H0 : Heap} {M0 : pm_M} {Post : pm_M → Prop} {v0 : Nat} {v1 : Int32} {v2 : Int32} {v4 : Int32} {M : pm_M} {k_135 : Int32 → pm_M → Prop} {k_155 : Int32 → Int32 → Prop} (E : pm_E G p s m args meth c cX10_readsNested 5 RX10) (hret : meth.sig.returnType = none) (hk_135 : ∀ (v2 : Int32) (M : pm_M) (H : Heap) (locs : List Loc) (ls : Array Slot), pm_X M0 M → pm_I G H0 M H locs → (pm_is M v0 9) → lv_has ls 5 [(0, .ref (H0.size + v0)), (1, .int v1), (2, .int v2)] → k_135 v2 M → W p l e rm_X10_readsNested s m args below meth c H locs 0 0 (pm_Z G H0 M0 (pm_Pv Post) below args s rm_X10_readsNested.cells rm_X10_readsNested.slots) (F0 m 135 ls [])) (hk_155 : ∀ (v3 : Int32) (v4 : Int32) (H : Heap) (locs : List Loc) (ls : Array Slot), pm_X M0 M → pm_I G H0 M H locs → (pm_is M v0 9) → lv_has ls 5 [(0, .ref (H0.size + v0)), (1, .int v1), (2, .int v2), (3, .int v3), (4, .int v4)] → k_155 v3 v4 → W p l e rm_X10_readsNested s m args below meth c H locs 0 0 (pm_Z G H0 M0 (pm_Pv Post) below args s rm_X10_readsNested.cells rm_X10_readsNested.slots) (F0 m 155 ls [])) {H : Heap} {locs : List Loc} {ls : Array Slot} (hX : pm_X M0 M) (hI : pm_I G H0 M H locs) (t_v0 : pm_is M v0 9) (hl : lv_has ls 5 [(0, .ref (H0.size + v0)), (1, .int v1), (2, .int v2), (4, .int v4)]) (hw : w_X10_readsNested_191 Post k_135 k_155 v0 v1 v2 v4 M) : W p l e rm_X10_readsNested s m args below meth c H locs 0 0 (pm_Z G H0 M0 (pm_Pv Post) below args s rm_X10_readsNested.cells rm_X10_readsNested.slots) (F0 m 191 ls []) := by
  have hx := E.1
  have hb := E.2.1
  have hown := E.2.2.2.1
  have hts := E.2.2.2.2.1
  unfold w_X10_readsNested_191 at hw
  refine lv_iconst (v := (0 : Int32)) hx hb dX10_readsNested_191 (by decide) ?_
  exact c_X10_readsNested_192 E hret hk_135 hk_155 hX hI t_v0 (lv_sub hl [0, 1, 2, 3] rfl) hw
set_option maxHeartbeats 4000000 in
set_option maxRecDepth 100000 in
theorem c_X10_readsNested_155 {p : Program} {l : Launch} {e : Env} {s : State} {m : MethodId} {args : Array Value} {below : List Frame} {meth : Method} {c : Code} {G : pm_G} {H0 : Heap} {M0 : pm_M} {Post : pm_M → Prop} {v0 : Nat} {v1 : Int32} {v2 : Int32} {M : pm_M} {k_135 : Int32 → pm_M → Prop} (E : pm_E G p s m args meth c cX10_readsNested 5 RX10) (hret : meth.sig.returnType = none) (hk_135 : ∀ (v2 : Int32) (M : pm_M) (H : Heap) (locs : List Loc) (ls : Array Slot), pm_X M0 M → pm_I G H0 M H locs → (pm_is M v0 9) → lv_has ls 5 [(0, .ref (H0.size + v0)), (1, .int v1), (2, .int v2)] → k_135 v2 M → W p l e rm_X10_readsNested s m args below meth c H locs 0 0 (pm_Z G H0 M0 (pm_Pv Post) below args s rm_X10_readsNested.cells rm_X10_readsNested.slots) (F0 m 135 ls [])) : ∀ (n : Nat) (v3 : Int32) (v4 : Int32) (H : Heap) (locs : List Loc) (ls : Array Slot), pm_X M0 M → pm_I G H0 M H locs → (pm_is M v0 9) → lv_has ls 5 [(0, .ref (H0.size + v0)), (1, .int v1), (2, .int v2), (3, .int v3), (4, .int v4)] → w_X10_readsNested_155 Post k_135 v0 v1 v2 M n v3 v4 → W p l e rm_X10_readsNested s m args below meth c H locs 0 0 (pm_Z G H0 M0 (pm_Pv Post) below args s rm_X10_readsNested.cells rm_X10_readsNested.slots) (F0 m 155 ls []) := by
  have hx := E.1
  have hb := E.2.1
  have hown := E.2.2.2.1
  have hts := E.2.2.2.2.1
  intro n
  induction n with
  | zero =>
    intro v3 v4 H locs ls hX hI t_v0 hl hw
    unfold w_X10_readsNested_155 at hw
    exact hw.elim
  | succ n ih =>
    intro v3 v4 H locs ls hX hI t_v0 hl hw
    unfold w_X10_readsNested_155 at hw
    refine lv_iload hx hb dX10_readsNested_155 (lv_at hl 4 rfl) ?_
    refine lv_iload_n hx hb dX10_readsNested_157 rfl (lv_at hl 1 rfl) ?_
    refine lv_icmp_ge (tgt := 199) hx hb dX10_readsNested_158 (by decide) (fun h_1 => ?_) (fun h_1 => ?_)
    · replace hw := hw.1 h_1
      refine lv_iload_n hx hb dX10_readsNested_199 rfl (lv_at hl 3 rfl) ?_
      refine lv_if_eq (tgt := 208) hx hb dX10_readsNested_200 (by decide) (fun h_2 => ?_) (fun h_2 => ?_)
      · replace hw := hw.1 h_2
        exact c_X10_readsNested_208 E hret hk_135 hX hI t_v0 (lv_sub hl [0, 1, 2] rfl) hw
      · replace hw := hw.2 h_2
        refine lv_aload_n hx hb dX10_readsNested_203 rfl (lv_at hl 0 rfl) ?_
        refine lv_iload_n hx hb dX10_readsNested_204 rfl (lv_at hl 2 rfl) ?_
        refine pm_callV (As := [.int v2]) (rest := []) 1 E hI (k_X10_allow t_v0 hw) t_v0 (by decide) rfl kc_X10_allow kl_X10_156 km_X10_allow ks_X10_allow ki_X10 (by decide +kernel) ⟨by decide, by decide⟩ rfl hl.1 rfl (by first | exact Nat.le_of_ble_eq_true rfl | (simp only [List.map, pm_rf_cat]; exact Nat.le_of_ble_eq_true rfl)) dX10_readsNested_205 ⟨by decide, by decide⟩ (fun r9 M_3 H locs hp hX1 hI => ?_)
        clear hw
        obtain ⟨rfl, hw⟩ := hp
        replace t_v0 := t_v0.x hX1
        replace hX := hX.tr hX1
        refine pm_nrm (cells' := 0) (slots' := 0) (g2 := F0 m 208 ls []) rfl rfl rfl ?_
        exact c_X10_readsNested_208 E hret hk_135 hX hI t_v0 (lv_sub hl [0, 1, 2] rfl) hw
    · replace hw := hw.2 h_1
      refine lv_iload_n hx hb dX10_readsNested_161 rfl (lv_at hl 3 rfl) ?_
      refine lv_if_eq (tgt := 191) hx hb dX10_readsNested_162 (by decide) (fun h_4 => ?_) (fun h_4 => ?_)
      · replace hw := hw.1 h_4
        exact c_X10_readsNested_191 E hret hk_135 ih hX hI t_v0 (lv_sub hl [0, 1, 2, 4] rfl) hw
      · replace hw := hw.2 h_4
        refine lv_iload_n hx hb dX10_readsNested_165 rfl (lv_at hl 2 rfl) ?_
        refine lv_aload_n hx hb dX10_readsNested_166 rfl (lv_at hl 0 rfl) ?_
        obtain ⟨q_5, e_q_5, hw⟩ := hw
        refine gf_X10_57 E hI t_v0 dX10_readsNested_167 e_q_5 (fun t_q_5 => ?_)
        refine lv_iload hx hb dX10_readsNested_170 (lv_at hl 4 rfl) ?_
        obtain ⟨h_6, hw⟩ := hw
        refine pm_iald E hI t_q_5 h_6 dX10_readsNested_172 ?_
        refine lv_iand hx hb dX10_readsNested_173 ?_
        refine pm_callS (As := [.int (v2 &&& (mI M q_5 v4.toNatClampNeg))]) (rest := []) 1 E hI (k_X10_bitsOf hw) kc_X10_bitsOf kl_X10_104 kt_X10_bitsOf ki_X10 (by decide +kernel) ⟨by decide, by decide⟩ rfl hl.1 rfl (by first | exact Nat.le_of_ble_eq_true rfl | (simp only [List.map, pm_rf_cat]; exact Nat.le_of_ble_eq_true rfl)) dX10_readsNested_174 ⟨by decide, by decide⟩ (fun r9 M9 H locs hp hX1 hI => ?_)
        clear hw
        obtain ⟨r_7, rfl, rfl, hw⟩ := hp
        refine pm_nrm (cells' := 0) (slots' := 0) (g2 := F0 m 177 ls [.int r_7]) rfl rfl rfl ?_
        refine lv_aload_n hx hb dX10_readsNested_177 rfl (lv_at hl 0 rfl) ?_
        obtain ⟨q_8, e_q_8, hw⟩ := hw
        refine gf_X10_60 E hI t_v0 dX10_readsNested_178 e_q_8 (fun t_q_8 => ?_)
        refine lv_iload hx hb dX10_readsNested_181 (lv_at hl 4 rfl) ?_
        obtain ⟨h_9, hw⟩ := hw
        refine pm_iald E hI t_q_8 h_9 dX10_readsNested_183 ?_
        refine lv_icmp_gt (tgt := 191) hx hb dX10_readsNested_184 (by decide) (fun h_10 => ?_) (fun h_10 => ?_)
        · replace hw := hw.1 h_10
          exact c_X10_readsNested_191 E hret hk_135 ih hX hI t_v0 (lv_sub hl [0, 1, 2, 4] rfl) hw
        · replace hw := hw.2 h_10
          refine lv_iconst (v := (1 : Int32)) hx hb dX10_readsNested_187 (by decide) ?_
          refine lv_goto (tgt := 192) hx hb dX10_readsNested_188 (by decide) ?_
          exact c_X10_readsNested_192 E hret hk_135 ih hX hI t_v0 (lv_sub hl [0, 1, 2, 4] rfl) hw
set_option maxHeartbeats 4000000 in
set_option maxRecDepth 100000 in
theorem c_X10_readsNested_135 {p : Program} {l : Launch} {e : Env} {s : State} {m : MethodId} {args : Array Value} {below : List Frame} {meth : Method} {c : Code} {G : pm_G} {H0 : Heap} {M0 : pm_M} {Post : pm_M → Prop} {v0 : Nat} {v1 : Int32} (E : pm_E G p s m args meth c cX10_readsNested 5 RX10) (hret : meth.sig.returnType = none) : ∀ (n : Nat) (v2 : Int32) (M : pm_M) (H : Heap) (locs : List Loc) (ls : Array Slot), pm_X M0 M → pm_I G H0 M H locs → (pm_is M v0 9) → lv_has ls 5 [(0, .ref (H0.size + v0)), (1, .int v1), (2, .int v2)] → w_X10_readsNested_135 Post v0 v1 n v2 M → W p l e rm_X10_readsNested s m args below meth c H locs 0 0 (pm_Z G H0 M0 (pm_Pv Post) below args s rm_X10_readsNested.cells rm_X10_readsNested.slots) (F0 m 135 ls []) := by
  have hx := E.1
  have hb := E.2.1
  have hown := E.2.2.2.1
  have hts := E.2.2.2.2.1
  intro n
  induction n with
  | zero =>
    intro v2 M H locs ls hX hI t_v0 hl hw
    unfold w_X10_readsNested_135 at hw
    exact hw.elim
  | succ n ih =>
    intro v2 M H locs ls hX hI t_v0 hl hw
    unfold w_X10_readsNested_135 at hw
    refine lv_iload_n hx hb dX10_readsNested_135 rfl (lv_at hl 2 rfl) ?_
    refine lv_aload_n hx hb dX10_readsNested_136 rfl (lv_at hl 0 rfl) ?_
    refine gf_X10_13 E hI t_v0 dX10_readsNested_137 ?_
    refine lv_icmp_gt (tgt := 214) hx hb dX10_readsNested_140 (by decide) (fun h_1 => ?_) (fun h_1 => ?_)
    · replace hw := hw.1 h_1
      exact c_X10_readsNested_214 E hret hX hI (lv_sub hl [] rfl) hw
    · replace hw := hw.2 h_1
      refine lv_aload_n hx hb dX10_readsNested_143 rfl (lv_at hl 0 rfl) ?_
      refine gf_X10_116 E hI t_v0 dX10_readsNested_144 ?_
      refine lv_if_ne (tgt := 214) hx hb dX10_readsNested_147 (by decide) (fun h_2 => ?_) (fun h_2 => ?_)
      · replace hw := hw.1 h_2
        exact c_X10_readsNested_214 E hret hX hI (lv_sub hl [] rfl) hw
      · replace hw := hw.2 h_2
        refine lv_iconst (v := (1 : Int32)) hx hb dX10_readsNested_150 (by decide) ?_
        refine lv_istore_n (lv' := [(3, .int (1 : Int32)), (0, .ref (H0.size + v0)), (1, .int v1), (2, .int v2)]) hx hb dX10_readsNested_151 rfl hl (by decide) rfl (fun ls hl_3 => ?_)
        refine lv_iconst (v := (0 : Int32)) hx hb dX10_readsNested_152 (by decide) ?_
        refine lv_istore (lv' := [(4, .int (0 : Int32)), (3, .int (1 : Int32)), (0, .ref (H0.size + v0)), (1, .int v1), (2, .int v2)]) hx hb dX10_readsNested_153 hl_3 (by decide) rfl (fun ls hl_4 => ?_)
        obtain ⟨n_5, hw⟩ := hw
        exact c_X10_readsNested_155 E hret ih n_5 _ _ _ _ _ hX hI t_v0 (lv_sub hl_4 [2, 3, 4, 1, 0] rfl) hw
set_option maxHeartbeats 4000000 in
set_option maxRecDepth 100000 in
theorem c_X10_readsNested_133 {p : Program} {l : Launch} {e : Env} {s : State} {m : MethodId} {args : Array Value} {below : List Frame} {meth : Method} {c : Code} {G : pm_G} {H0 : Heap} {M0 : pm_M} {Post : pm_M → Prop} {v0 : Nat} {v1 : Int32} {M : pm_M} (E : pm_E G p s m args meth c cX10_readsNested 5 RX10) (hret : meth.sig.returnType = none) {H : Heap} {locs : List Loc} {ls : Array Slot} (hX : pm_X M0 M) (hI : pm_I G H0 M H locs) (t_v0 : pm_is M v0 9) (hl : lv_has ls 5 [(0, .ref (H0.size + v0)), (1, .int v1)]) (hw : w_X10_readsNested_133 Post v0 v1 M) : W p l e rm_X10_readsNested s m args below meth c H locs 0 0 (pm_Z G H0 M0 (pm_Pv Post) below args s rm_X10_readsNested.cells rm_X10_readsNested.slots) (F0 m 133 ls []) := by
  have hx := E.1
  have hb := E.2.1
  have hown := E.2.2.2.1
  have hts := E.2.2.2.2.1
  unfold w_X10_readsNested_133 at hw
  refine lv_iconst (v := (0 : Int32)) hx hb dX10_readsNested_133 (by decide) ?_
  refine lv_istore_n (lv' := [(2, .int (0 : Int32)), (0, .ref (H0.size + v0)), (1, .int v1)]) hx hb dX10_readsNested_134 rfl hl (by decide) rfl (fun ls hl_1 => ?_)
  obtain ⟨n_2, hw⟩ := hw
  exact c_X10_readsNested_135 E hret n_2 _ _ _ _ _ hX hI t_v0 (lv_sub hl_1 [1, 2, 0] rfl) hw
set_option maxHeartbeats 4000000 in
set_option maxRecDepth 100000 in
theorem c_X10_readsNested_121 {p : Program} {l : Launch} {e : Env} {s : State} {m : MethodId} {args : Array Value} {below : List Frame} {meth : Method} {c : Code} {G : pm_G} {H0 : Heap} {M0 : pm_M} {Post : pm_M → Prop} {v0 : Nat} {v1 : Int32} {v2 : Int32} {v3 : Int32} {M : pm_M} {k_54 : Int32 → pm_M → Prop} {k_68 : Int32 → pm_M → Prop} (E : pm_E G p s m args meth c cX10_readsNested 5 RX10) (hret : meth.sig.returnType = none) (hk_54 : ∀ (v2 : Int32) (M : pm_M) (H : Heap) (locs : List Loc) (ls : Array Slot), pm_X M0 M → pm_I G H0 M H locs → (pm_is M v0 9) → lv_has ls 5 [(0, .ref (H0.size + v0)), (1, .int v1), (2, .int v2)] → k_54 v2 M → W p l e rm_X10_readsNested s m args below meth c H locs 0 0 (pm_Z G H0 M0 (pm_Pv Post) below args s rm_X10_readsNested.cells rm_X10_readsNested.slots) (F0 m 54 ls [])) (hk_68 : ∀ (v3 : Int32) (M : pm_M) (H : Heap) (locs : List Loc) (ls : Array Slot), pm_X M0 M → pm_I G H0 M H locs → (pm_is M v0 9) → lv_has ls 5 [(0, .ref (H0.size + v0)), (1, .int v1), (2, .int v2), (3, .int v3)] → k_68 v3 M → W p l e rm_X10_readsNested s m args below meth c H locs 0 0 (pm_Z G H0 M0 (pm_Pv Post) below args s rm_X10_readsNested.cells rm_X10_readsNested.slots) (F0 m 68 ls [])) {H : Heap} {locs : List Loc} {ls : Array Slot} (hX : pm_X M0 M) (hI : pm_I G H0 M H locs) (t_v0 : pm_is M v0 9) (hl : lv_has ls 5 [(0, .ref (H0.size + v0)), (1, .int v1), (2, .int v2), (3, .int v3)]) (hw : w_X10_readsNested_121 Post k_54 k_68 v0 v1 v2 v3 M) : W p l e rm_X10_readsNested s m args below meth c H locs 0 0 (pm_Z G H0 M0 (pm_Pv Post) below args s rm_X10_readsNested.cells rm_X10_readsNested.slots) (F0 m 121 ls []) := by
  have hx := E.1
  have hb := E.2.1
  have hown := E.2.2.2.1
  have hts := E.2.2.2.2.1
  unfold w_X10_readsNested_121 at hw
  obtain ⟨x_1, e_x_1⟩ : ∃ z : Int32, z = v3 + (1 : Int32) := ⟨_, rfl⟩
  refine lv_iinc (v := x_1) (lv' := [(3, .int x_1), (0, .ref (H0.size + v0)), (1, .int v1), (2, .int v2)]) hx hb dX10_readsNested_121 hl (k := 3) rfl (by rw [e_x_1]; rfl) (by decide) rfl (fun ls hl_2 => ?_)
  replace hw := hw x_1 e_x_1
  refine lv_goto (tgt := 68) hx hb dX10_readsNested_124 (by decide) ?_
  exact hk_68 _ _ _ _ _ hX hI t_v0 (lv_sub hl_2 [1, 2, 3, 0] rfl) hw
set_option maxHeartbeats 4000000 in
set_option maxRecDepth 100000 in
theorem c_X10_readsNested_68 {p : Program} {l : Launch} {e : Env} {s : State} {m : MethodId} {args : Array Value} {below : List Frame} {meth : Method} {c : Code} {G : pm_G} {H0 : Heap} {M0 : pm_M} {Post : pm_M → Prop} {v0 : Nat} {v1 : Int32} {v2 : Int32} {k_54 : Int32 → pm_M → Prop} (E : pm_E G p s m args meth c cX10_readsNested 5 RX10) (hret : meth.sig.returnType = none) (hk_54 : ∀ (v2 : Int32) (M : pm_M) (H : Heap) (locs : List Loc) (ls : Array Slot), pm_X M0 M → pm_I G H0 M H locs → (pm_is M v0 9) → lv_has ls 5 [(0, .ref (H0.size + v0)), (1, .int v1), (2, .int v2)] → k_54 v2 M → W p l e rm_X10_readsNested s m args below meth c H locs 0 0 (pm_Z G H0 M0 (pm_Pv Post) below args s rm_X10_readsNested.cells rm_X10_readsNested.slots) (F0 m 54 ls [])) : ∀ (n : Nat) (v3 : Int32) (M : pm_M) (H : Heap) (locs : List Loc) (ls : Array Slot), pm_X M0 M → pm_I G H0 M H locs → (pm_is M v0 9) → lv_has ls 5 [(0, .ref (H0.size + v0)), (1, .int v1), (2, .int v2), (3, .int v3)] → w_X10_readsNested_68 Post k_54 v0 v1 v2 n v3 M → W p l e rm_X10_readsNested s m args below meth c H locs 0 0 (pm_Z G H0 M0 (pm_Pv Post) below args s rm_X10_readsNested.cells rm_X10_readsNested.slots) (F0 m 68 ls []) := by
  have hx := E.1
  have hb := E.2.1
  have hown := E.2.2.2.1
  have hts := E.2.2.2.2.1
  intro n
  induction n with
  | zero =>
    intro v3 M H locs ls hX hI t_v0 hl hw
    unfold w_X10_readsNested_68 at hw
    exact hw.elim
  | succ n ih =>
    intro v3 M H locs ls hX hI t_v0 hl hw
    unfold w_X10_readsNested_68 at hw
    refine lv_iload_n hx hb dX10_readsNested_68 rfl (lv_at hl 3 rfl) ?_
    refine lv_iload_n hx hb dX10_readsNested_69 rfl (lv_at hl 2 rfl) ?_
    refine lv_icmp_ge (tgt := 127) hx hb dX10_readsNested_70 (by decide) (fun h_1 => ?_) (fun h_1 => ?_)
    · replace hw := hw.1 h_1
      obtain ⟨x_2, e_x_2⟩ : ∃ z : Int32, z = v2 + (1 : Int32) := ⟨_, rfl⟩
      refine lv_iinc (v := x_2) (lv' := [(2, .int x_2), (0, .ref (H0.size + v0)), (1, .int v1), (3, .int v3)]) hx hb dX10_readsNested_127 hl (k := 2) rfl (by rw [e_x_2]; rfl) (by decide) rfl (fun ls hl_3 => ?_)
      replace hw := hw x_2 e_x_2
      refine lv_goto (tgt := 54) hx hb dX10_readsNested_130 (by decide) ?_
      exact hk_54 _ _ _ _ _ hX hI t_v0 (lv_sub hl_3 [1, 2, 0] rfl) hw
    · replace hw := hw.2 h_1
      refine lv_aload_n hx hb dX10_readsNested_73 rfl (lv_at hl 0 rfl) ?_
      obtain ⟨q_4, e_q_4, hw⟩ := hw
      refine gf_X10_57 E hI t_v0 dX10_readsNested_74 e_q_4 (fun t_q_4 => ?_)
      refine lv_iload_n hx hb dX10_readsNested_77 rfl (lv_at hl 2 rfl) ?_
      obtain ⟨h_5, hw⟩ := hw
      refine pm_iald E hI t_q_4 h_5 dX10_readsNested_78 ?_
      refine lv_aload_n hx hb dX10_readsNested_79 rfl (lv_at hl 0 rfl) ?_
      refine gf_X10_57 E hI t_v0 dX10_readsNested_80 e_q_4 (fun _ => ?_)
      refine lv_iload_n hx hb dX10_readsNested_83 rfl (lv_at hl 3 rfl) ?_
      obtain ⟨h_6, hw⟩ := hw
      refine pm_iald E hI t_q_4 h_6 dX10_readsNested_84 ?_
      refine lv_iand hx hb dX10_readsNested_85 ?_
      refine lv_topi (fun x_7 e_x_7 => ?_)
      replace hw := hw x_7 e_x_7
      refine lv_istore (lv' := [(4, .int x_7), (0, .ref (H0.size + v0)), (1, .int v1), (2, .int v2), (3, .int v3)]) hx hb dX10_readsNested_86 hl (by decide) rfl (fun ls hl_8 => ?_)
      refine lv_iload hx hb dX10_readsNested_88 (lv_at hl_8 0 rfl) ?_
      refine lv_if_eq (tgt := 121) hx hb dX10_readsNested_90 (by decide) (fun h_9 => ?_) (fun h_9 => ?_)
      · replace hw := hw.1 h_9
        exact c_X10_readsNested_121 E hret hk_54 ih hX hI t_v0 (lv_sub hl_8 [1, 2, 3, 4] rfl) hw
      · replace hw := hw.2 h_9
        refine lv_iload hx hb dX10_readsNested_93 (lv_at hl_8 0 rfl) ?_
        refine lv_aload_n hx hb dX10_readsNested_95 rfl (lv_at hl_8 1 rfl) ?_
        refine gf_X10_57 E hI t_v0 dX10_readsNested_96 e_q_4 (fun _ => ?_)
        refine lv_iload_n hx hb dX10_readsNested_99 rfl (lv_at hl_8 3 rfl) ?_
        obtain ⟨h_10, hw⟩ := hw
        refine pm_iald E hI t_q_4 h_10 dX10_readsNested_100 ?_
        refine lv_icmp_eq (tgt := 121) hx hb dX10_readsNested_101 (by decide) (fun h_11 => ?_) (fun h_11 => ?_)
        · replace hw := hw.1 h_11
          exact c_X10_readsNested_121 E hret hk_54 ih hX hI t_v0 (lv_sub hl_8 [1, 2, 3, 4] rfl) hw
        · replace hw := hw.2 h_11
          refine lv_iload hx hb dX10_readsNested_104 (lv_at hl_8 0 rfl) ?_
          refine lv_aload_n hx hb dX10_readsNested_106 rfl (lv_at hl_8 1 rfl) ?_
          refine gf_X10_57 E hI t_v0 dX10_readsNested_107 e_q_4 (fun _ => ?_)
          refine lv_iload_n hx hb dX10_readsNested_110 rfl (lv_at hl_8 4 rfl) ?_
          obtain ⟨h_12, hw⟩ := hw
          refine pm_iald E hI t_q_4 h_12 dX10_readsNested_111 ?_
          refine lv_icmp_eq (tgt := 121) hx hb dX10_readsNested_112 (by decide) (fun h_13 => ?_) (fun h_13 => ?_)
          · replace hw := hw.1 h_13
            exact c_X10_readsNested_121 E hret hk_54 ih hX hI t_v0 (lv_sub hl_8 [1, 2, 3, 4] rfl) hw
          · replace hw := hw.2 h_13
            refine lv_aload_n hx hb dX10_readsNested_115 rfl (lv_at hl_8 1 rfl) ?_
            refine lv_bipush (v := (-7 : Int32)) hx hb dX10_readsNested_116 (by decide) ?_
            refine pf_X10_116 E hI t_v0 dX10_readsNested_118 (fun H locs M_14 e_M_14 hX1 hI => ?_)
            replace hw := hw M_14 e_M_14
            replace t_v0 := t_v0.x hX1
            replace hX := hX.tr hX1
            exact c_X10_readsNested_121 E hret hk_54 ih hX hI t_v0 (lv_sub hl_8 [1, 2, 3, 4] rfl) hw
set_option maxHeartbeats 4000000 in
set_option maxRecDepth 100000 in
theorem c_X10_readsNested_54 {p : Program} {l : Launch} {e : Env} {s : State} {m : MethodId} {args : Array Value} {below : List Frame} {meth : Method} {c : Code} {G : pm_G} {H0 : Heap} {M0 : pm_M} {Post : pm_M → Prop} {v0 : Nat} {v1 : Int32} (E : pm_E G p s m args meth c cX10_readsNested 5 RX10) (hret : meth.sig.returnType = none) : ∀ (n : Nat) (v2 : Int32) (M : pm_M) (H : Heap) (locs : List Loc) (ls : Array Slot), pm_X M0 M → pm_I G H0 M H locs → (pm_is M v0 9) → lv_has ls 5 [(0, .ref (H0.size + v0)), (1, .int v1), (2, .int v2)] → w_X10_readsNested_54 Post v0 v1 n v2 M → W p l e rm_X10_readsNested s m args below meth c H locs 0 0 (pm_Z G H0 M0 (pm_Pv Post) below args s rm_X10_readsNested.cells rm_X10_readsNested.slots) (F0 m 54 ls []) := by
  have hx := E.1
  have hb := E.2.1
  have hown := E.2.2.2.1
  have hts := E.2.2.2.2.1
  intro n
  induction n with
  | zero =>
    intro v2 M H locs ls hX hI t_v0 hl hw
    unfold w_X10_readsNested_54 at hw
    exact hw.elim
  | succ n ih =>
    intro v2 M H locs ls hX hI t_v0 hl hw
    unfold w_X10_readsNested_54 at hw
    refine lv_iload_n hx hb dX10_readsNested_54 rfl (lv_at hl 2 rfl) ?_
    refine lv_iload_n hx hb dX10_readsNested_55 rfl (lv_at hl 1 rfl) ?_
    refine lv_icmp_ge (tgt := 133) hx hb dX10_readsNested_56 (by decide) (fun h_1 => ?_) (fun h_1 => ?_)
    · replace hw := hw.1 h_1
      exact c_X10_readsNested_133 E hret hX hI t_v0 (lv_sub hl [0, 1] rfl) hw
    · replace hw := hw.2 h_1
      refine lv_aload_n hx hb dX10_readsNested_59 rfl (lv_at hl 0 rfl) ?_
      refine gf_X10_116 E hI t_v0 dX10_readsNested_60 ?_
      refine lv_if_ne (tgt := 133) hx hb dX10_readsNested_63 (by decide) (fun h_2 => ?_) (fun h_2 => ?_)
      · replace hw := hw.1 h_2
        exact c_X10_readsNested_133 E hret hX hI t_v0 (lv_sub hl [0, 1] rfl) hw
      · replace hw := hw.2 h_2
        refine lv_iconst (v := (0 : Int32)) hx hb dX10_readsNested_66 (by decide) ?_
        refine lv_istore_n (lv' := [(3, .int (0 : Int32)), (0, .ref (H0.size + v0)), (1, .int v1), (2, .int v2)]) hx hb dX10_readsNested_67 rfl hl (by decide) rfl (fun ls hl_3 => ?_)
        obtain ⟨n_4, hw⟩ := hw
        exact c_X10_readsNested_68 E hret ih n_4 _ _ _ _ _ hX hI t_v0 (lv_sub hl_3 [1, 2, 3, 0] rfl) hw
set_option maxHeartbeats 4000000 in
set_option maxRecDepth 100000 in
theorem c_X10_readsNested_11 {p : Program} {l : Launch} {e : Env} {s : State} {m : MethodId} {args : Array Value} {below : List Frame} {meth : Method} {c : Code} {G : pm_G} {H0 : Heap} {M0 : pm_M} {Post : pm_M → Prop} {v0 : Nat} {v1 : Int32} (E : pm_E G p s m args meth c cX10_readsNested 5 RX10) (hret : meth.sig.returnType = none) : ∀ (n : Nat) (v2 : Int32) (M : pm_M) (H : Heap) (locs : List Loc) (ls : Array Slot), pm_X M0 M → pm_I G H0 M H locs → (pm_is M v0 9) → lv_has ls 5 [(0, .ref (H0.size + v0)), (1, .int v1), (2, .int v2)] → w_X10_readsNested_11 Post v0 v1 n v2 M → W p l e rm_X10_readsNested s m args below meth c H locs 0 0 (pm_Z G H0 M0 (pm_Pv Post) below args s rm_X10_readsNested.cells rm_X10_readsNested.slots) (F0 m 11 ls []) := by
  have hx := E.1
  have hb := E.2.1
  have hown := E.2.2.2.1
  have hts := E.2.2.2.2.1
  intro n
  induction n with
  | zero =>
    intro v2 M H locs ls hX hI t_v0 hl hw
    unfold w_X10_readsNested_11 at hw
    exact hw.elim
  | succ n ih =>
    intro v2 M H locs ls hX hI t_v0 hl hw
    unfold w_X10_readsNested_11 at hw
    refine lv_iload_n hx hb dX10_readsNested_11 rfl (lv_at hl 2 rfl) ?_
    refine lv_iload_n hx hb dX10_readsNested_12 rfl (lv_at hl 1 rfl) ?_
    refine lv_icmp_ge (tgt := 52) hx hb dX10_readsNested_13 (by decide) (fun h_1 => ?_) (fun h_1 => ?_)
    · replace hw := hw.1 h_1
      refine lv_iconst (v := (0 : Int32)) hx hb dX10_readsNested_52 (by decide) ?_
      refine lv_istore_n (lv' := [(2, .int (0 : Int32)), (0, .ref (H0.size + v0)), (1, .int v1)]) hx hb dX10_readsNested_53 rfl hl (by decide) rfl (fun ls hl_2 => ?_)
      obtain ⟨n_3, hw⟩ := hw
      exact c_X10_readsNested_54 E hret n_3 _ _ _ _ _ hX hI t_v0 (lv_sub hl_2 [1, 2, 0] rfl) hw
    · replace hw := hw.2 h_1
      refine lv_aload_n hx hb dX10_readsNested_16 rfl (lv_at hl 0 rfl) ?_
      obtain ⟨q_4, e_q_4, hw⟩ := hw
      refine gf_X10_57 E hI t_v0 dX10_readsNested_17 e_q_4 (fun t_q_4 => ?_)
      refine lv_iload_n hx hb dX10_readsNested_20 rfl (lv_at hl 2 rfl) ?_
      refine lv_aload_n hx hb dX10_readsNested_21 rfl (lv_at hl 0 rfl) ?_
      refine lv_lconst (v := (0 : Int64)) hx hb dX10_readsNested_22 (by decide) ?_
      refine lv_aload_n hx hb dX10_readsNested_23 rfl (lv_at hl 0 rfl) ?_
      refine gf_X10_13 E hI t_v0 dX10_readsNested_24 ?_
      refine lv_i2l hx hb dX10_readsNested_27 rfl ?_
      refine pm_callV (As := [.long (0 : Int64), .long ((mI M v0 1).toInt64)]) (rest := [.int v2, .ref (H0.size + q_4)]) 2 E hI (k_X10_next t_v0 hw) t_v0 (by decide) rfl kc_X10_next kl_X10_152 km_X10_next ks_X10_next ki_X10 (by decide +kernel) ⟨by decide, by decide⟩ rfl hl.1 rfl (by first | exact Nat.le_of_ble_eq_true rfl | (simp only [List.map, pm_rf_cat]; exact Nat.le_of_ble_eq_true rfl)) dX10_readsNested_28 ⟨by decide, by decide⟩ (fun r9 M_5 H locs hp hX1 hI => ?_)
      clear hw
      obtain ⟨r_6, rfl, hw⟩ := hp
      replace t_v0 := t_v0.x hX1
      replace t_q_4 := t_q_4.x hX1
      replace hX := hX.tr hX1
      refine pm_nrm (cells' := 0) (slots' := 0) (g2 := F0 m 31 ls [.int r_6, .int v2, .ref (H0.size + q_4)]) rfl rfl rfl ?_
      obtain ⟨h_7, hw⟩ := hw
      refine ps_iast E hI t_q_4 h_7 dX10_readsNested_31 (fun H locs M_8 e_M_8 hX1 hI => ?_)
      replace hw := hw M_8 e_M_8
      replace t_v0 := t_v0.x hX1
      replace hX := hX.tr hX1
      refine lv_aload_n hx hb dX10_readsNested_32 rfl (lv_at hl 0 rfl) ?_
      obtain ⟨q_9, e_q_9, hw⟩ := hw
      refine gf_X10_60 E hI t_v0 dX10_readsNested_33 e_q_9 (fun t_q_9 => ?_)
      refine lv_iload_n hx hb dX10_readsNested_36 rfl (lv_at hl 2 rfl) ?_
      refine lv_aload_n hx hb dX10_readsNested_37 rfl (lv_at hl 0 rfl) ?_
      refine lv_lconst (v := (0 : Int64)) hx hb dX10_readsNested_38 (by decide) ?_
      refine lv_ldc2 (v := (12 : Int64)) hx hb hown (hts _ kl_X10_166) dX10_readsNested_39 ?_
      refine pm_callV (As := [.long (0 : Int64), .long (12 : Int64)]) (rest := [.int v2, .ref (H0.size + q_9)]) 2 E hI (k_X10_next t_v0 hw) t_v0 (by decide) rfl kc_X10_next kl_X10_152 km_X10_next ks_X10_next ki_X10 (by decide +kernel) ⟨by decide, by decide⟩ rfl hl.1 rfl (by first | exact Nat.le_of_ble_eq_true rfl | (simp only [List.map, pm_rf_cat]; exact Nat.le_of_ble_eq_true rfl)) dX10_readsNested_42 ⟨by decide, by decide⟩ (fun r9 M_10 H locs hp hX1 hI => ?_)
      clear hw
      obtain ⟨r_11, rfl, hw⟩ := hp
      replace t_v0 := t_v0.x hX1
      replace t_q_9 := t_q_9.x hX1
      replace hX := hX.tr hX1
      refine pm_nrm (cells' := 0) (slots' := 0) (g2 := F0 m 45 ls [.int r_11, .int v2, .ref (H0.size + q_9)]) rfl rfl rfl ?_
      obtain ⟨h_12, hw⟩ := hw
      refine ps_iast E hI t_q_9 h_12 dX10_readsNested_45 (fun H locs M_13 e_M_13 hX1 hI => ?_)
      replace hw := hw M_13 e_M_13
      replace t_v0 := t_v0.x hX1
      replace hX := hX.tr hX1
      obtain ⟨x_14, e_x_14⟩ : ∃ z : Int32, z = v2 + (1 : Int32) := ⟨_, rfl⟩
      refine lv_iinc (v := x_14) (lv' := [(2, .int x_14), (0, .ref (H0.size + v0)), (1, .int v1)]) hx hb dX10_readsNested_46 hl (k := 2) rfl (by rw [e_x_14]; rfl) (by decide) rfl (fun ls hl_15 => ?_)
      replace hw := hw x_14 e_x_14
      refine lv_goto (tgt := 11) hx hb dX10_readsNested_49 (by decide) ?_
      exact ih _ _ _ _ _ hX hI t_v0 (lv_sub hl_15 [1, 2, 0] rfl) hw
set_option maxHeartbeats 4000000 in
set_option maxRecDepth 100000 in
theorem k_X10_readsNested {l : Launch} {G : pm_G} {H0 : Heap} {th : Nat} {M : pm_M} {Post : pm_M → Prop} (t_th : pm_is M th 9) (hw : w_X10_readsNested th M Post) : pm_C l G H0 yX10_readsNested cX10_readsNested 5 none rm_X10_readsNested [.ref (H0.size + th)] M (pm_Pv Post) := by
  refine pm_start (by decide +kernel) (Nat.le_of_ble_eq_true rfl) ?_
  intro p e s m args below meth c H ls E hret hnm hI hl
  have hX : pm_X M M := pm_X.rf
  have hl : lv_has ls 5 [(0, .ref (H0.size + th))] := hl
  have hx := E.1
  have hb := E.2.1
  have hown := E.2.2.2.1
  have hts := E.2.2.2.2.1
  unfold w_X10_readsNested at hw
  refine lv_aload_n hx hb dX10_readsNested_0 rfl (lv_at hl 0 rfl) ?_
  refine lv_lconst (v := (0 : Int64)) hx hb dX10_readsNested_1 (by decide) ?_
  refine lv_ldc2 (v := (40 : Int64)) hx hb hown (hts _ kl_X10_170) dX10_readsNested_2 ?_
  refine pm_callV (As := [.long (0 : Int64), .long (40 : Int64)]) (rest := []) 2 E hI (k_X10_next t_th hw) t_th (by decide) rfl kc_X10_next kl_X10_152 km_X10_next ks_X10_next ki_X10 (by decide +kernel) ⟨by decide, by decide⟩ rfl hl.1 rfl (by first | exact Nat.le_of_ble_eq_true rfl | (simp only [List.map, pm_rf_cat]; exact Nat.le_of_ble_eq_true rfl)) dX10_readsNested_5 ⟨by decide, by decide⟩ (fun r9 M_1 H locs hp hX1 hI => ?_)
  clear hw
  obtain ⟨r_2, rfl, hw⟩ := hp
  replace t_th := t_th.x hX1
  replace hX := hX.tr hX1
  refine pm_nrm (cells' := 0) (slots' := 0) (g2 := F0 m 8 ls [.int r_2]) rfl rfl rfl ?_
  refine lv_istore_n (lv' := [(1, .int r_2), (0, .ref (H0.size + th))]) hx hb dX10_readsNested_8 rfl hl (by decide) rfl (fun ls hl_3 => ?_)
  refine lv_iconst (v := (0 : Int32)) hx hb dX10_readsNested_9 (by decide) ?_
  refine lv_istore_n (lv' := [(2, .int (0 : Int32)), (1, .int r_2), (0, .ref (H0.size + th))]) hx hb dX10_readsNested_10 rfl hl_3 (by decide) rfl (fun ls hl_4 => ?_)
  obtain ⟨n_5, hw⟩ := hw
  exact c_X10_readsNested_11 E hret n_5 _ _ _ _ _ hX hI t_th (lv_sub hl_4 [2, 1, 0] rfl) hw
set_option maxHeartbeats 4000000 in
set_option maxRecDepth 100000 in
theorem c_X10_readsEdges_216 {p : Program} {l : Launch} {e : Env} {s : State} {m : MethodId} {args : Array Value} {below : List Frame} {meth : Method} {c : Code} {G : pm_G} {H0 : Heap} {M0 : pm_M} {Post : pm_M → Prop} {M : pm_M} (E : pm_E G p s m args meth c cX10_readsEdges 7 RX10) (hret : meth.sig.returnType = none) {H : Heap} {locs : List Loc} {ls : Array Slot} (hX : pm_X M0 M) (hI : pm_I G H0 M H locs) (hl : lv_has ls 7 []) (hw : w_X10_readsEdges_216 Post M) : W p l e rm_X10_readsEdges s m args below meth c H locs 0 0 (pm_Z G H0 M0 (pm_Pv Post) below args s rm_X10_readsEdges.cells rm_X10_readsEdges.slots) (F0 m 216 ls []) := by
  have hx := E.1
  have hb := E.2.1
  have hown := E.2.2.2.1
  have hts := E.2.2.2.2.1
  unfold w_X10_readsEdges_216 at hw
  exact pm_vret E hret hI hX ⟨rfl, hw⟩ (by decide) (by decide) dX10_readsEdges_216
set_option maxHeartbeats 4000000 in
set_option maxRecDepth 100000 in
theorem c_X10_readsEdges_210 {p : Program} {l : Launch} {e : Env} {s : State} {m : MethodId} {args : Array Value} {below : List Frame} {meth : Method} {c : Code} {G : pm_G} {H0 : Heap} {M0 : pm_M} {Post : pm_M → Prop} {v0 : Nat} {v1 : Int32} {M : pm_M} {k_46 : Int32 → pm_M → Prop} (E : pm_E G p s m args meth c cX10_readsEdges 7 RX10) (hret : meth.sig.returnType = none) (hk_46 : ∀ (v1 : Int32) (M : pm_M) (H : Heap) (locs : List Loc) (ls : Array Slot), pm_X M0 M → pm_I G H0 M H locs → (pm_is M v0 9) → lv_has ls 7 [(0, .ref (H0.size + v0)), (1, .int v1)] → k_46 v1 M → W p l e rm_X10_readsEdges s m args below meth c H locs 0 0 (pm_Z G H0 M0 (pm_Pv Post) below args s rm_X10_readsEdges.cells rm_X10_readsEdges.slots) (F0 m 46 ls [])) {H : Heap} {locs : List Loc} {ls : Array Slot} (hX : pm_X M0 M) (hI : pm_I G H0 M H locs) (t_v0 : pm_is M v0 9) (hl : lv_has ls 7 [(0, .ref (H0.size + v0)), (1, .int v1)]) (hw : w_X10_readsEdges_210 Post k_46 v0 v1 M) : W p l e rm_X10_readsEdges s m args below meth c H locs 0 0 (pm_Z G H0 M0 (pm_Pv Post) below args s rm_X10_readsEdges.cells rm_X10_readsEdges.slots) (F0 m 210 ls []) := by
  have hx := E.1
  have hb := E.2.1
  have hown := E.2.2.2.1
  have hts := E.2.2.2.2.1
  unfold w_X10_readsEdges_210 at hw
  obtain ⟨x_1, e_x_1⟩ : ∃ z : Int32, z = v1 + (1 : Int32) := ⟨_, rfl⟩
  refine lv_iinc (v := x_1) (lv' := [(1, .int x_1), (0, .ref (H0.size + v0))]) hx hb dX10_readsEdges_210 hl (k := 1) rfl (by rw [e_x_1]; rfl) (by decide) rfl (fun ls hl_2 => ?_)
  replace hw := hw x_1 e_x_1
  refine lv_goto (tgt := 46) hx hb dX10_readsEdges_213 (by decide) ?_
  exact hk_46 _ _ _ _ _ hX hI t_v0 (lv_sub hl_2 [1, 0] rfl) hw
set_option maxHeartbeats 4000000 in
set_option maxRecDepth 100000 in
theorem c_X10_readsEdges_195 {p : Program} {l : Launch} {e : Env} {s : State} {m : MethodId} {args : Array Value} {below : List Frame} {meth : Method} {c : Code} {G : pm_G} {H0 : Heap} {M0 : pm_M} {Post : pm_M → Prop} {v0 : Nat} {v1 : Int32} {v2 : Int32} {v3 : Int32} {M : pm_M} {k_46 : Int32 → pm_M → Prop} {k_86 : Int32 → Int32 → pm_M → Prop} (E : pm_E G p s m args meth c cX10_readsEdges 7 RX10) (hret : meth.sig.returnType = none) (hk_46 : ∀ (v1 : Int32) (M : pm_M) (H : Heap) (locs : List Loc) (ls : Array Slot), pm_X M0 M → pm_I G H0 M H locs → (pm_is M v0 9) → lv_has ls 7 [(0, .ref (H0.size + v0)), (1, .int v1)] → k_46 v1 M → W p l e rm_X10_readsEdges s m args below meth c H locs 0 0 (pm_Z G H0 M0 (pm_Pv Post) below args s rm_X10_readsEdges.cells rm_X10_readsEdges.slots) (F0 m 46 ls [])) (hk_86 : ∀ (v2 : Int32) (v3 : Int32) (M : pm_M) (H : Heap) (locs : List Loc) (ls : Array Slot), pm_X M0 M → pm_I G H0 M H locs → (pm_is M v0 9) → lv_has ls 7 [(0, .ref (H0.size + v0)), (1, .int v1), (2, .int v2), (3, .int v3)] → k_86 v2 v3 M → W p l e rm_X10_readsEdges s m args below meth c H locs 0 0 (pm_Z G H0 M0 (pm_Pv Post) below args s rm_X10_readsEdges.cells rm_X10_readsEdges.slots) (F0 m 86 ls [])) {H : Heap} {locs : List Loc} {ls : Array Slot} (hX : pm_X M0 M) (hI : pm_I G H0 M H locs) (t_v0 : pm_is M v0 9) (hl : lv_has ls 7 [(0, .ref (H0.size + v0)), (1, .int v1), (2, .int v2), (3, .int v3)]) (hw : w_X10_readsEdges_195 Post k_46 k_86 v0 v1 v2 v3 M) : W p l e rm_X10_readsEdges s m args below meth c H locs 0 0 (pm_Z G H0 M0 (pm_Pv Post) below args s rm_X10_readsEdges.cells rm_X10_readsEdges.slots) (F0 m 195 ls []) := by
  have hx := E.1
  have hb := E.2.1
  have hown := E.2.2.2.1
  have hts := E.2.2.2.2.1
  unfold w_X10_readsEdges_195 at hw
  obtain ⟨x_1, e_x_1⟩ : ∃ z : Int32, z = v3 + (1 : Int32) := ⟨_, rfl⟩
  refine lv_iinc (v := x_1) (lv' := [(3, .int x_1), (0, .ref (H0.size + v0)), (1, .int v1), (2, .int v2)]) hx hb dX10_readsEdges_195 hl (k := 3) rfl (by rw [e_x_1]; rfl) (by decide) rfl (fun ls hl_2 => ?_)
  replace hw := hw x_1 e_x_1
  refine lv_goto (tgt := 86) hx hb dX10_readsEdges_198 (by decide) ?_
  exact hk_86 _ _ _ _ _ _ hX hI t_v0 (lv_sub hl_2 [1, 2, 3, 0] rfl) hw
set_option maxHeartbeats 4000000 in
set_option maxRecDepth 100000 in
theorem c_X10_readsEdges_188 {p : Program} {l : Launch} {e : Env} {s : State} {m : MethodId} {args : Array Value} {below : List Frame} {meth : Method} {c : Code} {G : pm_G} {H0 : Heap} {M0 : pm_M} {Post : pm_M → Prop} {v0 : Nat} {v1 : Int32} {v2 : Int32} {v3 : Int32} {v4 : Int32} {v5 : Int32} {v6 : Int32} {s0 : Nat} {s1 : Int32} {s2 : Int32} {M : pm_M} {k_46 : Int32 → pm_M → Prop} {k_86 : Int32 → Int32 → pm_M → Prop} {k_151 : Int32 → pm_M → Prop} (E : pm_E G p s m args meth c cX10_readsEdges 7 RX10) (hret : meth.sig.returnType = none) (hk_46 : ∀ (v1 : Int32) (M : pm_M) (H : Heap) (locs : List Loc) (ls : Array Slot), pm_X M0 M → pm_I G H0 M H locs → (pm_is M v0 9) → lv_has ls 7 [(0, .ref (H0.size + v0)), (1, .int v1)] → k_46 v1 M → W p l e rm_X10_readsEdges s m args below meth c H locs 0 0 (pm_Z G H0 M0 (pm_Pv Post) below args s rm_X10_readsEdges.cells rm_X10_readsEdges.slots) (F0 m 46 ls [])) (hk_86 : ∀ (v2 : Int32) (v3 : Int32) (M : pm_M) (H : Heap) (locs : List Loc) (ls : Array Slot), pm_X M0 M → pm_I G H0 M H locs → (pm_is M v0 9) → lv_has ls 7 [(0, .ref (H0.size + v0)), (1, .int v1), (2, .int v2), (3, .int v3)] → k_86 v2 v3 M → W p l e rm_X10_readsEdges s m args below meth c H locs 0 0 (pm_Z G H0 M0 (pm_Pv Post) below args s rm_X10_readsEdges.cells rm_X10_readsEdges.slots) (F0 m 86 ls [])) (hk_151 : ∀ (v6 : Int32) (M : pm_M) (H : Heap) (locs : List Loc) (ls : Array Slot), pm_X M0 M → pm_I G H0 M H locs → (pm_is M v0 9) → lv_has ls 7 [(0, .ref (H0.size + v0)), (1, .int v1), (2, .int v2), (3, .int v3), (4, .int v4), (5, .int v5), (6, .int v6)] → k_151 v6 M → W p l e rm_X10_readsEdges s m args below meth c H locs 0 0 (pm_Z G H0 M0 (pm_Pv Post) below args s rm_X10_readsEdges.cells rm_X10_readsEdges.slots) (F0 m 151 ls [])) {H : Heap} {locs : List Loc} {ls : Array Slot} (hX : pm_X M0 M) (hI : pm_I G H0 M H locs) (t_v0 : pm_is M v0 9) (t_s0 : pm_is M s0 11) (hl : lv_has ls 7 [(0, .ref (H0.size + v0)), (1, .int v1), (2, .int v2), (3, .int v3), (4, .int v4), (5, .int v5), (6, .int v6)]) (hw : w_X10_readsEdges_188 Post k_46 k_86 k_151 v0 v1 v2 v3 v4 v5 v6 s0 s1 s2 M) : W p l e rm_X10_readsEdges s m args below meth c H locs 0 0 (pm_Z G H0 M0 (pm_Pv Post) below args s rm_X10_readsEdges.cells rm_X10_readsEdges.slots) (F0 m 188 ls [.int s2, .int s1, .ref (H0.size + s0)]) := by
  have hx := E.1
  have hb := E.2.1
  have hown := E.2.2.2.1
  have hts := E.2.2.2.2.1
  unfold w_X10_readsEdges_188 at hw
  obtain ⟨h_1, hw⟩ := hw
  refine ps_iast E hI t_s0 h_1 dX10_readsEdges_188 (fun H locs M_2 e_M_2 hX1 hI => ?_)
  replace hw := hw M_2 e_M_2
  replace t_v0 := t_v0.x hX1
  replace hX := hX.tr hX1
  obtain ⟨x_3, e_x_3⟩ : ∃ z : Int32, z = v6 + (1 : Int32) := ⟨_, rfl⟩
  refine lv_iinc (v := x_3) (lv' := [(6, .int x_3), (0, .ref (H0.size + v0)), (1, .int v1), (2, .int v2), (3, .int v3), (4, .int v4), (5, .int v5)]) hx hb dX10_readsEdges_189 hl (k := 6) rfl (by rw [e_x_3]; rfl) (by decide) rfl (fun ls hl_4 => ?_)
  replace hw := hw x_3 e_x_3
  refine lv_goto (tgt := 151) hx hb dX10_readsEdges_192 (by decide) ?_
  exact hk_151 _ _ _ _ _ hX hI t_v0 (lv_sub hl_4 [1, 2, 3, 4, 5, 6, 0] rfl) hw
set_option maxHeartbeats 4000000 in
set_option maxRecDepth 100000 in
theorem c_X10_readsEdges_151 {p : Program} {l : Launch} {e : Env} {s : State} {m : MethodId} {args : Array Value} {below : List Frame} {meth : Method} {c : Code} {G : pm_G} {H0 : Heap} {M0 : pm_M} {Post : pm_M → Prop} {v0 : Nat} {v1 : Int32} {v2 : Int32} {v3 : Int32} {v4 : Int32} {v5 : Int32} {k_46 : Int32 → pm_M → Prop} {k_86 : Int32 → Int32 → pm_M → Prop} (E : pm_E G p s m args meth c cX10_readsEdges 7 RX10) (hret : meth.sig.returnType = none) (hk_46 : ∀ (v1 : Int32) (M : pm_M) (H : Heap) (locs : List Loc) (ls : Array Slot), pm_X M0 M → pm_I G H0 M H locs → (pm_is M v0 9) → lv_has ls 7 [(0, .ref (H0.size + v0)), (1, .int v1)] → k_46 v1 M → W p l e rm_X10_readsEdges s m args below meth c H locs 0 0 (pm_Z G H0 M0 (pm_Pv Post) below args s rm_X10_readsEdges.cells rm_X10_readsEdges.slots) (F0 m 46 ls [])) (hk_86 : ∀ (v2 : Int32) (v3 : Int32) (M : pm_M) (H : Heap) (locs : List Loc) (ls : Array Slot), pm_X M0 M → pm_I G H0 M H locs → (pm_is M v0 9) → lv_has ls 7 [(0, .ref (H0.size + v0)), (1, .int v1), (2, .int v2), (3, .int v3)] → k_86 v2 v3 M → W p l e rm_X10_readsEdges s m args below meth c H locs 0 0 (pm_Z G H0 M0 (pm_Pv Post) below args s rm_X10_readsEdges.cells rm_X10_readsEdges.slots) (F0 m 86 ls [])) : ∀ (n : Nat) (v6 : Int32) (M : pm_M) (H : Heap) (locs : List Loc) (ls : Array Slot), pm_X M0 M → pm_I G H0 M H locs → (pm_is M v0 9) → lv_has ls 7 [(0, .ref (H0.size + v0)), (1, .int v1), (2, .int v2), (3, .int v3), (4, .int v4), (5, .int v5), (6, .int v6)] → w_X10_readsEdges_151 Post k_46 k_86 v0 v1 v2 v3 v4 v5 n v6 M → W p l e rm_X10_readsEdges s m args below meth c H locs 0 0 (pm_Z G H0 M0 (pm_Pv Post) below args s rm_X10_readsEdges.cells rm_X10_readsEdges.slots) (F0 m 151 ls []) := by
  have hx := E.1
  have hb := E.2.1
  have hown := E.2.2.2.1
  have hts := E.2.2.2.2.1
  intro n
  induction n with
  | zero =>
    intro v6 M H locs ls hX hI t_v0 hl hw
    unfold w_X10_readsEdges_151 at hw
    exact hw.elim
  | succ n ih =>
    intro v6 M H locs ls hX hI t_v0 hl hw
    unfold w_X10_readsEdges_151 at hw
    refine lv_iload hx hb dX10_readsEdges_151 (lv_at hl 6 rfl) ?_
    refine lv_bipush (v := (16 : Int32)) hx hb dX10_readsEdges_153 (by decide) ?_
    refine lv_icmp_ge (tgt := 195) hx hb dX10_readsEdges_155 (by decide) (fun h_1 => ?_) (fun h_1 => ?_)
    · replace hw := hw.1 h_1
      exact c_X10_readsEdges_195 E hret hk_46 hk_86 hX hI t_v0 (lv_sub hl [0, 1, 2, 3] rfl) hw
    · replace hw := hw.2 h_1
      refine lv_aload_n hx hb dX10_readsEdges_158 rfl (lv_at hl 0 rfl) ?_
      obtain ⟨q_2, e_q_2, hw⟩ := hw
      refine gf_X10_63 E hI t_v0 dX10_readsEdges_159 e_q_2 (fun t_q_2 => ?_)
      refine lv_iload hx hb dX10_readsEdges_162 (lv_at hl 6 rfl) ?_
      refine lv_aload_n hx hb dX10_readsEdges_164 rfl (lv_at hl 0 rfl) ?_
      refine gf_X10_63 E hI t_v0 dX10_readsEdges_165 e_q_2 (fun _ => ?_)
      refine lv_iload hx hb dX10_readsEdges_168 (lv_at hl 6 rfl) ?_
      obtain ⟨h_3, hw⟩ := hw
      refine pm_iald E hI t_q_2 h_3 dX10_readsEdges_170 ?_
      refine lv_iload hx hb dX10_readsEdges_171 (lv_at hl 4 rfl) ?_
      refine lv_icmp_ne (tgt := 181) hx hb dX10_readsEdges_173 (by decide) (fun h_4 => ?_) (fun h_4 => ?_)
      · replace hw := hw.1 h_4
        refine lv_aload_n hx hb dX10_readsEdges_181 rfl (lv_at hl 0 rfl) ?_
        refine gf_X10_63 E hI t_v0 dX10_readsEdges_182 e_q_2 (fun _ => ?_)
        refine lv_iload hx hb dX10_readsEdges_185 (lv_at hl 6 rfl) ?_
        obtain ⟨h_5, hw⟩ := hw
        refine pm_iald E hI t_q_2 h_5 dX10_readsEdges_187 ?_
        exact c_X10_readsEdges_188 E hret hk_46 hk_86 ih hX hI t_v0 t_q_2 (lv_sub hl [0, 1, 2, 3, 4, 5, 6] rfl) hw
      · replace hw := hw.2 h_4
        refine lv_iload hx hb dX10_readsEdges_176 (lv_at hl 5 rfl) ?_
        refine lv_goto (tgt := 188) hx hb dX10_readsEdges_178 (by decide) ?_
        exact c_X10_readsEdges_188 E hret hk_46 hk_86 ih hX hI t_v0 t_q_2 (lv_sub hl [0, 1, 2, 3, 4, 5, 6] rfl) hw
set_option maxHeartbeats 4000000 in
set_option maxRecDepth 100000 in
theorem c_X10_readsEdges_147 {p : Program} {l : Launch} {e : Env} {s : State} {m : MethodId} {args : Array Value} {below : List Frame} {meth : Method} {c : Code} {G : pm_G} {H0 : Heap} {M0 : pm_M} {Post : pm_M → Prop} {v0 : Nat} {v1 : Int32} {v3 : Int32} {v4 : Int32} {v5 : Int32} {s0 : Int32} {M : pm_M} {k_46 : Int32 → pm_M → Prop} {k_86 : Int32 → Int32 → pm_M → Prop} (E : pm_E G p s m args meth c cX10_readsEdges 7 RX10) (hret : meth.sig.returnType = none) (hk_46 : ∀ (v1 : Int32) (M : pm_M) (H : Heap) (locs : List Loc) (ls : Array Slot), pm_X M0 M → pm_I G H0 M H locs → (pm_is M v0 9) → lv_has ls 7 [(0, .ref (H0.size + v0)), (1, .int v1)] → k_46 v1 M → W p l e rm_X10_readsEdges s m args below meth c H locs 0 0 (pm_Z G H0 M0 (pm_Pv Post) below args s rm_X10_readsEdges.cells rm_X10_readsEdges.slots) (F0 m 46 ls [])) (hk_86 : ∀ (v2 : Int32) (v3 : Int32) (M : pm_M) (H : Heap) (locs : List Loc) (ls : Array Slot), pm_X M0 M → pm_I G H0 M H locs → (pm_is M v0 9) → lv_has ls 7 [(0, .ref (H0.size + v0)), (1, .int v1), (2, .int v2), (3, .int v3)] → k_86 v2 v3 M → W p l e rm_X10_readsEdges s m args below meth c H locs 0 0 (pm_Z G H0 M0 (pm_Pv Post) below args s rm_X10_readsEdges.cells rm_X10_readsEdges.slots) (F0 m 86 ls [])) {H : Heap} {locs : List Loc} {ls : Array Slot} (hX : pm_X M0 M) (hI : pm_I G H0 M H locs) (t_v0 : pm_is M v0 9) (hl : lv_has ls 7 [(0, .ref (H0.size + v0)), (1, .int v1), (3, .int v3), (4, .int v4), (5, .int v5)]) (hw : w_X10_readsEdges_147 Post k_46 k_86 v0 v1 v3 v4 v5 s0 M) : W p l e rm_X10_readsEdges s m args below meth c H locs 0 0 (pm_Z G H0 M0 (pm_Pv Post) below args s rm_X10_readsEdges.cells rm_X10_readsEdges.slots) (F0 m 147 ls [.int s0]) := by
  have hx := E.1
  have hb := E.2.1
  have hown := E.2.2.2.1
  have hts := E.2.2.2.2.1
  unfold w_X10_readsEdges_147 at hw
  refine lv_istore_n (lv' := [(2, .int s0), (0, .ref (H0.size + v0)), (1, .int v1), (3, .int v3), (4, .int v4), (5, .int v5)]) hx hb dX10_readsEdges_147 rfl hl (by decide) rfl (fun ls hl_1 => ?_)
  refine lv_iconst (v := (0 : Int32)) hx hb dX10_readsEdges_148 (by decide) ?_
  refine lv_istore (lv' := [(6, .int (0 : Int32)), (2, .int s0), (0, .ref (H0.size + v0)), (1, .int v1), (3, .int v3), (4, .int v4), (5, .int v5)]) hx hb dX10_readsEdges_149 hl_1 (by decide) rfl (fun ls hl_2 => ?_)
  obtain ⟨n_3, hw⟩ := hw
  exact c_X10_readsEdges_151 E hret hk_46 hk_86 n_3 _ _ _ _ _ hX hI t_v0 (lv_sub hl_2 [2, 3, 1, 4, 5, 6, 0] rfl) hw
set_option maxHeartbeats 4000000 in
set_option maxRecDepth 100000 in
theorem c_X10_readsEdges_146 {p : Program} {l : Launch} {e : Env} {s : State} {m : MethodId} {args : Array Value} {below : List Frame} {meth : Method} {c : Code} {G : pm_G} {H0 : Heap} {M0 : pm_M} {Post : pm_M → Prop} {v0 : Nat} {v1 : Int32} {v3 : Int32} {v4 : Int32} {v5 : Int32} {M : pm_M} {k_46 : Int32 → pm_M → Prop} {k_86 : Int32 → Int32 → pm_M → Prop} (E : pm_E G p s m args meth c cX10_readsEdges 7 RX10) (hret : meth.sig.returnType = none) (hk_46 : ∀ (v1 : Int32) (M : pm_M) (H : Heap) (locs : List Loc) (ls : Array Slot), pm_X M0 M → pm_I G H0 M H locs → (pm_is M v0 9) → lv_has ls 7 [(0, .ref (H0.size + v0)), (1, .int v1)] → k_46 v1 M → W p l e rm_X10_readsEdges s m args below meth c H locs 0 0 (pm_Z G H0 M0 (pm_Pv Post) below args s rm_X10_readsEdges.cells rm_X10_readsEdges.slots) (F0 m 46 ls [])) (hk_86 : ∀ (v2 : Int32) (v3 : Int32) (M : pm_M) (H : Heap) (locs : List Loc) (ls : Array Slot), pm_X M0 M → pm_I G H0 M H locs → (pm_is M v0 9) → lv_has ls 7 [(0, .ref (H0.size + v0)), (1, .int v1), (2, .int v2), (3, .int v3)] → k_86 v2 v3 M → W p l e rm_X10_readsEdges s m args below meth c H locs 0 0 (pm_Z G H0 M0 (pm_Pv Post) below args s rm_X10_readsEdges.cells rm_X10_readsEdges.slots) (F0 m 86 ls [])) {H : Heap} {locs : List Loc} {ls : Array Slot} (hX : pm_X M0 M) (hI : pm_I G H0 M H locs) (t_v0 : pm_is M v0 9) (hl : lv_has ls 7 [(0, .ref (H0.size + v0)), (1, .int v1), (3, .int v3), (4, .int v4), (5, .int v5)]) (hw : w_X10_readsEdges_146 Post k_46 k_86 v0 v1 v3 v4 v5 M) : W p l e rm_X10_readsEdges s m args below meth c H locs 0 0 (pm_Z G H0 M0 (pm_Pv Post) below args s rm_X10_readsEdges.cells rm_X10_readsEdges.slots) (F0 m 146 ls []) := by
  have hx := E.1
  have hb := E.2.1
  have hown := E.2.2.2.1
  have hts := E.2.2.2.2.1
  unfold w_X10_readsEdges_146 at hw
  refine lv_iconst (v := (0 : Int32)) hx hb dX10_readsEdges_146 (by decide) ?_
  exact c_X10_readsEdges_147 E hret hk_46 hk_86 hX hI t_v0 (lv_sub hl [0, 1, 2, 3, 4] rfl) hw
set_option maxHeartbeats 4000000 in
set_option maxRecDepth 100000 in
theorem c_X10_readsEdges_86 {p : Program} {l : Launch} {e : Env} {s : State} {m : MethodId} {args : Array Value} {below : List Frame} {meth : Method} {c : Code} {G : pm_G} {H0 : Heap} {M0 : pm_M} {Post : pm_M → Prop} {v0 : Nat} {v1 : Int32} {k_46 : Int32 → pm_M → Prop} (E : pm_E G p s m args meth c cX10_readsEdges 7 RX10) (hret : meth.sig.returnType = none) (hk_46 : ∀ (v1 : Int32) (M : pm_M) (H : Heap) (locs : List Loc) (ls : Array Slot), pm_X M0 M → pm_I G H0 M H locs → (pm_is M v0 9) → lv_has ls 7 [(0, .ref (H0.size + v0)), (1, .int v1)] → k_46 v1 M → W p l e rm_X10_readsEdges s m args below meth c H locs 0 0 (pm_Z G H0 M0 (pm_Pv Post) below args s rm_X10_readsEdges.cells rm_X10_readsEdges.slots) (F0 m 46 ls [])) : ∀ (n : Nat) (v2 : Int32) (v3 : Int32) (M : pm_M) (H : Heap) (locs : List Loc) (ls : Array Slot), pm_X M0 M → pm_I G H0 M H locs → (pm_is M v0 9) → lv_has ls 7 [(0, .ref (H0.size + v0)), (1, .int v1), (2, .int v2), (3, .int v3)] → w_X10_readsEdges_86 Post k_46 v0 v1 n v2 v3 M → W p l e rm_X10_readsEdges s m args below meth c H locs 0 0 (pm_Z G H0 M0 (pm_Pv Post) below args s rm_X10_readsEdges.cells rm_X10_readsEdges.slots) (F0 m 86 ls []) := by
  have hx := E.1
  have hb := E.2.1
  have hown := E.2.2.2.1
  have hts := E.2.2.2.2.1
  intro n
  induction n with
  | zero =>
    intro v2 v3 M H locs ls hX hI t_v0 hl hw
    unfold w_X10_readsEdges_86 at hw
    exact hw.elim
  | succ n ih =>
    intro v2 v3 M H locs ls hX hI t_v0 hl hw
    unfold w_X10_readsEdges_86 at hw
    refine lv_iload_n hx hb dX10_readsEdges_86 rfl (lv_at hl 3 rfl) ?_
    refine lv_aload_n hx hb dX10_readsEdges_87 rfl (lv_at hl 0 rfl) ?_
    refine gf_X10_7 E hI t_v0 dX10_readsEdges_88 ?_
    refine lv_icmp_ge (tgt := 201) hx hb dX10_readsEdges_91 (by decide) (fun h_1 => ?_) (fun h_1 => ?_)
    · replace hw := hw.1 h_1
      refine lv_iload_n hx hb dX10_readsEdges_201 rfl (lv_at hl 2 rfl) ?_
      refine lv_if_eq (tgt := 210) hx hb dX10_readsEdges_202 (by decide) (fun h_2 => ?_) (fun h_2 => ?_)
      · replace hw := hw.1 h_2
        exact c_X10_readsEdges_210 E hret hk_46 hX hI t_v0 (lv_sub hl [0, 1] rfl) hw
      · replace hw := hw.2 h_2
        refine lv_aload_n hx hb dX10_readsEdges_205 rfl (lv_at hl 0 rfl) ?_
        refine lv_iload_n hx hb dX10_readsEdges_206 rfl (lv_at hl 1 rfl) ?_
        refine pm_callV (As := [.int v1]) (rest := []) 1 E hI (k_X10_allow t_v0 hw) t_v0 (by decide) rfl kc_X10_allow kl_X10_156 km_X10_allow ks_X10_allow ki_X10 (by decide +kernel) ⟨by decide, by decide⟩ rfl hl.1 rfl (by first | exact Nat.le_of_ble_eq_true rfl | (simp only [List.map, pm_rf_cat]; exact Nat.le_of_ble_eq_true rfl)) dX10_readsEdges_207 ⟨by decide, by decide⟩ (fun r9 M_3 H locs hp hX1 hI => ?_)
        clear hw
        obtain ⟨rfl, hw⟩ := hp
        replace t_v0 := t_v0.x hX1
        replace hX := hX.tr hX1
        refine pm_nrm (cells' := 0) (slots' := 0) (g2 := F0 m 210 ls []) rfl rfl rfl ?_
        exact c_X10_readsEdges_210 E hret hk_46 hX hI t_v0 (lv_sub hl [0, 1] rfl) hw
    · replace hw := hw.2 h_1
      refine lv_iload_n hx hb dX10_readsEdges_94 rfl (lv_at hl 1 rfl) ?_
      refine lv_iload_n hx hb dX10_readsEdges_95 rfl (lv_at hl 3 rfl) ?_
      refine lv_ishr hx hb dX10_readsEdges_96 ?_
      refine lv_iconst (v := (1 : Int32)) hx hb dX10_readsEdges_97 (by decide) ?_
      refine lv_iand hx hb dX10_readsEdges_98 ?_
      refine lv_if_ne (tgt := 105) hx hb dX10_readsEdges_99 (by decide) (fun h_4 => ?_) (fun h_4 => ?_)
      · replace hw := hw.1 h_4
        refine lv_aload_n hx hb dX10_readsEdges_105 rfl (lv_at hl 0 rfl) ?_
        obtain ⟨q_5, e_q_5, hw⟩ := hw
        refine gf_X10_63 E hI t_v0 dX10_readsEdges_106 e_q_5 (fun t_q_5 => ?_)
        refine lv_aload_n hx hb dX10_readsEdges_109 rfl (lv_at hl 0 rfl) ?_
        obtain ⟨q_6, e_q_6, hw⟩ := hw
        refine gf_X10_57 E hI t_v0 dX10_readsEdges_110 e_q_6 (fun t_q_6 => ?_)
        refine lv_iload_n hx hb dX10_readsEdges_113 rfl (lv_at hl 3 rfl) ?_
        obtain ⟨h_7, hw⟩ := hw
        refine pm_iald E hI t_q_6 h_7 dX10_readsEdges_114 ?_
        obtain ⟨h_8, hw⟩ := hw
        refine pm_iald E hI t_q_5 h_8 dX10_readsEdges_115 ?_
        refine lv_topi (fun x_9 e_x_9 => ?_)
        replace hw := hw x_9 e_x_9
        refine lv_istore (lv' := [(4, .int x_9), (0, .ref (H0.size + v0)), (1, .int v1), (2, .int v2), (3, .int v3)]) hx hb dX10_readsEdges_116 hl (by decide) rfl (fun ls hl_10 => ?_)
        refine lv_aload_n hx hb dX10_readsEdges_118 rfl (lv_at hl_10 1 rfl) ?_
        refine gf_X10_63 E hI t_v0 dX10_readsEdges_119 e_q_5 (fun _ => ?_)
        refine lv_aload_n hx hb dX10_readsEdges_122 rfl (lv_at hl_10 1 rfl) ?_
        obtain ⟨q_11, e_q_11, hw⟩ := hw
        refine gf_X10_60 E hI t_v0 dX10_readsEdges_123 e_q_11 (fun t_q_11 => ?_)
        refine lv_iload_n hx hb dX10_readsEdges_126 rfl (lv_at hl_10 4 rfl) ?_
        obtain ⟨h_12, hw⟩ := hw
        refine pm_iald E hI t_q_11 h_12 dX10_readsEdges_127 ?_
        obtain ⟨h_13, hw⟩ := hw
        refine pm_iald E hI t_q_5 h_13 dX10_readsEdges_128 ?_
        refine lv_topi (fun x_14 e_x_14 => ?_)
        replace hw := hw x_14 e_x_14
        refine lv_istore (lv' := [(5, .int x_14), (4, .int x_9), (0, .ref (H0.size + v0)), (1, .int v1), (2, .int v2), (3, .int v3)]) hx hb dX10_readsEdges_129 hl_10 (by decide) rfl (fun ls hl_15 => ?_)
        refine lv_iload_n hx hb dX10_readsEdges_131 rfl (lv_at hl_15 4 rfl) ?_
        refine lv_if_eq (tgt := 146) hx hb dX10_readsEdges_132 (by decide) (fun h_16 => ?_) (fun h_16 => ?_)
        · replace hw := hw.1 h_16
          exact c_X10_readsEdges_146 E hret hk_46 ih hX hI t_v0 (lv_sub hl_15 [2, 3, 5, 1, 0] rfl) hw
        · replace hw := hw.2 h_16
          refine lv_iload hx hb dX10_readsEdges_135 (lv_at hl_15 1 rfl) ?_
          refine lv_iload hx hb dX10_readsEdges_137 (lv_at hl_15 0 rfl) ?_
          refine lv_icmp_eq (tgt := 146) hx hb dX10_readsEdges_139 (by decide) (fun h_17 => ?_) (fun h_17 => ?_)
          · replace hw := hw.1 h_17
            exact c_X10_readsEdges_146 E hret hk_46 ih hX hI t_v0 (lv_sub hl_15 [2, 3, 5, 1, 0] rfl) hw
          · replace hw := hw.2 h_17
            refine lv_iconst (v := (1 : Int32)) hx hb dX10_readsEdges_142 (by decide) ?_
            refine lv_goto (tgt := 147) hx hb dX10_readsEdges_143 (by decide) ?_
            exact c_X10_readsEdges_147 E hret hk_46 ih hX hI t_v0 (lv_sub hl_15 [2, 3, 5, 1, 0] rfl) hw
      · replace hw := hw.2 h_4
        refine lv_goto (tgt := 195) hx hb dX10_readsEdges_102 (by decide) ?_
        exact c_X10_readsEdges_195 E hret hk_46 ih hX hI t_v0 (lv_sub hl [0, 1, 2, 3] rfl) hw
set_option maxHeartbeats 4000000 in
set_option maxRecDepth 100000 in
theorem c_X10_readsEdges_63 {p : Program} {l : Launch} {e : Env} {s : State} {m : MethodId} {args : Array Value} {below : List Frame} {meth : Method} {c : Code} {G : pm_G} {H0 : Heap} {M0 : pm_M} {Post : pm_M → Prop} {v0 : Nat} {v1 : Int32} {k_46 : Int32 → pm_M → Prop} (E : pm_E G p s m args meth c cX10_readsEdges 7 RX10) (hret : meth.sig.returnType = none) (hk_46 : ∀ (v1 : Int32) (M : pm_M) (H : Heap) (locs : List Loc) (ls : Array Slot), pm_X M0 M → pm_I G H0 M H locs → (pm_is M v0 9) → lv_has ls 7 [(0, .ref (H0.size + v0)), (1, .int v1)] → k_46 v1 M → W p l e rm_X10_readsEdges s m args below meth c H locs 0 0 (pm_Z G H0 M0 (pm_Pv Post) below args s rm_X10_readsEdges.cells rm_X10_readsEdges.slots) (F0 m 46 ls [])) : ∀ (n : Nat) (v2 : Int32) (M : pm_M) (H : Heap) (locs : List Loc) (ls : Array Slot), pm_X M0 M → pm_I G H0 M H locs → (pm_is M v0 9) → lv_has ls 7 [(0, .ref (H0.size + v0)), (1, .int v1), (2, .int v2)] → w_X10_readsEdges_63 Post k_46 v0 v1 n v2 M → W p l e rm_X10_readsEdges s m args below meth c H locs 0 0 (pm_Z G H0 M0 (pm_Pv Post) below args s rm_X10_readsEdges.cells rm_X10_readsEdges.slots) (F0 m 63 ls []) := by
  have hx := E.1
  have hb := E.2.1
  have hown := E.2.2.2.1
  have hts := E.2.2.2.2.1
  intro n
  induction n with
  | zero =>
    intro v2 M H locs ls hX hI t_v0 hl hw
    unfold w_X10_readsEdges_63 at hw
    exact hw.elim
  | succ n ih =>
    intro v2 M H locs ls hX hI t_v0 hl hw
    unfold w_X10_readsEdges_63 at hw
    refine lv_iload_n hx hb dX10_readsEdges_63 rfl (lv_at hl 2 rfl) ?_
    refine lv_bipush (v := (16 : Int32)) hx hb dX10_readsEdges_64 (by decide) ?_
    refine lv_icmp_ge (tgt := 82) hx hb dX10_readsEdges_66 (by decide) (fun h_1 => ?_) (fun h_1 => ?_)
    · replace hw := hw.1 h_1
      refine lv_iconst (v := (1 : Int32)) hx hb dX10_readsEdges_82 (by decide) ?_
      refine lv_istore_n (lv' := [(2, .int (1 : Int32)), (0, .ref (H0.size + v0)), (1, .int v1)]) hx hb dX10_readsEdges_83 rfl hl (by decide) rfl (fun ls hl_2 => ?_)
      refine lv_iconst (v := (0 : Int32)) hx hb dX10_readsEdges_84 (by decide) ?_
      refine lv_istore_n (lv' := [(3, .int (0 : Int32)), (2, .int (1 : Int32)), (0, .ref (H0.size + v0)), (1, .int v1)]) hx hb dX10_readsEdges_85 rfl hl_2 (by decide) rfl (fun ls hl_3 => ?_)
      obtain ⟨n_4, hw⟩ := hw
      exact c_X10_readsEdges_86 E hret hk_46 n_4 _ _ _ _ _ _ hX hI t_v0 (lv_sub hl_3 [2, 3, 1, 0] rfl) hw
    · replace hw := hw.2 h_1
      refine lv_aload_n hx hb dX10_readsEdges_69 rfl (lv_at hl 0 rfl) ?_
      obtain ⟨q_5, e_q_5, hw⟩ := hw
      refine gf_X10_63 E hI t_v0 dX10_readsEdges_70 e_q_5 (fun t_q_5 => ?_)
      refine lv_iload_n hx hb dX10_readsEdges_73 rfl (lv_at hl 2 rfl) ?_
      refine lv_iload_n hx hb dX10_readsEdges_74 rfl (lv_at hl 2 rfl) ?_
      obtain ⟨h_6, hw⟩ := hw
      refine ps_iast E hI t_q_5 h_6 dX10_readsEdges_75 (fun H locs M_7 e_M_7 hX1 hI => ?_)
      replace hw := hw M_7 e_M_7
      replace t_v0 := t_v0.x hX1
      replace hX := hX.tr hX1
      obtain ⟨x_8, e_x_8⟩ : ∃ z : Int32, z = v2 + (1 : Int32) := ⟨_, rfl⟩
      refine lv_iinc (v := x_8) (lv' := [(2, .int x_8), (0, .ref (H0.size + v0)), (1, .int v1)]) hx hb dX10_readsEdges_76 hl (k := 2) rfl (by rw [e_x_8]; rfl) (by decide) rfl (fun ls hl_9 => ?_)
      replace hw := hw x_8 e_x_8
      refine lv_goto (tgt := 63) hx hb dX10_readsEdges_79 (by decide) ?_
      exact ih _ _ _ _ _ hX hI t_v0 (lv_sub hl_9 [1, 2, 0] rfl) hw
set_option maxHeartbeats 4000000 in
set_option maxRecDepth 100000 in
theorem c_X10_readsEdges_46 {p : Program} {l : Launch} {e : Env} {s : State} {m : MethodId} {args : Array Value} {below : List Frame} {meth : Method} {c : Code} {G : pm_G} {H0 : Heap} {M0 : pm_M} {Post : pm_M → Prop} {v0 : Nat} (E : pm_E G p s m args meth c cX10_readsEdges 7 RX10) (hret : meth.sig.returnType = none) : ∀ (n : Nat) (v1 : Int32) (M : pm_M) (H : Heap) (locs : List Loc) (ls : Array Slot), pm_X M0 M → pm_I G H0 M H locs → (pm_is M v0 9) → lv_has ls 7 [(0, .ref (H0.size + v0)), (1, .int v1)] → w_X10_readsEdges_46 Post v0 n v1 M → W p l e rm_X10_readsEdges s m args below meth c H locs 0 0 (pm_Z G H0 M0 (pm_Pv Post) below args s rm_X10_readsEdges.cells rm_X10_readsEdges.slots) (F0 m 46 ls []) := by
  have hx := E.1
  have hb := E.2.1
  have hown := E.2.2.2.1
  have hts := E.2.2.2.2.1
  intro n
  induction n with
  | zero =>
    intro v1 M H locs ls hX hI t_v0 hl hw
    unfold w_X10_readsEdges_46 at hw
    exact hw.elim
  | succ n ih =>
    intro v1 M H locs ls hX hI t_v0 hl hw
    unfold w_X10_readsEdges_46 at hw
    refine lv_iload_n hx hb dX10_readsEdges_46 rfl (lv_at hl 1 rfl) ?_
    refine lv_aload_n hx hb dX10_readsEdges_47 rfl (lv_at hl 0 rfl) ?_
    refine gf_X10_13 E hI t_v0 dX10_readsEdges_48 ?_
    refine lv_icmp_gt (tgt := 216) hx hb dX10_readsEdges_51 (by decide) (fun h_1 => ?_) (fun h_1 => ?_)
    · replace hw := hw.1 h_1
      exact c_X10_readsEdges_216 E hret hX hI (lv_sub hl [] rfl) hw
    · replace hw := hw.2 h_1
      refine lv_aload_n hx hb dX10_readsEdges_54 rfl (lv_at hl 0 rfl) ?_
      refine gf_X10_116 E hI t_v0 dX10_readsEdges_55 ?_
      refine lv_if_ne (tgt := 216) hx hb dX10_readsEdges_58 (by decide) (fun h_2 => ?_) (fun h_2 => ?_)
      · replace hw := hw.1 h_2
        exact c_X10_readsEdges_216 E hret hX hI (lv_sub hl [] rfl) hw
      · replace hw := hw.2 h_2
        refine lv_iconst (v := (0 : Int32)) hx hb dX10_readsEdges_61 (by decide) ?_
        refine lv_istore_n (lv' := [(2, .int (0 : Int32)), (0, .ref (H0.size + v0)), (1, .int v1)]) hx hb dX10_readsEdges_62 rfl hl (by decide) rfl (fun ls hl_3 => ?_)
        obtain ⟨n_4, hw⟩ := hw
        exact c_X10_readsEdges_63 E hret ih n_4 _ _ _ _ _ hX hI t_v0 (lv_sub hl_3 [1, 2, 0] rfl) hw
set_option maxHeartbeats 4000000 in
set_option maxRecDepth 100000 in
theorem c_X10_readsEdges_2 {p : Program} {l : Launch} {e : Env} {s : State} {m : MethodId} {args : Array Value} {below : List Frame} {meth : Method} {c : Code} {G : pm_G} {H0 : Heap} {M0 : pm_M} {Post : pm_M → Prop} {v0 : Nat} (E : pm_E G p s m args meth c cX10_readsEdges 7 RX10) (hret : meth.sig.returnType = none) : ∀ (n : Nat) (v1 : Int32) (M : pm_M) (H : Heap) (locs : List Loc) (ls : Array Slot), pm_X M0 M → pm_I G H0 M H locs → (pm_is M v0 9) → lv_has ls 7 [(0, .ref (H0.size + v0)), (1, .int v1)] → w_X10_readsEdges_2 Post v0 n v1 M → W p l e rm_X10_readsEdges s m args below meth c H locs 0 0 (pm_Z G H0 M0 (pm_Pv Post) below args s rm_X10_readsEdges.cells rm_X10_readsEdges.slots) (F0 m 2 ls []) := by
  have hx := E.1
  have hb := E.2.1
  have hown := E.2.2.2.1
  have hts := E.2.2.2.2.1
  intro n
  induction n with
  | zero =>
    intro v1 M H locs ls hX hI t_v0 hl hw
    unfold w_X10_readsEdges_2 at hw
    exact hw.elim
  | succ n ih =>
    intro v1 M H locs ls hX hI t_v0 hl hw
    unfold w_X10_readsEdges_2 at hw
    refine lv_iload_n hx hb dX10_readsEdges_2 rfl (lv_at hl 1 rfl) ?_
    refine lv_aload_n hx hb dX10_readsEdges_3 rfl (lv_at hl 0 rfl) ?_
    refine gf_X10_7 E hI t_v0 dX10_readsEdges_4 ?_
    refine lv_icmp_ge (tgt := 44) hx hb dX10_readsEdges_7 (by decide) (fun h_1 => ?_) (fun h_1 => ?_)
    · replace hw := hw.1 h_1
      refine lv_iconst (v := (0 : Int32)) hx hb dX10_readsEdges_44 (by decide) ?_
      refine lv_istore_n (lv' := [(1, .int (0 : Int32)), (0, .ref (H0.size + v0))]) hx hb dX10_readsEdges_45 rfl hl (by decide) rfl (fun ls hl_2 => ?_)
      obtain ⟨n_3, hw⟩ := hw
      exact c_X10_readsEdges_46 E hret n_3 _ _ _ _ _ hX hI t_v0 (lv_sub hl_2 [1, 0] rfl) hw
    · replace hw := hw.2 h_1
      refine lv_aload_n hx hb dX10_readsEdges_10 rfl (lv_at hl 0 rfl) ?_
      obtain ⟨q_4, e_q_4, hw⟩ := hw
      refine gf_X10_57 E hI t_v0 dX10_readsEdges_11 e_q_4 (fun t_q_4 => ?_)
      refine lv_iload_n hx hb dX10_readsEdges_14 rfl (lv_at hl 1 rfl) ?_
      refine lv_aload_n hx hb dX10_readsEdges_15 rfl (lv_at hl 0 rfl) ?_
      refine lv_lconst (v := (0 : Int64)) hx hb dX10_readsEdges_16 (by decide) ?_
      refine lv_ldc2 (v := (15 : Int64)) hx hb hown (hts _ kl_X10_172) dX10_readsEdges_17 ?_
      refine pm_callV (As := [.long (0 : Int64), .long (15 : Int64)]) (rest := [.int v1, .ref (H0.size + q_4)]) 2 E hI (k_X10_next t_v0 hw) t_v0 (by decide) rfl kc_X10_next kl_X10_152 km_X10_next ks_X10_next ki_X10 (by decide +kernel) ⟨by decide, by decide⟩ rfl hl.1 rfl (by first | exact Nat.le_of_ble_eq_true rfl | (simp only [List.map, pm_rf_cat]; exact Nat.le_of_ble_eq_true rfl)) dX10_readsEdges_20 ⟨by decide, by decide⟩ (fun r9 M_5 H locs hp hX1 hI => ?_)
      clear hw
      obtain ⟨r_6, rfl, hw⟩ := hp
      replace t_v0 := t_v0.x hX1
      replace t_q_4 := t_q_4.x hX1
      replace hX := hX.tr hX1
      refine pm_nrm (cells' := 0) (slots' := 0) (g2 := F0 m 23 ls [.int r_6, .int v1, .ref (H0.size + q_4)]) rfl rfl rfl ?_
      obtain ⟨h_7, hw⟩ := hw
      refine ps_iast E hI t_q_4 h_7 dX10_readsEdges_23 (fun H locs M_8 e_M_8 hX1 hI => ?_)
      replace hw := hw M_8 e_M_8
      replace t_v0 := t_v0.x hX1
      replace hX := hX.tr hX1
      refine lv_aload_n hx hb dX10_readsEdges_24 rfl (lv_at hl 0 rfl) ?_
      obtain ⟨q_9, e_q_9, hw⟩ := hw
      refine gf_X10_60 E hI t_v0 dX10_readsEdges_25 e_q_9 (fun t_q_9 => ?_)
      refine lv_iload_n hx hb dX10_readsEdges_28 rfl (lv_at hl 1 rfl) ?_
      refine lv_aload_n hx hb dX10_readsEdges_29 rfl (lv_at hl 0 rfl) ?_
      refine lv_lconst (v := (0 : Int64)) hx hb dX10_readsEdges_30 (by decide) ?_
      refine lv_ldc2 (v := (15 : Int64)) hx hb hown (hts _ kl_X10_172) dX10_readsEdges_31 ?_
      refine pm_callV (As := [.long (0 : Int64), .long (15 : Int64)]) (rest := [.int v1, .ref (H0.size + q_9)]) 2 E hI (k_X10_next t_v0 hw) t_v0 (by decide) rfl kc_X10_next kl_X10_152 km_X10_next ks_X10_next ki_X10 (by decide +kernel) ⟨by decide, by decide⟩ rfl hl.1 rfl (by first | exact Nat.le_of_ble_eq_true rfl | (simp only [List.map, pm_rf_cat]; exact Nat.le_of_ble_eq_true rfl)) dX10_readsEdges_34 ⟨by decide, by decide⟩ (fun r9 M_10 H locs hp hX1 hI => ?_)
      clear hw
      obtain ⟨r_11, rfl, hw⟩ := hp
      replace t_v0 := t_v0.x hX1
      replace t_q_9 := t_q_9.x hX1
      replace hX := hX.tr hX1
      refine pm_nrm (cells' := 0) (slots' := 0) (g2 := F0 m 37 ls [.int r_11, .int v1, .ref (H0.size + q_9)]) rfl rfl rfl ?_
      obtain ⟨h_12, hw⟩ := hw
      refine ps_iast E hI t_q_9 h_12 dX10_readsEdges_37 (fun H locs M_13 e_M_13 hX1 hI => ?_)
      replace hw := hw M_13 e_M_13
      replace t_v0 := t_v0.x hX1
      replace hX := hX.tr hX1
      obtain ⟨x_14, e_x_14⟩ : ∃ z : Int32, z = v1 + (1 : Int32) := ⟨_, rfl⟩
      refine lv_iinc (v := x_14) (lv' := [(1, .int x_14), (0, .ref (H0.size + v0))]) hx hb dX10_readsEdges_38 hl (k := 1) rfl (by rw [e_x_14]; rfl) (by decide) rfl (fun ls hl_15 => ?_)
      replace hw := hw x_14 e_x_14
      refine lv_goto (tgt := 2) hx hb dX10_readsEdges_41 (by decide) ?_
      exact ih _ _ _ _ _ hX hI t_v0 (lv_sub hl_15 [1, 0] rfl) hw
set_option maxHeartbeats 4000000 in
set_option maxRecDepth 100000 in
theorem k_X10_readsEdges {l : Launch} {G : pm_G} {H0 : Heap} {th : Nat} {M : pm_M} {Post : pm_M → Prop} (t_th : pm_is M th 9) (hw : w_X10_readsEdges th M Post) : pm_C l G H0 yX10_readsEdges cX10_readsEdges 7 none rm_X10_readsEdges [.ref (H0.size + th)] M (pm_Pv Post) := by
  refine pm_start (by decide +kernel) (Nat.le_of_ble_eq_true rfl) ?_
  intro p e s m args below meth c H ls E hret hnm hI hl
  have hX : pm_X M M := pm_X.rf
  have hl : lv_has ls 7 [(0, .ref (H0.size + th))] := hl
  have hx := E.1
  have hb := E.2.1
  have hown := E.2.2.2.1
  have hts := E.2.2.2.2.1
  unfold w_X10_readsEdges at hw
  refine lv_iconst (v := (0 : Int32)) hx hb dX10_readsEdges_0 (by decide) ?_
  refine lv_istore_n (lv' := [(1, .int (0 : Int32)), (0, .ref (H0.size + th))]) hx hb dX10_readsEdges_1 rfl hl (by decide) rfl (fun ls hl_1 => ?_)
  obtain ⟨n_2, hw⟩ := hw
  exact c_X10_readsEdges_2 E hret n_2 _ _ _ _ _ hX hI t_th (lv_sub hl_1 [1, 0] rfl) hw
