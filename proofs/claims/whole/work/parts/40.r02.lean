set_option maxHeartbeats 4000000 in
set_option maxRecDepth 100000 in
theorem c_X7_listSets_58 {p : Program} {l : Launch} {e : Env} {s : State} {m : MethodId} {args : Array Value} {below : List Frame} {meth : Method} {c : Code} {G : pm_G} {H0 : Heap} {M0 : pm_M} {Post : pm_M → Prop} {M : pm_M} (E : pm_E G p s m args meth c cX7_listSets 3 RX7) (hret : meth.sig.returnType = none) {H : Heap} {locs : List Loc} {ls : Array Slot} (hX : pm_X M0 M) (hI : pm_I G H0 M H locs) (hl : lv_has ls 3 []) (hw : w_X7_listSets_58 Post M) : W p l e rm_X7_listSets s m args below meth c H locs 0 0 (pm_Z G H0 M0 (pm_Pv Post) below args s rm_X7_listSets.cells rm_X7_listSets.slots) (F0 m 58 ls []) := by
  have hx := E.1
  have hb := E.2.1
  have hown := E.2.2.2.1
  have hts := E.2.2.2.2.1
  unfold w_X7_listSets_58 at hw
  exact pm_vret E hret hI hX ⟨rfl, hw⟩ (by decide) (by decide) dX7_listSets_58
set_option maxHeartbeats 4000000 in
set_option maxRecDepth 100000 in
theorem c_X7_listSets_52 {p : Program} {l : Launch} {e : Env} {s : State} {m : MethodId} {args : Array Value} {below : List Frame} {meth : Method} {c : Code} {G : pm_G} {H0 : Heap} {M0 : pm_M} {Post : pm_M → Prop} {v0 : Nat} {v1 : Int32} {v2 : Int32} {M : pm_M} {k_7 : Int32 → pm_M → Prop} (E : pm_E G p s m args meth c cX7_listSets 3 RX7) (hret : meth.sig.returnType = none) (hk_7 : ∀ (v2 : Int32) (M : pm_M) (H : Heap) (locs : List Loc) (ls : Array Slot), pm_X M0 M → pm_I G H0 M H locs → (pm_is M v0 6) → lv_has ls 3 [(0, .ref (H0.size + v0)), (1, .int v1), (2, .int v2)] → k_7 v2 M → W p l e rm_X7_listSets s m args below meth c H locs 0 0 (pm_Z G H0 M0 (pm_Pv Post) below args s rm_X7_listSets.cells rm_X7_listSets.slots) (F0 m 7 ls [])) {H : Heap} {locs : List Loc} {ls : Array Slot} (hX : pm_X M0 M) (hI : pm_I G H0 M H locs) (t_v0 : pm_is M v0 6) (hl : lv_has ls 3 [(0, .ref (H0.size + v0)), (1, .int v1), (2, .int v2)]) (hw : w_X7_listSets_52 Post k_7 v0 v1 v2 M) : W p l e rm_X7_listSets s m args below meth c H locs 0 0 (pm_Z G H0 M0 (pm_Pv Post) below args s rm_X7_listSets.cells rm_X7_listSets.slots) (F0 m 52 ls []) := by
  have hx := E.1
  have hb := E.2.1
  have hown := E.2.2.2.1
  have hts := E.2.2.2.2.1
  unfold w_X7_listSets_52 at hw
  obtain ⟨x_1, e_x_1⟩ : ∃ z : Int32, z = v2 + (1 : Int32) := ⟨_, rfl⟩
  refine lv_iinc (v := x_1) (lv' := [(2, .int x_1), (0, .ref (H0.size + v0)), (1, .int v1)]) hx hb dX7_listSets_52 hl (k := 2) rfl (by rw [e_x_1]; rfl) (by decide) rfl (fun ls hl_2 => ?_)
  replace hw := hw x_1 e_x_1
  refine lv_goto (tgt := 7) hx hb dX7_listSets_55 (by decide) ?_
  exact hk_7 _ _ _ _ _ hX hI t_v0 (lv_sub hl_2 [1, 2, 0] rfl) hw
set_option maxHeartbeats 4000000 in
set_option maxRecDepth 100000 in
theorem c_X7_listSets_7 {p : Program} {l : Launch} {e : Env} {s : State} {m : MethodId} {args : Array Value} {below : List Frame} {meth : Method} {c : Code} {G : pm_G} {H0 : Heap} {M0 : pm_M} {Post : pm_M → Prop} {v0 : Nat} {v1 : Int32} (E : pm_E G p s m args meth c cX7_listSets 3 RX7) (hret : meth.sig.returnType = none) : ∀ (n : Nat) (v2 : Int32) (M : pm_M) (H : Heap) (locs : List Loc) (ls : Array Slot), pm_X M0 M → pm_I G H0 M H locs → (pm_is M v0 6) → lv_has ls 3 [(0, .ref (H0.size + v0)), (1, .int v1), (2, .int v2)] → w_X7_listSets_7 Post v0 v1 n v2 M → W p l e rm_X7_listSets s m args below meth c H locs 0 0 (pm_Z G H0 M0 (pm_Pv Post) below args s rm_X7_listSets.cells rm_X7_listSets.slots) (F0 m 7 ls []) := by
  have hx := E.1
  have hb := E.2.1
  have hown := E.2.2.2.1
  have hts := E.2.2.2.2.1
  intro n
  induction n with
  | zero =>
    intro v2 M H locs ls hX hI t_v0 hl hw
    unfold w_X7_listSets_7 at hw
    exact hw.elim
  | succ n ih =>
    intro v2 M H locs ls hX hI t_v0 hl hw
    unfold w_X7_listSets_7 at hw
    refine lv_iload_n hx hb dX7_listSets_7 rfl (lv_at hl 2 rfl) ?_
    refine lv_iload_n hx hb dX7_listSets_8 rfl (lv_at hl 1 rfl) ?_
    refine lv_icmp_gt (tgt := 58) hx hb dX7_listSets_9 (by decide) (fun h_1 => ?_) (fun h_1 => ?_)
    · replace hw := hw.1 h_1
      exact c_X7_listSets_58 E hret hX hI (lv_sub hl [] rfl) hw
    · replace hw := hw.2 h_1
      refine lv_aload_n hx hb dX7_listSets_12 rfl (lv_at hl 0 rfl) ?_
      refine gf_X7_54 E hI t_v0 dX7_listSets_13 ?_
      refine lv_aload_n hx hb dX7_listSets_16 rfl (lv_at hl 0 rfl) ?_
      obtain ⟨q_2, e_q_2, hw⟩ := hw
      refine gf_X7_15 E hI t_v0 dX7_listSets_17 e_q_2 (fun t_q_2 => ?_)
      refine ps_alenI E hI t_q_2 dX7_listSets_20 ?_
      refine lv_icmp_ge (tgt := 58) hx hb dX7_listSets_21 (by decide) (fun h_3 => ?_) (fun h_3 => ?_)
      · replace hw := hw.1 h_3
        exact c_X7_listSets_58 E hret hX hI (lv_sub hl [] rfl) hw
      · replace hw := hw.2 h_3
        refine lv_aload_n hx hb dX7_listSets_24 rfl (lv_at hl 0 rfl) ?_
        refine lv_iload_n hx hb dX7_listSets_25 rfl (lv_at hl 2 rfl) ?_
        refine pm_callV (As := [.int v2]) (rest := []) 1 E hI (k_X7_fits t_v0 hw) t_v0 (by decide) rfl kc_X7_fits kl_X7_33 km_X7_fits ks_X7_fits ki_X7 (by decide +kernel) ⟨by decide, by decide⟩ rfl hl.1 rfl (by first | exact Nat.le_of_ble_eq_true rfl | (simp only [List.map, pm_rf_cat]; exact Nat.le_of_ble_eq_true rfl)) dX7_listSets_26 ⟨by decide, by decide⟩ (fun r9 M9 H locs hp hX1 hI => ?_)
        clear hw
        obtain ⟨r_4, rfl, rfl, hw⟩ := hp
        refine pm_nrm (cells' := 0) (slots' := 0) (g2 := F0 m 29 ls [.int r_4]) rfl rfl rfl ?_
        refine lv_if_eq (tgt := 52) hx hb dX7_listSets_29 (by decide) (fun h_5 => ?_) (fun h_5 => ?_)
        · replace hw := hw.1 h_5
          exact c_X7_listSets_52 E hret ih hX hI t_v0 (lv_sub hl [0, 1, 2] rfl) hw
        · replace hw := hw.2 h_5
          refine lv_aload_n hx hb dX7_listSets_32 rfl (lv_at hl 0 rfl) ?_
          refine gf_X7_15 E hI t_v0 dX7_listSets_33 e_q_2 (fun _ => ?_)
          refine lv_aload_n hx hb dX7_listSets_36 rfl (lv_at hl 0 rfl) ?_
          refine gf_X7_54 E hI t_v0 dX7_listSets_37 ?_
          refine lv_iload_n hx hb dX7_listSets_40 rfl (lv_at hl 2 rfl) ?_
          obtain ⟨h_6, hw⟩ := hw
          refine ps_iast E hI t_q_2 h_6 dX7_listSets_41 (fun H locs M_7 e_M_7 hX1 hI => ?_)
          replace hw := hw M_7 e_M_7
          replace t_v0 := t_v0.x hX1
          replace hX := hX.tr hX1
          refine lv_aload_n hx hb dX7_listSets_42 rfl (lv_at hl 0 rfl) ?_
          refine lv_dup hx hb dX7_listSets_43 rfl ?_
          refine gf_X7_54 E hI t_v0 dX7_listSets_44 ?_
          refine lv_iconst (v := (1 : Int32)) hx hb dX7_listSets_47 (by decide) ?_
          refine lv_iadd hx hb dX7_listSets_48 ?_
          refine pf_X7_54 E hI t_v0 dX7_listSets_49 (fun H locs M_8 e_M_8 hX1 hI => ?_)
          replace hw := hw M_8 e_M_8
          replace t_v0 := t_v0.x hX1
          replace hX := hX.tr hX1
          exact c_X7_listSets_52 E hret ih hX hI t_v0 (lv_sub hl [0, 1, 2] rfl) hw
set_option maxHeartbeats 4000000 in
set_option maxRecDepth 100000 in
theorem k_X7_listSets {l : Launch} {G : pm_G} {H0 : Heap} {th : Nat} {a1 : Int32} {M : pm_M} {Post : pm_M → Prop} (t_th : pm_is M th 6) (hw : w_X7_listSets th a1 M Post) : pm_C l G H0 yX7_listSets cX7_listSets 3 none rm_X7_listSets [.ref (H0.size + th), .int a1] M (pm_Pv Post) := by
  refine pm_start (by decide +kernel) (Nat.le_of_ble_eq_true rfl) ?_
  intro p e s m args below meth c H ls E hret hnm hI hl
  have hX : pm_X M M := pm_X.rf
  have hl : lv_has ls 3 [(0, .ref (H0.size + th)), (1, .int a1)] := hl
  have hx := E.1
  have hb := E.2.1
  have hown := E.2.2.2.1
  have hts := E.2.2.2.2.1
  unfold w_X7_listSets at hw
  refine lv_aload_n hx hb dX7_listSets_0 rfl (lv_at hl 0 rfl) ?_
  refine lv_iconst (v := (0 : Int32)) hx hb dX7_listSets_1 (by decide) ?_
  refine pf_X7_54 E hI t_th dX7_listSets_2 (fun H locs M_1 e_M_1 hX1 hI => ?_)
  replace hw := hw M_1 e_M_1
  replace t_th := t_th.x hX1
  replace hX := hX.tr hX1
  refine lv_iconst (v := (0 : Int32)) hx hb dX7_listSets_5 (by decide) ?_
  refine lv_istore_n (lv' := [(2, .int (0 : Int32)), (0, .ref (H0.size + th)), (1, .int a1)]) hx hb dX7_listSets_6 rfl hl (by decide) rfl (fun ls hl_2 => ?_)
  obtain ⟨n_3, hw⟩ := hw
  exact c_X7_listSets_7 E hret n_3 _ _ _ _ _ hX hI t_th (lv_sub hl_2 [1, 2, 0] rfl) hw
set_option maxHeartbeats 4000000 in
set_option maxRecDepth 100000 in
theorem c_X7_leastPartNotTold_38 {p : Program} {l : Launch} {e : Env} {s : State} {m : MethodId} {args : Array Value} {below : List Frame} {meth : Method} {c : Code} {G : pm_G} {H0 : Heap} {Post : Int32 → Prop} {M : pm_M} (E : pm_E G p s m args meth c cX7_leastPartNotTold 4 RX7) (hret : meth.sig.returnType = (some .int)) {H : Heap} {locs : List Loc} {ls : Array Slot} (hI : pm_I G H0 M H locs) (hl : lv_has ls 4 []) (hw : w_X7_leastPartNotTold_38 Post M) : W p l e rm_X7_leastPartNotTold s m args below meth c H locs 0 0 (pm_Z G H0 M (pm_Pi (fun r9 M9 => M = M9 ∧ Post r9)) below args s rm_X7_leastPartNotTold.cells rm_X7_leastPartNotTold.slots) (F0 m 38 ls []) := by
  have hx := E.1
  have hb := E.2.1
  have hown := E.2.2.2.1
  have hts := E.2.2.2.2.1
  unfold w_X7_leastPartNotTold_38 at hw
  refine lv_iconst (v := (-1 : Int32)) hx hb dX7_leastPartNotTold_38 (by decide) ?_
  exact pm_iret E hret hI pm_X.rf ⟨_, rfl, rfl, hw⟩ (by decide) (by decide) dX7_leastPartNotTold_39
set_option maxHeartbeats 4000000 in
set_option maxRecDepth 100000 in
theorem c_X7_leastPartNotTold_4 {p : Program} {l : Launch} {e : Env} {s : State} {m : MethodId} {args : Array Value} {below : List Frame} {meth : Method} {c : Code} {G : pm_G} {H0 : Heap} {Post : Int32 → Prop} {v0 : Nat} {v1 : Int32} {M : pm_M} (E : pm_E G p s m args meth c cX7_leastPartNotTold 4 RX7) (hret : meth.sig.returnType = (some .int)) : ∀ (n : Nat) (v2 : Int32) (v3 : Int32) (H : Heap) (locs : List Loc) (ls : Array Slot), pm_I G H0 M H locs → (pm_is M v0 6) → lv_has ls 4 [(0, .ref (H0.size + v0)), (1, .int v1), (2, .int v2), (3, .int v3)] → w_X7_leastPartNotTold_4 Post v0 v1 M n v2 v3 → W p l e rm_X7_leastPartNotTold s m args below meth c H locs 0 0 (pm_Z G H0 M (pm_Pi (fun r9 M9 => M = M9 ∧ Post r9)) below args s rm_X7_leastPartNotTold.cells rm_X7_leastPartNotTold.slots) (F0 m 4 ls []) := by
  have hx := E.1
  have hb := E.2.1
  have hown := E.2.2.2.1
  have hts := E.2.2.2.2.1
  intro n
  induction n with
  | zero =>
    intro v2 v3 H locs ls hI t_v0 hl hw
    unfold w_X7_leastPartNotTold_4 at hw
    exact hw.elim
  | succ n ih =>
    intro v2 v3 H locs ls hI t_v0 hl hw
    unfold w_X7_leastPartNotTold_4 at hw
    refine lv_iload_n hx hb dX7_leastPartNotTold_4 rfl (lv_at hl 3 rfl) ?_
    refine lv_sipush (v := (4096 : Int32)) hx hb dX7_leastPartNotTold_5 (by decide) ?_
    refine lv_icmp_ge (tgt := 38) hx hb dX7_leastPartNotTold_8 (by decide) (fun h_1 => ?_) (fun h_1 => ?_)
    · replace hw := hw.1 h_1
      exact c_X7_leastPartNotTold_38 E hret hI (lv_sub hl [] rfl) hw
    · replace hw := hw.2 h_1
      refine lv_iload_n hx hb dX7_leastPartNotTold_11 rfl (lv_at hl 2 rfl) ?_
      refine lv_iload_n hx hb dX7_leastPartNotTold_12 rfl (lv_at hl 1 rfl) ?_
      refine lv_icmp_ge (tgt := 38) hx hb dX7_leastPartNotTold_13 (by decide) (fun h_2 => ?_) (fun h_2 => ?_)
      · replace hw := hw.1 h_2
        exact c_X7_leastPartNotTold_38 E hret hI (lv_sub hl [] rfl) hw
      · replace hw := hw.2 h_2
        refine lv_aload_n hx hb dX7_leastPartNotTold_16 rfl (lv_at hl 0 rfl) ?_
        refine lv_iload_n hx hb dX7_leastPartNotTold_17 rfl (lv_at hl 2 rfl) ?_
        refine pm_callV (As := [.int v2]) (rest := []) 1 E hI (k_X7_fits t_v0 hw) t_v0 (by decide) rfl kc_X7_fits kl_X7_33 km_X7_fits ks_X7_fits ki_X7 (by decide +kernel) ⟨by decide, by decide⟩ rfl hl.1 rfl (by first | exact Nat.le_of_ble_eq_true rfl | (simp only [List.map, pm_rf_cat]; exact Nat.le_of_ble_eq_true rfl)) dX7_leastPartNotTold_18 ⟨by decide, by decide⟩ (fun r9 M9 H locs hp hX1 hI => ?_)
        clear hw
        obtain ⟨r_3, rfl, rfl, hw⟩ := hp
        refine pm_nrm (cells' := 0) (slots' := 0) (g2 := F0 m 21 ls [.int r_3]) rfl rfl rfl ?_
        refine lv_if_ne (tgt := 26) hx hb dX7_leastPartNotTold_21 (by decide) (fun h_4 => ?_) (fun h_4 => ?_)
        · replace hw := hw.1 h_4
          refine lv_iload_n hx hb dX7_leastPartNotTold_26 rfl (lv_at hl 2 rfl) ?_
          refine lv_iload_n hx hb dX7_leastPartNotTold_27 rfl (lv_at hl 1 rfl) ?_
          refine lv_isub hx hb dX7_leastPartNotTold_28 ?_
          refine lv_iload_n hx hb dX7_leastPartNotTold_29 rfl (lv_at hl 1 rfl) ?_
          refine lv_iand hx hb dX7_leastPartNotTold_30 ?_
          refine lv_topi (fun x_5 e_x_5 => ?_)
          replace hw := hw x_5 e_x_5
          refine lv_istore_n (lv' := [(2, .int x_5), (0, .ref (H0.size + v0)), (1, .int v1), (3, .int v3)]) hx hb dX7_leastPartNotTold_31 rfl hl (by decide) rfl (fun ls hl_6 => ?_)
          obtain ⟨x_7, e_x_7⟩ : ∃ z : Int32, z = v3 + (1 : Int32) := ⟨_, rfl⟩
          refine lv_iinc (v := x_7) (lv' := [(3, .int x_7), (2, .int x_5), (0, .ref (H0.size + v0)), (1, .int v1)]) hx hb dX7_leastPartNotTold_32 hl_6 (k := 3) rfl (by rw [e_x_7]; rfl) (by decide) rfl (fun ls hl_8 => ?_)
          replace hw := hw x_7 e_x_7
          refine lv_goto (tgt := 4) hx hb dX7_leastPartNotTold_35 (by decide) ?_
          exact ih _ _ _ _ _ hI t_v0 (lv_sub hl_8 [2, 3, 1, 0] rfl) hw
        · replace hw := hw.2 h_4
          refine lv_iload_n hx hb dX7_leastPartNotTold_24 rfl (lv_at hl 2 rfl) ?_
          exact pm_iret E hret hI pm_X.rf ⟨_, rfl, rfl, hw⟩ (by decide) (by decide) dX7_leastPartNotTold_25
set_option maxHeartbeats 4000000 in
set_option maxRecDepth 100000 in
theorem k_X7_leastPartNotTold {l : Launch} {G : pm_G} {H0 : Heap} {th : Nat} {a1 : Int32} {M : pm_M} {Post : Int32 → Prop} (t_th : pm_is M th 6) (hw : w_X7_leastPartNotTold th a1 M Post) : pm_C l G H0 yX7_leastPartNotTold cX7_leastPartNotTold 4 (some .int) rm_X7_leastPartNotTold [.ref (H0.size + th), .int a1] M (pm_Pi (fun r9 M9 => M = M9 ∧ Post r9)) := by
  refine pm_start (by decide +kernel) (Nat.le_of_ble_eq_true rfl) ?_
  intro p e s m args below meth c H ls E hret hnm hI hl
  have hl : lv_has ls 4 [(0, .ref (H0.size + th)), (1, .int a1)] := hl
  have hx := E.1
  have hb := E.2.1
  have hown := E.2.2.2.1
  have hts := E.2.2.2.2.1
  unfold w_X7_leastPartNotTold at hw
  refine lv_iconst (v := (0 : Int32)) hx hb dX7_leastPartNotTold_0 (by decide) ?_
  refine lv_istore_n (lv' := [(2, .int (0 : Int32)), (0, .ref (H0.size + th)), (1, .int a1)]) hx hb dX7_leastPartNotTold_1 rfl hl (by decide) rfl (fun ls hl_1 => ?_)
  refine lv_iconst (v := (0 : Int32)) hx hb dX7_leastPartNotTold_2 (by decide) ?_
  refine lv_istore_n (lv' := [(3, .int (0 : Int32)), (2, .int (0 : Int32)), (0, .ref (H0.size + th)), (1, .int a1)]) hx hb dX7_leastPartNotTold_3 rfl hl_1 (by decide) rfl (fun ls hl_2 => ?_)
  obtain ⟨n_3, hw⟩ := hw
  exact c_X7_leastPartNotTold_4 E hret n_3 _ _ _ _ _ hI t_th (lv_sub hl_2 [2, 3, 1, 0] rfl) hw
set_option maxHeartbeats 4000000 in
set_option maxRecDepth 100000 in
theorem c_X7_lacksPart_2 {p : Program} {l : Launch} {e : Env} {s : State} {m : MethodId} {args : Array Value} {below : List Frame} {meth : Method} {c : Code} {G : pm_G} {H0 : Heap} {M0 : pm_M} {Post : Int32 → pm_M → Prop} {v0 : Nat} (E : pm_E G p s m args meth c cX7_lacksPart 3 RX7) (hret : meth.sig.returnType = (some .boolean)) : ∀ (n : Nat) (v1 : Int32) (M : pm_M) (H : Heap) (locs : List Loc) (ls : Array Slot), pm_X M0 M → pm_I G H0 M H locs → (pm_is M v0 6) → lv_has ls 3 [(0, .ref (H0.size + v0)), (1, .int v1)] → w_X7_lacksPart_2 Post v0 n v1 M → W p l e rm_X7_lacksPart s m args below meth c H locs 0 0 (pm_Z G H0 M0 (pm_Pi Post) below args s rm_X7_lacksPart.cells rm_X7_lacksPart.slots) (F0 m 2 ls []) := by
  have hx := E.1
  have hb := E.2.1
  have hown := E.2.2.2.1
  have hts := E.2.2.2.2.1
  intro n
  induction n with
  | zero =>
    intro v1 M H locs ls hX hI t_v0 hl hw
    unfold w_X7_lacksPart_2 at hw
    exact hw.elim
  | succ n ih =>
    intro v1 M H locs ls hX hI t_v0 hl hw
    unfold w_X7_lacksPart_2 at hw
    refine lv_iload_n hx hb dX7_lacksPart_2 rfl (lv_at hl 1 rfl) ?_
    refine lv_aload_n hx hb dX7_lacksPart_3 rfl (lv_at hl 0 rfl) ?_
    refine gf_X7_54 E hI t_v0 dX7_lacksPart_4 ?_
    refine lv_icmp_ge (tgt := 46) hx hb dX7_lacksPart_7 (by decide) (fun h_1 => ?_) (fun h_1 => ?_)
    · replace hw := hw.1 h_1
      refine lv_iconst (v := (0 : Int32)) hx hb dX7_lacksPart_46 (by decide) ?_
      exact pm_zret E hret hI hX rfl ⟨_, rfl, hw⟩ (by decide) (by decide) dX7_lacksPart_47
    · replace hw := hw.2 h_1
      refine lv_aload_n hx hb dX7_lacksPart_10 rfl (lv_at hl 0 rfl) ?_
      refine lv_aload_n hx hb dX7_lacksPart_11 rfl (lv_at hl 0 rfl) ?_
      obtain ⟨q_2, e_q_2, hw⟩ := hw
      refine gf_X7_15 E hI t_v0 dX7_lacksPart_12 e_q_2 (fun t_q_2 => ?_)
      refine lv_iload_n hx hb dX7_lacksPart_15 rfl (lv_at hl 1 rfl) ?_
      obtain ⟨h_3, hw⟩ := hw
      refine pm_iald E hI t_q_2 h_3 dX7_lacksPart_16 ?_
      refine pm_callV (As := [.int (mI M q_2 v1.toNatClampNeg)]) (rest := []) 1 E hI (k_X7_leastPartNotTold t_v0 hw) t_v0 (by decide) rfl kc_X7_leastPartNotTold kl_X7_57 km_X7_leastPartNotTold ks_X7_leastPartNotTold ki_X7 (by decide +kernel) ⟨by decide, by decide⟩ rfl hl.1 rfl (by first | exact Nat.le_of_ble_eq_true rfl | (simp only [List.map, pm_rf_cat]; exact Nat.le_of_ble_eq_true rfl)) dX7_lacksPart_17 ⟨by decide, by decide⟩ (fun r9 M9 H locs hp hX1 hI => ?_)
      clear hw
      obtain ⟨r_4, rfl, rfl, hw⟩ := hp
      refine pm_nrm (cells' := 0) (slots' := 0) (g2 := F0 m 20 ls [.int r_4]) rfl rfl rfl ?_
      refine lv_istore_n (lv' := [(2, .int r_4), (0, .ref (H0.size + v0)), (1, .int v1)]) hx hb dX7_lacksPart_20 rfl hl (by decide) rfl (fun ls hl_5 => ?_)
      refine lv_iload_n hx hb dX7_lacksPart_21 rfl (lv_at hl_5 0 rfl) ?_
      refine lv_iconst (v := (-1 : Int32)) hx hb dX7_lacksPart_22 (by decide) ?_
      refine lv_icmp_eq (tgt := 40) hx hb dX7_lacksPart_23 (by decide) (fun h_6 => ?_) (fun h_6 => ?_)
      · replace hw := hw.1 h_6
        obtain ⟨x_7, e_x_7⟩ : ∃ z : Int32, z = v1 + (1 : Int32) := ⟨_, rfl⟩
        refine lv_iinc (v := x_7) (lv' := [(1, .int x_7), (2, .int r_4), (0, .ref (H0.size + v0))]) hx hb dX7_lacksPart_40 hl_5 (k := 2) rfl (by rw [e_x_7]; rfl) (by decide) rfl (fun ls hl_8 => ?_)
        replace hw := hw x_7 e_x_7
        refine lv_goto (tgt := 2) hx hb dX7_lacksPart_43 (by decide) ?_
        exact ih _ _ _ _ _ hX hI t_v0 (lv_sub hl_8 [2, 0] rfl) hw
      · replace hw := hw.2 h_6
        refine lv_aload_n hx hb dX7_lacksPart_26 rfl (lv_at hl_5 1 rfl) ?_
        refine lv_iconst (v := (2 : Int32)) hx hb dX7_lacksPart_27 (by decide) ?_
        refine lv_aload_n hx hb dX7_lacksPart_28 rfl (lv_at hl_5 1 rfl) ?_
        refine gf_X7_15 E hI t_v0 dX7_lacksPart_29 e_q_2 (fun _ => ?_)
        refine lv_iload_n hx hb dX7_lacksPart_32 rfl (lv_at hl_5 2 rfl) ?_
        obtain ⟨h_9, hw⟩ := hw
        refine pm_iald E hI t_q_2 h_9 dX7_lacksPart_33 ?_
        refine lv_iload_n hx hb dX7_lacksPart_34 rfl (lv_at hl_5 0 rfl) ?_
        refine pm_callV (As := [.int (2 : Int32), .int (mI M q_2 v1.toNatClampNeg), .int r_4]) (rest := []) 3 E hI (k_X7_noteBreach t_v0 hw) t_v0 (by decide) rfl kc_X7_noteBreach kl_X7_19 km_X7_noteBreach ks_X7_noteBreach ki_X7 (by decide +kernel) ⟨by decide, by decide⟩ rfl hl_5.1 rfl (by first | exact Nat.le_of_ble_eq_true rfl | (simp only [List.map, pm_rf_cat]; exact Nat.le_of_ble_eq_true rfl)) dX7_lacksPart_35 ⟨by decide, by decide⟩ (fun r9 M_10 H locs hp hX1 hI => ?_)
        clear hw
        obtain ⟨rfl, hw⟩ := hp
        replace t_v0 := t_v0.x hX1
        replace hX := hX.tr hX1
        refine pm_nrm (cells' := 0) (slots' := 0) (g2 := F0 m 38 ls []) rfl rfl rfl ?_
        refine lv_iconst (v := (1 : Int32)) hx hb dX7_lacksPart_38 (by decide) ?_
        exact pm_zret E hret hI hX rfl ⟨_, rfl, hw⟩ (by decide) (by decide) dX7_lacksPart_39
set_option maxHeartbeats 4000000 in
set_option maxRecDepth 100000 in
theorem k_X7_lacksPart {l : Launch} {G : pm_G} {H0 : Heap} {th : Nat} {M : pm_M} {Post : Int32 → pm_M → Prop} (t_th : pm_is M th 6) (hw : w_X7_lacksPart th M Post) : pm_C l G H0 yX7_lacksPart cX7_lacksPart 3 (some .boolean) rm_X7_lacksPart [.ref (H0.size + th)] M (pm_Pi Post) := by
  refine pm_start (by decide +kernel) (Nat.le_of_ble_eq_true rfl) ?_
  intro p e s m args below meth c H ls E hret hnm hI hl
  have hX : pm_X M M := pm_X.rf
  have hl : lv_has ls 3 [(0, .ref (H0.size + th))] := hl
  have hx := E.1
  have hb := E.2.1
  have hown := E.2.2.2.1
  have hts := E.2.2.2.2.1
  unfold w_X7_lacksPart at hw
  refine lv_iconst (v := (0 : Int32)) hx hb dX7_lacksPart_0 (by decide) ?_
  refine lv_istore_n (lv' := [(1, .int (0 : Int32)), (0, .ref (H0.size + th))]) hx hb dX7_lacksPart_1 rfl hl (by decide) rfl (fun ls hl_1 => ?_)
  obtain ⟨n_2, hw⟩ := hw
  exact c_X7_lacksPart_2 E hret n_2 _ _ _ _ _ hX hI t_th (lv_sub hl_1 [1, 0] rfl) hw
set_option maxHeartbeats 4000000 in
set_option maxRecDepth 100000 in
theorem c_X7_thingsThatMayCome_38 {p : Program} {l : Launch} {e : Env} {s : State} {m : MethodId} {args : Array Value} {below : List Frame} {meth : Method} {c : Code} {G : pm_G} {H0 : Heap} {Post : Int32 → Prop} {v0 : Nat} {v1 : Int32} {v2 : Int32} {v3 : Int32} {M : pm_M} {k_4 : Int32 → Int32 → Prop} (E : pm_E G p s m args meth c cX7_thingsThatMayCome 5 RX7) (hret : meth.sig.returnType = (some .int)) (hk_4 : ∀ (v2 : Int32) (v3 : Int32) (H : Heap) (locs : List Loc) (ls : Array Slot), pm_I G H0 M H locs → (pm_is M v0 6) → lv_has ls 5 [(0, .ref (H0.size + v0)), (1, .int v1), (2, .int v2), (3, .int v3)] → k_4 v2 v3 → W p l e rm_X7_thingsThatMayCome s m args below meth c H locs 0 0 (pm_Z G H0 M (pm_Pi (fun r9 M9 => M = M9 ∧ Post r9)) below args s rm_X7_thingsThatMayCome.cells rm_X7_thingsThatMayCome.slots) (F0 m 4 ls [])) {H : Heap} {locs : List Loc} {ls : Array Slot} (hI : pm_I G H0 M H locs) (t_v0 : pm_is M v0 6) (hl : lv_has ls 5 [(0, .ref (H0.size + v0)), (1, .int v1), (2, .int v2), (3, .int v3)]) (hw : w_X7_thingsThatMayCome_38 Post k_4 v0 v1 v2 v3 M) : W p l e rm_X7_thingsThatMayCome s m args below meth c H locs 0 0 (pm_Z G H0 M (pm_Pi (fun r9 M9 => M = M9 ∧ Post r9)) below args s rm_X7_thingsThatMayCome.cells rm_X7_thingsThatMayCome.slots) (F0 m 38 ls []) := by
  have hx := E.1
  have hb := E.2.1
  have hown := E.2.2.2.1
  have hts := E.2.2.2.2.1
  unfold w_X7_thingsThatMayCome_38 at hw
  obtain ⟨x_1, e_x_1⟩ : ∃ z : Int32, z = v3 + (1 : Int32) := ⟨_, rfl⟩
  refine lv_iinc (v := x_1) (lv' := [(3, .int x_1), (0, .ref (H0.size + v0)), (1, .int v1), (2, .int v2)]) hx hb dX7_thingsThatMayCome_38 hl (k := 3) rfl (by rw [e_x_1]; rfl) (by decide) rfl (fun ls hl_2 => ?_)
  replace hw := hw x_1 e_x_1
  refine lv_goto (tgt := 4) hx hb dX7_thingsThatMayCome_41 (by decide) ?_
  exact hk_4 _ _ _ _ _ hI t_v0 (lv_sub hl_2 [1, 2, 3, 0] rfl) hw
set_option maxHeartbeats 4000000 in
set_option maxRecDepth 100000 in
theorem c_X7_thingsThatMayCome_4 {p : Program} {l : Launch} {e : Env} {s : State} {m : MethodId} {args : Array Value} {below : List Frame} {meth : Method} {c : Code} {G : pm_G} {H0 : Heap} {Post : Int32 → Prop} {v0 : Nat} {v1 : Int32} {M : pm_M} (E : pm_E G p s m args meth c cX7_thingsThatMayCome 5 RX7) (hret : meth.sig.returnType = (some .int)) : ∀ (n : Nat) (v2 : Int32) (v3 : Int32) (H : Heap) (locs : List Loc) (ls : Array Slot), pm_I G H0 M H locs → (pm_is M v0 6) → lv_has ls 5 [(0, .ref (H0.size + v0)), (1, .int v1), (2, .int v2), (3, .int v3)] → w_X7_thingsThatMayCome_4 Post v0 v1 M n v2 v3 → W p l e rm_X7_thingsThatMayCome s m args below meth c H locs 0 0 (pm_Z G H0 M (pm_Pi (fun r9 M9 => M = M9 ∧ Post r9)) below args s rm_X7_thingsThatMayCome.cells rm_X7_thingsThatMayCome.slots) (F0 m 4 ls []) := by
  have hx := E.1
  have hb := E.2.1
  have hown := E.2.2.2.1
  have hts := E.2.2.2.2.1
  intro n
  induction n with
  | zero =>
    intro v2 v3 H locs ls hI t_v0 hl hw
    unfold w_X7_thingsThatMayCome_4 at hw
    exact hw.elim
  | succ n ih =>
    intro v2 v3 H locs ls hI t_v0 hl hw
    unfold w_X7_thingsThatMayCome_4 at hw
    refine lv_iload_n hx hb dX7_thingsThatMayCome_4 rfl (lv_at hl 3 rfl) ?_
    refine lv_bipush (v := (12 : Int32)) hx hb dX7_thingsThatMayCome_5 (by decide) ?_
    refine lv_icmp_ge (tgt := 44) hx hb dX7_thingsThatMayCome_7 (by decide) (fun h_1 => ?_) (fun h_1 => ?_)
    · replace hw := hw.1 h_1
      refine lv_iload_n hx hb dX7_thingsThatMayCome_44 rfl (lv_at hl 2 rfl) ?_
      exact pm_iret E hret hI pm_X.rf ⟨_, rfl, rfl, hw⟩ (by decide) (by decide) dX7_thingsThatMayCome_45
    · replace hw := hw.2 h_1
      refine lv_iload_n hx hb dX7_thingsThatMayCome_10 rfl (lv_at hl 1 rfl) ?_
      refine lv_iconst (v := (1 : Int32)) hx hb dX7_thingsThatMayCome_11 (by decide) ?_
      refine lv_iload_n hx hb dX7_thingsThatMayCome_12 rfl (lv_at hl 3 rfl) ?_
      refine lv_ishl hx hb dX7_thingsThatMayCome_13 ?_
      refine lv_ior hx hb dX7_thingsThatMayCome_14 ?_
      refine lv_topi (fun x_2 e_x_2 => ?_)
      replace hw := hw x_2 e_x_2
      refine lv_istore (lv' := [(4, .int x_2), (0, .ref (H0.size + v0)), (1, .int v1), (2, .int v2), (3, .int v3)]) hx hb dX7_thingsThatMayCome_15 hl (by decide) rfl (fun ls hl_3 => ?_)
      refine lv_iload hx hb dX7_thingsThatMayCome_17 (lv_at hl_3 0 rfl) ?_
      refine lv_iload_n hx hb dX7_thingsThatMayCome_19 rfl (lv_at hl_3 2 rfl) ?_
      refine lv_icmp_eq (tgt := 38) hx hb dX7_thingsThatMayCome_20 (by decide) (fun h_4 => ?_) (fun h_4 => ?_)
      · replace hw := hw.1 h_4
        exact c_X7_thingsThatMayCome_38 E hret ih hI t_v0 (lv_sub hl_3 [1, 2, 3, 4] rfl) hw
      · replace hw := hw.2 h_4
        refine lv_aload_n hx hb dX7_thingsThatMayCome_23 rfl (lv_at hl_3 1 rfl) ?_
        refine lv_iload hx hb dX7_thingsThatMayCome_24 (lv_at hl_3 0 rfl) ?_
        refine pm_callV (As := [.int x_2]) (rest := []) 1 E hI (k_X7_fits t_v0 hw) t_v0 (by decide) rfl kc_X7_fits kl_X7_33 km_X7_fits ks_X7_fits ki_X7 (by decide +kernel) ⟨by decide, by decide⟩ rfl hl_3.1 rfl (by first | exact Nat.le_of_ble_eq_true rfl | (simp only [List.map, pm_rf_cat]; exact Nat.le_of_ble_eq_true rfl)) dX7_thingsThatMayCome_26 ⟨by decide, by decide⟩ (fun r9 M9 H locs hp hX1 hI => ?_)
        clear hw
        obtain ⟨r_5, rfl, rfl, hw⟩ := hp
        refine pm_nrm (cells' := 0) (slots' := 0) (g2 := F0 m 29 ls [.int r_5]) rfl rfl rfl ?_
        refine lv_if_eq (tgt := 38) hx hb dX7_thingsThatMayCome_29 (by decide) (fun h_6 => ?_) (fun h_6 => ?_)
        · replace hw := hw.1 h_6
          exact c_X7_thingsThatMayCome_38 E hret ih hI t_v0 (lv_sub hl_3 [1, 2, 3, 4] rfl) hw
        · replace hw := hw.2 h_6
          refine lv_iload_n hx hb dX7_thingsThatMayCome_32 rfl (lv_at hl_3 3 rfl) ?_
          refine lv_iconst (v := (1 : Int32)) hx hb dX7_thingsThatMayCome_33 (by decide) ?_
          refine lv_iload_n hx hb dX7_thingsThatMayCome_34 rfl (lv_at hl_3 4 rfl) ?_
          refine lv_ishl hx hb dX7_thingsThatMayCome_35 ?_
          refine lv_ior hx hb dX7_thingsThatMayCome_36 ?_
          refine lv_topi (fun x_7 e_x_7 => ?_)
          replace hw := hw x_7 e_x_7
          refine lv_istore_n (lv' := [(2, .int x_7), (4, .int x_2), (0, .ref (H0.size + v0)), (1, .int v1), (3, .int v3)]) hx hb dX7_thingsThatMayCome_37 rfl hl_3 (by decide) rfl (fun ls hl_8 => ?_)
          exact c_X7_thingsThatMayCome_38 E hret ih hI t_v0 (lv_sub hl_8 [2, 3, 0, 4] rfl) hw
set_option maxHeartbeats 4000000 in
set_option maxRecDepth 100000 in
theorem k_X7_thingsThatMayCome {l : Launch} {G : pm_G} {H0 : Heap} {th : Nat} {a1 : Int32} {M : pm_M} {Post : Int32 → Prop} (t_th : pm_is M th 6) (hw : w_X7_thingsThatMayCome th a1 M Post) : pm_C l G H0 yX7_thingsThatMayCome cX7_thingsThatMayCome 5 (some .int) rm_X7_thingsThatMayCome [.ref (H0.size + th), .int a1] M (pm_Pi (fun r9 M9 => M = M9 ∧ Post r9)) := by
  refine pm_start (by decide +kernel) (Nat.le_of_ble_eq_true rfl) ?_
  intro p e s m args below meth c H ls E hret hnm hI hl
  have hl : lv_has ls 5 [(0, .ref (H0.size + th)), (1, .int a1)] := hl
  have hx := E.1
  have hb := E.2.1
  have hown := E.2.2.2.1
  have hts := E.2.2.2.2.1
  unfold w_X7_thingsThatMayCome at hw
  refine lv_iconst (v := (0 : Int32)) hx hb dX7_thingsThatMayCome_0 (by decide) ?_
  refine lv_istore_n (lv' := [(2, .int (0 : Int32)), (0, .ref (H0.size + th)), (1, .int a1)]) hx hb dX7_thingsThatMayCome_1 rfl hl (by decide) rfl (fun ls hl_1 => ?_)
  refine lv_iconst (v := (0 : Int32)) hx hb dX7_thingsThatMayCome_2 (by decide) ?_
  refine lv_istore_n (lv' := [(3, .int (0 : Int32)), (2, .int (0 : Int32)), (0, .ref (H0.size + th)), (1, .int a1)]) hx hb dX7_thingsThatMayCome_3 rfl hl_1 (by decide) rfl (fun ls hl_2 => ?_)
  obtain ⟨n_3, hw⟩ := hw
  exact c_X7_thingsThatMayCome_4 E hret n_3 _ _ _ _ _ hI t_th (lv_sub hl_2 [2, 3, 1, 0] rfl) hw
set_option maxHeartbeats 4000000 in
set_option maxRecDepth 100000 in
theorem c_X7_leastWithNoneToCome_62 {p : Program} {l : Launch} {e : Env} {s : State} {m : MethodId} {args : Array Value} {below : List Frame} {meth : Method} {c : Code} {G : pm_G} {H0 : Heap} {Post : Int32 → Prop} {v0 : Nat} {v1 : Int32} {v2 : Int32} {v3 : Int32} {M : pm_M} {k_8 : Int32 → Prop} (E : pm_E G p s m args meth c cX7_leastWithNoneToCome 5 RX7) (hret : meth.sig.returnType = (some .int)) (hk_8 : ∀ (v3 : Int32) (H : Heap) (locs : List Loc) (ls : Array Slot), pm_I G H0 M H locs → (pm_is M v0 6) → lv_has ls 5 [(0, .ref (H0.size + v0)), (1, .int v1), (2, .int v2), (3, .int v3)] → k_8 v3 → W p l e rm_X7_leastWithNoneToCome s m args below meth c H locs 0 0 (pm_Z G H0 M (pm_Pi (fun r9 M9 => M = M9 ∧ Post r9)) below args s rm_X7_leastWithNoneToCome.cells rm_X7_leastWithNoneToCome.slots) (F0 m 8 ls [])) {H : Heap} {locs : List Loc} {ls : Array Slot} (hI : pm_I G H0 M H locs) (t_v0 : pm_is M v0 6) (hl : lv_has ls 5 [(0, .ref (H0.size + v0)), (1, .int v1), (2, .int v2), (3, .int v3)]) (hw : w_X7_leastWithNoneToCome_62 Post k_8 v0 v1 v2 v3 M) : W p l e rm_X7_leastWithNoneToCome s m args below meth c H locs 0 0 (pm_Z G H0 M (pm_Pi (fun r9 M9 => M = M9 ∧ Post r9)) below args s rm_X7_leastWithNoneToCome.cells rm_X7_leastWithNoneToCome.slots) (F0 m 62 ls []) := by
  have hx := E.1
  have hb := E.2.1
  have hown := E.2.2.2.1
  have hts := E.2.2.2.2.1
  unfold w_X7_leastWithNoneToCome_62 at hw
  obtain ⟨x_1, e_x_1⟩ : ∃ z : Int32, z = v3 + (1 : Int32) := ⟨_, rfl⟩
  refine lv_iinc (v := x_1) (lv' := [(3, .int x_1), (0, .ref (H0.size + v0)), (1, .int v1), (2, .int v2)]) hx hb dX7_leastWithNoneToCome_62 hl (k := 3) rfl (by rw [e_x_1]; rfl) (by decide) rfl (fun ls hl_2 => ?_)
  replace hw := hw x_1 e_x_1
  refine lv_goto (tgt := 8) hx hb dX7_leastWithNoneToCome_65 (by decide) ?_
  exact hk_8 _ _ _ _ hI t_v0 (lv_sub hl_2 [1, 2, 3, 0] rfl) hw
set_option maxHeartbeats 4000000 in
set_option maxRecDepth 100000 in
theorem c_X7_leastWithNoneToCome_37 {p : Program} {l : Launch} {e : Env} {s : State} {m : MethodId} {args : Array Value} {below : List Frame} {meth : Method} {c : Code} {G : pm_G} {H0 : Heap} {Post : Int32 → Prop} {v0 : Nat} {v1 : Int32} {v2 : Int32} {v3 : Int32} {s0 : Int32} {M : pm_M} {k_8 : Int32 → Prop} (E : pm_E G p s m args meth c cX7_leastWithNoneToCome 5 RX7) (hret : meth.sig.returnType = (some .int)) (hk_8 : ∀ (v3 : Int32) (H : Heap) (locs : List Loc) (ls : Array Slot), pm_I G H0 M H locs → (pm_is M v0 6) → lv_has ls 5 [(0, .ref (H0.size + v0)), (1, .int v1), (2, .int v2), (3, .int v3)] → k_8 v3 → W p l e rm_X7_leastWithNoneToCome s m args below meth c H locs 0 0 (pm_Z G H0 M (pm_Pi (fun r9 M9 => M = M9 ∧ Post r9)) below args s rm_X7_leastWithNoneToCome.cells rm_X7_leastWithNoneToCome.slots) (F0 m 8 ls [])) {H : Heap} {locs : List Loc} {ls : Array Slot} (hI : pm_I G H0 M H locs) (t_v0 : pm_is M v0 6) (hl : lv_has ls 5 [(0, .ref (H0.size + v0)), (1, .int v1), (2, .int v2), (3, .int v3)]) (hw : w_X7_leastWithNoneToCome_37 Post k_8 v0 v1 v2 v3 s0 M) : W p l e rm_X7_leastWithNoneToCome s m args below meth c H locs 0 0 (pm_Z G H0 M (pm_Pi (fun r9 M9 => M = M9 ∧ Post r9)) below args s rm_X7_leastWithNoneToCome.cells rm_X7_leastWithNoneToCome.slots) (F0 m 37 ls [.int s0]) := by
  have hx := E.1
  have hb := E.2.1
  have hown := E.2.2.2.1
  have hts := E.2.2.2.2.1
  unfold w_X7_leastWithNoneToCome_37 at hw
  refine lv_istore (lv' := [(4, .int s0), (0, .ref (H0.size + v0)), (1, .int v1), (2, .int v2), (3, .int v3)]) hx hb dX7_leastWithNoneToCome_37 hl (by decide) rfl (fun ls hl_1 => ?_)
  refine lv_iload hx hb dX7_leastWithNoneToCome_39 (lv_at hl_1 0 rfl) ?_
  refine lv_if_eq (tgt := 62) hx hb dX7_leastWithNoneToCome_41 (by decide) (fun h_2 => ?_) (fun h_2 => ?_)
  · replace hw := hw.1 h_2
    exact c_X7_leastWithNoneToCome_62 E hret hk_8 hI t_v0 (lv_sub hl_1 [1, 2, 3, 4] rfl) hw
  · replace hw := hw.2 h_2
    refine lv_aload_n hx hb dX7_leastWithNoneToCome_44 rfl (lv_at hl_1 1 rfl) ?_
    obtain ⟨q_3, e_q_3, hw⟩ := hw
    refine gf_X7_15 E hI t_v0 dX7_leastWithNoneToCome_45 e_q_3 (fun t_q_3 => ?_)
    refine lv_iload_n hx hb dX7_leastWithNoneToCome_48 rfl (lv_at hl_1 4 rfl) ?_
    obtain ⟨h_4, hw⟩ := hw
    refine pm_iald E hI t_q_3 h_4 dX7_leastWithNoneToCome_49 ?_
    refine lv_iload_n hx hb dX7_leastWithNoneToCome_50 rfl (lv_at hl_1 3 rfl) ?_
    refine lv_iand hx hb dX7_leastWithNoneToCome_51 ?_
    refine lv_if_ne (tgt := 62) hx hb dX7_leastWithNoneToCome_52 (by decide) (fun h_5 => ?_) (fun h_5 => ?_)
    · replace hw := hw.1 h_5
      exact c_X7_leastWithNoneToCome_62 E hret hk_8 hI t_v0 (lv_sub hl_1 [1, 2, 3, 4] rfl) hw
    · replace hw := hw.2 h_5
      refine lv_aload_n hx hb dX7_leastWithNoneToCome_55 rfl (lv_at hl_1 1 rfl) ?_
      refine gf_X7_15 E hI t_v0 dX7_leastWithNoneToCome_56 e_q_3 (fun _ => ?_)
      refine lv_iload_n hx hb dX7_leastWithNoneToCome_59 rfl (lv_at hl_1 4 rfl) ?_
      obtain ⟨h_6, hw⟩ := hw
      refine pm_iald E hI t_q_3 h_6 dX7_leastWithNoneToCome_60 ?_
      exact pm_iret E hret hI pm_X.rf ⟨_, rfl, rfl, hw⟩ (by decide) (by decide) dX7_leastWithNoneToCome_61
set_option maxHeartbeats 4000000 in
set_option maxRecDepth 100000 in
theorem c_X7_leastWithNoneToCome_8 {p : Program} {l : Launch} {e : Env} {s : State} {m : MethodId} {args : Array Value} {below : List Frame} {meth : Method} {c : Code} {G : pm_G} {H0 : Heap} {Post : Int32 → Prop} {v0 : Nat} {v1 : Int32} {v2 : Int32} {M : pm_M} (E : pm_E G p s m args meth c cX7_leastWithNoneToCome 5 RX7) (hret : meth.sig.returnType = (some .int)) : ∀ (n : Nat) (v3 : Int32) (H : Heap) (locs : List Loc) (ls : Array Slot), pm_I G H0 M H locs → (pm_is M v0 6) → lv_has ls 5 [(0, .ref (H0.size + v0)), (1, .int v1), (2, .int v2), (3, .int v3)] → w_X7_leastWithNoneToCome_8 Post v0 v1 v2 M n v3 → W p l e rm_X7_leastWithNoneToCome s m args below meth c H locs 0 0 (pm_Z G H0 M (pm_Pi (fun r9 M9 => M = M9 ∧ Post r9)) below args s rm_X7_leastWithNoneToCome.cells rm_X7_leastWithNoneToCome.slots) (F0 m 8 ls []) := by
  have hx := E.1
  have hb := E.2.1
  have hown := E.2.2.2.1
  have hts := E.2.2.2.2.1
  intro n
  induction n with
  | zero =>
    intro v3 H locs ls hI t_v0 hl hw
    unfold w_X7_leastWithNoneToCome_8 at hw
    exact hw.elim
  | succ n ih =>
    intro v3 H locs ls hI t_v0 hl hw
    unfold w_X7_leastWithNoneToCome_8 at hw
    refine lv_iload_n hx hb dX7_leastWithNoneToCome_8 rfl (lv_at hl 3 rfl) ?_
    refine lv_aload_n hx hb dX7_leastWithNoneToCome_9 rfl (lv_at hl 0 rfl) ?_
    refine gf_X7_54 E hI t_v0 dX7_leastWithNoneToCome_10 ?_
    refine lv_icmp_ge (tgt := 68) hx hb dX7_leastWithNoneToCome_13 (by decide) (fun h_1 => ?_) (fun h_1 => ?_)
    · replace hw := hw.1 h_1
      refine lv_iconst (v := (-1 : Int32)) hx hb dX7_leastWithNoneToCome_68 (by decide) ?_
      exact pm_iret E hret hI pm_X.rf ⟨_, rfl, rfl, hw⟩ (by decide) (by decide) dX7_leastWithNoneToCome_69
    · replace hw := hw.2 h_1
      refine lv_aload_n hx hb dX7_leastWithNoneToCome_16 rfl (lv_at hl 0 rfl) ?_
      obtain ⟨q_2, e_q_2, hw⟩ := hw
      refine gf_X7_15 E hI t_v0 dX7_leastWithNoneToCome_17 e_q_2 (fun t_q_2 => ?_)
      refine lv_iload_n hx hb dX7_leastWithNoneToCome_20 rfl (lv_at hl 3 rfl) ?_
      obtain ⟨h_3, hw⟩ := hw
      refine pm_iald E hI t_q_2 h_3 dX7_leastWithNoneToCome_21 ?_
      refine pm_callS (As := [.int (mI M q_2 v3.toNatClampNeg)]) (rest := []) 1 E hI (k_J6_bitCount_0f7a4 hw) kc_J6_bitCount_0f7a4 kl_X7_67 kt_J6_bitCount_0f7a4 ki_J6 (by decide +kernel) ⟨by decide, by decide⟩ rfl hl.1 rfl (by first | exact Nat.le_of_ble_eq_true rfl | (simp only [List.map, pm_rf_cat]; exact Nat.le_of_ble_eq_true rfl)) dX7_leastWithNoneToCome_22 ⟨by decide, by decide⟩ (fun r9 M9 H locs hp hX1 hI => ?_)
      clear hw
      obtain ⟨r_4, rfl, rfl, hw⟩ := hp
      refine pm_nrm (cells' := 0) (slots' := 0) (g2 := F0 m 25 ls [.int r_4]) rfl rfl rfl ?_
      refine lv_iload_n hx hb dX7_leastWithNoneToCome_25 rfl (lv_at hl 1 rfl) ?_
      refine pm_callS (As := [.int v1]) (rest := [.int r_4]) 1 E hI (k_J6_bitCount_0f7a4 hw) kc_J6_bitCount_0f7a4 kl_X7_67 kt_J6_bitCount_0f7a4 ki_J6 (by decide +kernel) ⟨by decide, by decide⟩ rfl hl.1 rfl (by first | exact Nat.le_of_ble_eq_true rfl | (simp only [List.map, pm_rf_cat]; exact Nat.le_of_ble_eq_true rfl)) dX7_leastWithNoneToCome_26 ⟨by decide, by decide⟩ (fun r9 M9 H locs hp hX1 hI => ?_)
      clear hw
      obtain ⟨r_5, rfl, rfl, hw⟩ := hp
      refine pm_nrm (cells' := 0) (slots' := 0) (g2 := F0 m 29 ls [.int r_5, .int r_4]) rfl rfl rfl ?_
      refine lv_icmp_le (tgt := 36) hx hb dX7_leastWithNoneToCome_29 (by decide) (fun h_6 => ?_) (fun h_6 => ?_)
      · replace hw := hw.1 h_6
        refine lv_iconst (v := (0 : Int32)) hx hb dX7_leastWithNoneToCome_36 (by decide) ?_
        exact c_X7_leastWithNoneToCome_37 E hret ih hI t_v0 (lv_sub hl [0, 1, 2, 3] rfl) hw
      · replace hw := hw.2 h_6
        refine lv_iconst (v := (1 : Int32)) hx hb dX7_leastWithNoneToCome_32 (by decide) ?_
        refine lv_goto (tgt := 37) hx hb dX7_leastWithNoneToCome_33 (by decide) ?_
        exact c_X7_leastWithNoneToCome_37 E hret ih hI t_v0 (lv_sub hl [0, 1, 2, 3] rfl) hw
set_option maxHeartbeats 4000000 in
set_option maxRecDepth 100000 in
theorem k_X7_leastWithNoneToCome {l : Launch} {G : pm_G} {H0 : Heap} {th : Nat} {a1 : Int32} {M : pm_M} {Post : Int32 → Prop} (t_th : pm_is M th 6) (hw : w_X7_leastWithNoneToCome th a1 M Post) : pm_C l G H0 yX7_leastWithNoneToCome cX7_leastWithNoneToCome 5 (some .int) rm_X7_leastWithNoneToCome [.ref (H0.size + th), .int a1] M (pm_Pi (fun r9 M9 => M = M9 ∧ Post r9)) := by
  refine pm_start (by decide +kernel) (Nat.le_of_ble_eq_true rfl) ?_
  intro p e s m args below meth c H ls E hret hnm hI hl
  have hl : lv_has ls 5 [(0, .ref (H0.size + th)), (1, .int a1)] := hl
  have hx := E.1
  have hb := E.2.1
  have hown := E.2.2.2.1
  have hts := E.2.2.2.2.1
  unfold w_X7_leastWithNoneToCome at hw
  refine lv_aload_n hx hb dX7_leastWithNoneToCome_0 rfl (lv_at hl 0 rfl) ?_
  refine lv_iload_n hx hb dX7_leastWithNoneToCome_1 rfl (lv_at hl 1 rfl) ?_
  refine pm_callV (As := [.int a1]) (rest := []) 1 E hI (k_X7_thingsThatMayCome t_th hw) t_th (by decide) rfl kc_X7_thingsThatMayCome kl_X7_64 km_X7_thingsThatMayCome ks_X7_thingsThatMayCome ki_X7 (by decide +kernel) ⟨by decide, by decide⟩ rfl hl.1 rfl (by first | exact Nat.le_of_ble_eq_true rfl | (simp only [List.map, pm_rf_cat]; exact Nat.le_of_ble_eq_true rfl)) dX7_leastWithNoneToCome_2 ⟨by decide, by decide⟩ (fun r9 M9 H locs hp hX1 hI => ?_)
  clear hw
  obtain ⟨r_1, rfl, rfl, hw⟩ := hp
  refine pm_nrm (cells' := 0) (slots' := 0) (g2 := F0 m 5 ls [.int r_1]) rfl rfl rfl ?_
  refine lv_istore_n (lv' := [(2, .int r_1), (0, .ref (H0.size + th)), (1, .int a1)]) hx hb dX7_leastWithNoneToCome_5 rfl hl (by decide) rfl (fun ls hl_2 => ?_)
  refine lv_iconst (v := (0 : Int32)) hx hb dX7_leastWithNoneToCome_6 (by decide) ?_
  refine lv_istore_n (lv' := [(3, .int (0 : Int32)), (2, .int r_1), (0, .ref (H0.size + th)), (1, .int a1)]) hx hb dX7_leastWithNoneToCome_7 rfl hl_2 (by decide) rfl (fun ls hl_3 => ?_)
  obtain ⟨n_4, hw⟩ := hw
  exact c_X7_leastWithNoneToCome_8 E hret n_4 _ _ _ _ hI t_th (lv_sub hl_3 [2, 3, 1, 0] rfl) hw
set_option maxHeartbeats 4000000 in
set_option maxRecDepth 100000 in
theorem c_X7_lacksExchange_2 {p : Program} {l : Launch} {e : Env} {s : State} {m : MethodId} {args : Array Value} {below : List Frame} {meth : Method} {c : Code} {G : pm_G} {H0 : Heap} {M0 : pm_M} {Post : Int32 → pm_M → Prop} {v0 : Nat} (E : pm_E G p s m args meth c cX7_lacksExchange 3 RX7) (hret : meth.sig.returnType = (some .boolean)) : ∀ (n : Nat) (v1 : Int32) (M : pm_M) (H : Heap) (locs : List Loc) (ls : Array Slot), pm_X M0 M → pm_I G H0 M H locs → (pm_is M v0 6) → lv_has ls 3 [(0, .ref (H0.size + v0)), (1, .int v1)] → w_X7_lacksExchange_2 Post v0 n v1 M → W p l e rm_X7_lacksExchange s m args below meth c H locs 0 0 (pm_Z G H0 M0 (pm_Pi Post) below args s rm_X7_lacksExchange.cells rm_X7_lacksExchange.slots) (F0 m 2 ls []) := by
  have hx := E.1
  have hb := E.2.1
  have hown := E.2.2.2.1
  have hts := E.2.2.2.2.1
  intro n
  induction n with
  | zero =>
    intro v1 M H locs ls hX hI t_v0 hl hw
    unfold w_X7_lacksExchange_2 at hw
    exact hw.elim
  | succ n ih =>
    intro v1 M H locs ls hX hI t_v0 hl hw
    unfold w_X7_lacksExchange_2 at hw
    refine lv_iload_n hx hb dX7_lacksExchange_2 rfl (lv_at hl 1 rfl) ?_
    refine lv_aload_n hx hb dX7_lacksExchange_3 rfl (lv_at hl 0 rfl) ?_
    refine gf_X7_54 E hI t_v0 dX7_lacksExchange_4 ?_
    refine lv_icmp_ge (tgt := 46) hx hb dX7_lacksExchange_7 (by decide) (fun h_1 => ?_) (fun h_1 => ?_)
    · replace hw := hw.1 h_1
      refine lv_iconst (v := (0 : Int32)) hx hb dX7_lacksExchange_46 (by decide) ?_
      exact pm_zret E hret hI hX rfl ⟨_, rfl, hw⟩ (by decide) (by decide) dX7_lacksExchange_47
    · replace hw := hw.2 h_1
      refine lv_aload_n hx hb dX7_lacksExchange_10 rfl (lv_at hl 0 rfl) ?_
      refine lv_aload_n hx hb dX7_lacksExchange_11 rfl (lv_at hl 0 rfl) ?_
      obtain ⟨q_2, e_q_2, hw⟩ := hw
      refine gf_X7_15 E hI t_v0 dX7_lacksExchange_12 e_q_2 (fun t_q_2 => ?_)
      refine lv_iload_n hx hb dX7_lacksExchange_15 rfl (lv_at hl 1 rfl) ?_
      obtain ⟨h_3, hw⟩ := hw
      refine pm_iald E hI t_q_2 h_3 dX7_lacksExchange_16 ?_
      refine pm_callV (As := [.int (mI M q_2 v1.toNatClampNeg)]) (rest := []) 1 E hI (k_X7_leastWithNoneToCome t_v0 hw) t_v0 (by decide) rfl kc_X7_leastWithNoneToCome kl_X7_61 km_X7_leastWithNoneToCome ks_X7_leastWithNoneToCome ki_X7 (by decide +kernel) ⟨by decide, by decide⟩ rfl hl.1 rfl (by first | exact Nat.le_of_ble_eq_true rfl | (simp only [List.map, pm_rf_cat]; exact Nat.le_of_ble_eq_true rfl)) dX7_lacksExchange_17 ⟨by decide, by decide⟩ (fun r9 M9 H locs hp hX1 hI => ?_)
      clear hw
      obtain ⟨r_4, rfl, rfl, hw⟩ := hp
      refine pm_nrm (cells' := 0) (slots' := 0) (g2 := F0 m 20 ls [.int r_4]) rfl rfl rfl ?_
      refine lv_istore_n (lv' := [(2, .int r_4), (0, .ref (H0.size + v0)), (1, .int v1)]) hx hb dX7_lacksExchange_20 rfl hl (by decide) rfl (fun ls hl_5 => ?_)
      refine lv_iload_n hx hb dX7_lacksExchange_21 rfl (lv_at hl_5 0 rfl) ?_
      refine lv_iconst (v := (-1 : Int32)) hx hb dX7_lacksExchange_22 (by decide) ?_
      refine lv_icmp_eq (tgt := 40) hx hb dX7_lacksExchange_23 (by decide) (fun h_6 => ?_) (fun h_6 => ?_)
      · replace hw := hw.1 h_6
        obtain ⟨x_7, e_x_7⟩ : ∃ z : Int32, z = v1 + (1 : Int32) := ⟨_, rfl⟩
        refine lv_iinc (v := x_7) (lv' := [(1, .int x_7), (2, .int r_4), (0, .ref (H0.size + v0))]) hx hb dX7_lacksExchange_40 hl_5 (k := 2) rfl (by rw [e_x_7]; rfl) (by decide) rfl (fun ls hl_8 => ?_)
        replace hw := hw x_7 e_x_7
        refine lv_goto (tgt := 2) hx hb dX7_lacksExchange_43 (by decide) ?_
        exact ih _ _ _ _ _ hX hI t_v0 (lv_sub hl_8 [2, 0] rfl) hw
      · replace hw := hw.2 h_6
        refine lv_aload_n hx hb dX7_lacksExchange_26 rfl (lv_at hl_5 1 rfl) ?_
        refine lv_iconst (v := (3 : Int32)) hx hb dX7_lacksExchange_27 (by decide) ?_
        refine lv_aload_n hx hb dX7_lacksExchange_28 rfl (lv_at hl_5 1 rfl) ?_
        refine gf_X7_15 E hI t_v0 dX7_lacksExchange_29 e_q_2 (fun _ => ?_)
        refine lv_iload_n hx hb dX7_lacksExchange_32 rfl (lv_at hl_5 2 rfl) ?_
        obtain ⟨h_9, hw⟩ := hw
        refine pm_iald E hI t_q_2 h_9 dX7_lacksExchange_33 ?_
        refine lv_iload_n hx hb dX7_lacksExchange_34 rfl (lv_at hl_5 0 rfl) ?_
        refine pm_callV (As := [.int (3 : Int32), .int (mI M q_2 v1.toNatClampNeg), .int r_4]) (rest := []) 3 E hI (k_X7_noteBreach t_v0 hw) t_v0 (by decide) rfl kc_X7_noteBreach kl_X7_19 km_X7_noteBreach ks_X7_noteBreach ki_X7 (by decide +kernel) ⟨by decide, by decide⟩ rfl hl_5.1 rfl (by first | exact Nat.le_of_ble_eq_true rfl | (simp only [List.map, pm_rf_cat]; exact Nat.le_of_ble_eq_true rfl)) dX7_lacksExchange_35 ⟨by decide, by decide⟩ (fun r9 M_10 H locs hp hX1 hI => ?_)
        clear hw
        obtain ⟨rfl, hw⟩ := hp
        replace t_v0 := t_v0.x hX1
        replace hX := hX.tr hX1
        refine pm_nrm (cells' := 0) (slots' := 0) (g2 := F0 m 38 ls []) rfl rfl rfl ?_
        refine lv_iconst (v := (1 : Int32)) hx hb dX7_lacksExchange_38 (by decide) ?_
        exact pm_zret E hret hI hX rfl ⟨_, rfl, hw⟩ (by decide) (by decide) dX7_lacksExchange_39
set_option maxHeartbeats 4000000 in
set_option maxRecDepth 100000 in
theorem k_X7_lacksExchange {l : Launch} {G : pm_G} {H0 : Heap} {th : Nat} {M : pm_M} {Post : Int32 → pm_M → Prop} (t_th : pm_is M th 6) (hw : w_X7_lacksExchange th M Post) : pm_C l G H0 yX7_lacksExchange cX7_lacksExchange 3 (some .boolean) rm_X7_lacksExchange [.ref (H0.size + th)] M (pm_Pi Post) := by
  refine pm_start (by decide +kernel) (Nat.le_of_ble_eq_true rfl) ?_
  intro p e s m args below meth c H ls E hret hnm hI hl
  have hX : pm_X M M := pm_X.rf
  have hl : lv_has ls 3 [(0, .ref (H0.size + th))] := hl
  have hx := E.1
  have hb := E.2.1
  have hown := E.2.2.2.1
  have hts := E.2.2.2.2.1
  unfold w_X7_lacksExchange at hw
  refine lv_iconst (v := (0 : Int32)) hx hb dX7_lacksExchange_0 (by decide) ?_
  refine lv_istore_n (lv' := [(1, .int (0 : Int32)), (0, .ref (H0.size + th))]) hx hb dX7_lacksExchange_1 rfl hl (by decide) rfl (fun ls hl_1 => ?_)
  obtain ⟨n_2, hw⟩ := hw
  exact c_X7_lacksExchange_2 E hret n_2 _ _ _ _ _ hX hI t_th (lv_sub hl_1 [1, 0] rfl) hw
set_option maxHeartbeats 4000000 in
set_option maxRecDepth 100000 in
theorem c_X7_breaksLaw_41 {p : Program} {l : Launch} {e : Env} {s : State} {m : MethodId} {args : Array Value} {below : List Frame} {meth : Method} {c : Code} {G : pm_G} {H0 : Heap} {M0 : pm_M} {Post : Int32 → pm_M → Prop} {s0 : Int32} {M : pm_M} (E : pm_E G p s m args meth c cX7_breaksLaw 2 RX7) (hret : meth.sig.returnType = (some .boolean)) {H : Heap} {locs : List Loc} {ls : Array Slot} (hX : pm_X M0 M) (hI : pm_I G H0 M H locs) (hl : lv_has ls 2 []) (hw : w_X7_breaksLaw_41 Post s0 M) : W p l e rm_X7_breaksLaw s m args below meth c H locs 0 0 (pm_Z G H0 M0 (pm_Pi Post) below args s rm_X7_breaksLaw.cells rm_X7_breaksLaw.slots) (F0 m 41 ls [.int s0]) := by
  have hx := E.1
  have hb := E.2.1
  have hown := E.2.2.2.1
  have hts := E.2.2.2.2.1
  unfold w_X7_breaksLaw_41 at hw
  exact pm_zret E hret hI hX (pm_nb hw.1) ⟨_, rfl, hw.2⟩ (by decide) (by decide) dX7_breaksLaw_41
set_option maxHeartbeats 4000000 in
set_option maxRecDepth 100000 in
theorem c_X7_breaksLaw_36 {p : Program} {l : Launch} {e : Env} {s : State} {m : MethodId} {args : Array Value} {below : List Frame} {meth : Method} {c : Code} {G : pm_G} {H0 : Heap} {M0 : pm_M} {Post : Int32 → pm_M → Prop} {M : pm_M} (E : pm_E G p s m args meth c cX7_breaksLaw 2 RX7) (hret : meth.sig.returnType = (some .boolean)) {H : Heap} {locs : List Loc} {ls : Array Slot} (hX : pm_X M0 M) (hI : pm_I G H0 M H locs) (hl : lv_has ls 2 []) (hw : w_X7_breaksLaw_36 Post M) : W p l e rm_X7_breaksLaw s m args below meth c H locs 0 0 (pm_Z G H0 M0 (pm_Pi Post) below args s rm_X7_breaksLaw.cells rm_X7_breaksLaw.slots) (F0 m 36 ls []) := by
  have hx := E.1
  have hb := E.2.1
  have hown := E.2.2.2.1
  have hts := E.2.2.2.2.1
  unfold w_X7_breaksLaw_36 at hw
  refine lv_iconst (v := (1 : Int32)) hx hb dX7_breaksLaw_36 (by decide) ?_
  refine lv_goto (tgt := 41) hx hb dX7_breaksLaw_37 (by decide) ?_
  exact c_X7_breaksLaw_41 E hret hX hI (lv_sub hl [] rfl) hw
set_option maxHeartbeats 4000000 in
set_option maxRecDepth 100000 in
theorem k_X7_breaksLaw {l : Launch} {G : pm_G} {H0 : Heap} {th : Nat} {a1 : Int32} {M : pm_M} {Post : Int32 → pm_M → Prop} (t_th : pm_is M th 6) (hw : w_X7_breaksLaw th a1 M Post) : pm_C l G H0 yX7_breaksLaw cX7_breaksLaw 2 (some .boolean) rm_X7_breaksLaw [.ref (H0.size + th), .int a1] M (pm_Pi Post) := by
  refine pm_start (by decide +kernel) (Nat.le_of_ble_eq_true rfl) ?_
  intro p e s m args below meth c H ls E hret hnm hI hl
  have hX : pm_X M M := pm_X.rf
  have hl : lv_has ls 2 [(0, .ref (H0.size + th)), (1, .int a1)] := hl
  have hx := E.1
  have hb := E.2.1
  have hown := E.2.2.2.1
  have hts := E.2.2.2.2.1
  unfold w_X7_breaksLaw at hw
  refine lv_aload_n hx hb dX7_breaksLaw_0 rfl (lv_at hl 0 rfl) ?_
  refine lv_iload_n hx hb dX7_breaksLaw_1 rfl (lv_at hl 1 rfl) ?_
  refine pm_callV (As := [.int a1]) (rest := []) 1 E hI (k_X7_listSets t_th hw) t_th (by decide) rfl kc_X7_listSets kl_X7_29 km_X7_listSets ks_X7_listSets ki_X7 (by decide +kernel) ⟨by decide, by decide⟩ rfl hl.1 rfl (by first | exact Nat.le_of_ble_eq_true rfl | (simp only [List.map, pm_rf_cat]; exact Nat.le_of_ble_eq_true rfl)) dX7_breaksLaw_2 ⟨by decide, by decide⟩ (fun r9 M_1 H locs hp hX1 hI => ?_)
  clear hw
  obtain ⟨rfl, hw⟩ := hp
  replace t_th := t_th.x hX1
  replace hX := hX.tr hX1
  refine pm_nrm (cells' := 0) (slots' := 0) (g2 := F0 m 5 ls []) rfl rfl rfl ?_
  refine lv_aload_n hx hb dX7_breaksLaw_5 rfl (lv_at hl 0 rfl) ?_
  refine lv_iconst (v := (0 : Int32)) hx hb dX7_breaksLaw_6 (by decide) ?_
  refine pm_callV (As := [.int (0 : Int32)]) (rest := []) 1 E hI (k_X7_fits t_th hw) t_th (by decide) rfl kc_X7_fits kl_X7_33 km_X7_fits ks_X7_fits ki_X7 (by decide +kernel) ⟨by decide, by decide⟩ rfl hl.1 rfl (by first | exact Nat.le_of_ble_eq_true rfl | (simp only [List.map, pm_rf_cat]; exact Nat.le_of_ble_eq_true rfl)) dX7_breaksLaw_7 ⟨by decide, by decide⟩ (fun r9 M9 H locs hp hX1 hI => ?_)
  clear hw
  obtain ⟨r_2, rfl, rfl, hw⟩ := hp
  refine pm_nrm (cells' := 0) (slots' := 0) (g2 := F0 m 10 ls [.int r_2]) rfl rfl rfl ?_
  refine lv_if_ne (tgt := 22) hx hb dX7_breaksLaw_10 (by decide) (fun h_3 => ?_) (fun h_3 => ?_)
  · replace hw := hw.1 h_3
    refine lv_aload_n hx hb dX7_breaksLaw_22 rfl (lv_at hl 0 rfl) ?_
    refine pm_callV (As := []) (rest := []) 0 E hI (k_X7_lacksPart t_th hw) t_th (by decide) rfl kc_X7_lacksPart kl_X7_37 km_X7_lacksPart ks_X7_lacksPart ki_X7 (by decide +kernel) ⟨by decide, by decide⟩ rfl hl.1 rfl (by first | exact Nat.le_of_ble_eq_true rfl | (simp only [List.map, pm_rf_cat]; exact Nat.le_of_ble_eq_true rfl)) dX7_breaksLaw_23 ⟨by decide, by decide⟩ (fun r9 M_4 H locs hp hX1 hI => ?_)
    clear hw
    obtain ⟨r_5, rfl, hw⟩ := hp
    replace t_th := t_th.x hX1
    replace hX := hX.tr hX1
    refine pm_nrm (cells' := 0) (slots' := 0) (g2 := F0 m 26 ls [.int r_5]) rfl rfl rfl ?_
    refine lv_if_ne (tgt := 36) hx hb dX7_breaksLaw_26 (by decide) (fun h_6 => ?_) (fun h_6 => ?_)
    · replace hw := hw.1 h_6
      exact c_X7_breaksLaw_36 E hret hX hI (lv_sub hl [] rfl) hw
    · replace hw := hw.2 h_6
      refine lv_aload_n hx hb dX7_breaksLaw_29 rfl (lv_at hl 0 rfl) ?_
      refine pm_callV (As := []) (rest := []) 0 E hI (k_X7_lacksExchange t_th hw) t_th (by decide) rfl kc_X7_lacksExchange kl_X7_41 km_X7_lacksExchange ks_X7_lacksExchange ki_X7 (by decide +kernel) ⟨by decide, by decide⟩ rfl hl.1 rfl (by first | exact Nat.le_of_ble_eq_true rfl | (simp only [List.map, pm_rf_cat]; exact Nat.le_of_ble_eq_true rfl)) dX7_breaksLaw_30 ⟨by decide, by decide⟩ (fun r9 M_7 H locs hp hX1 hI => ?_)
      clear hw
      obtain ⟨r_8, rfl, hw⟩ := hp
      replace t_th := t_th.x hX1
      replace hX := hX.tr hX1
      refine pm_nrm (cells' := 0) (slots' := 0) (g2 := F0 m 33 ls [.int r_8]) rfl rfl rfl ?_
      refine lv_if_eq (tgt := 40) hx hb dX7_breaksLaw_33 (by decide) (fun h_9 => ?_) (fun h_9 => ?_)
      · replace hw := hw.1 h_9
        refine lv_iconst (v := (0 : Int32)) hx hb dX7_breaksLaw_40 (by decide) ?_
        exact c_X7_breaksLaw_41 E hret hX hI (lv_sub hl [] rfl) hw
      · replace hw := hw.2 h_9
        exact c_X7_breaksLaw_36 E hret hX hI (lv_sub hl [] rfl) hw
  · replace hw := hw.2 h_3
    refine lv_aload_n hx hb dX7_breaksLaw_13 rfl (lv_at hl 0 rfl) ?_
    refine lv_iconst (v := (1 : Int32)) hx hb dX7_breaksLaw_14 (by decide) ?_
    refine lv_iconst (v := (0 : Int32)) hx hb dX7_breaksLaw_15 (by decide) ?_
    refine lv_iconst (v := (0 : Int32)) hx hb dX7_breaksLaw_16 (by decide) ?_
    refine pm_callV (As := [.int (1 : Int32), .int (0 : Int32), .int (0 : Int32)]) (rest := []) 3 E hI (k_X7_noteBreach t_th hw) t_th (by decide) rfl kc_X7_noteBreach kl_X7_19 km_X7_noteBreach ks_X7_noteBreach ki_X7 (by decide +kernel) ⟨by decide, by decide⟩ rfl hl.1 rfl (by first | exact Nat.le_of_ble_eq_true rfl | (simp only [List.map, pm_rf_cat]; exact Nat.le_of_ble_eq_true rfl)) dX7_breaksLaw_17 ⟨by decide, by decide⟩ (fun r9 M_10 H locs hp hX1 hI => ?_)
    clear hw
    obtain ⟨rfl, hw⟩ := hp
    replace t_th := t_th.x hX1
    replace hX := hX.tr hX1
    refine pm_nrm (cells' := 0) (slots' := 0) (g2 := F0 m 20 ls []) rfl rfl rfl ?_
    refine lv_iconst (v := (1 : Int32)) hx hb dX7_breaksLaw_20 (by decide) ?_
    exact pm_zret E hret hI hX rfl ⟨_, rfl, hw⟩ (by decide) (by decide) dX7_breaksLaw_21
set_option maxHeartbeats 4000000 in
set_option maxRecDepth 100000 in
theorem c_X8_readRows_103 {p : Program} {l : Launch} {e : Env} {s : State} {m : MethodId} {args : Array Value} {below : List Frame} {meth : Method} {c : Code} {G : pm_G} {H0 : Heap} {M0 : pm_M} {Post : pm_M → Prop} {M : pm_M} (E : pm_E G p s m args meth c cX8_readRows 5 RX8) (hret : meth.sig.returnType = none) {H : Heap} {locs : List Loc} {ls : Array Slot} (hX : pm_X M0 M) (hI : pm_I G H0 M H locs) (hl : lv_has ls 5 []) (hw : w_X8_readRows_103 Post M) : W p l e rm_X8_readRows s m args below meth c H locs 0 0 (pm_Z G H0 M0 (pm_Pv Post) below args s rm_X8_readRows.cells rm_X8_readRows.slots) (F0 m 103 ls []) := by
  have hx := E.1
  have hb := E.2.1
  have hown := E.2.2.2.1
  have hts := E.2.2.2.2.1
  unfold w_X8_readRows_103 at hw
  exact pm_vret E hret hI hX ⟨rfl, hw⟩ (by decide) (by decide) dX8_readRows_103
set_option maxHeartbeats 4000000 in
set_option maxRecDepth 100000 in
theorem c_X8_readRows_62 {p : Program} {l : Launch} {e : Env} {s : State} {m : MethodId} {args : Array Value} {below : List Frame} {meth : Method} {c : Code} {G : pm_G} {H0 : Heap} {M0 : pm_M} {Post : pm_M → Prop} {v0 : Nat} {v1 : Nat} {v2 : Int32} {v3 : Int32} {k_45 : Int32 → pm_M → Prop} (E : pm_E G p s m args meth c cX8_readRows 5 RX8) (hret : meth.sig.returnType = none) (hk_45 : ∀ (v3 : Int32) (M : pm_M) (H : Heap) (locs : List Loc) (ls : Array Slot), pm_X M0 M → pm_I G H0 M H locs → (pm_is M v0 7) → (pm_is M v1 3) → lv_has ls 5 [(0, .ref (H0.size + v0)), (1, .ref (H0.size + v1)), (2, .int v2), (3, .int v3)] → k_45 v3 M → W p l e rm_X8_readRows s m args below meth c H locs 0 0 (pm_Z G H0 M0 (pm_Pv Post) below args s rm_X8_readRows.cells rm_X8_readRows.slots) (F0 m 45 ls [])) : ∀ (n : Nat) (v4 : Int32) (M : pm_M) (H : Heap) (locs : List Loc) (ls : Array Slot), pm_X M0 M → pm_I G H0 M H locs → (pm_is M v0 7) → (pm_is M v1 3) → lv_has ls 5 [(0, .ref (H0.size + v0)), (1, .ref (H0.size + v1)), (2, .int v2), (3, .int v3), (4, .int v4)] → w_X8_readRows_62 Post k_45 v0 v1 v2 v3 n v4 M → W p l e rm_X8_readRows s m args below meth c H locs 0 0 (pm_Z G H0 M0 (pm_Pv Post) below args s rm_X8_readRows.cells rm_X8_readRows.slots) (F0 m 62 ls []) := by
  have hx := E.1
  have hb := E.2.1
  have hown := E.2.2.2.1
  have hts := E.2.2.2.2.1
  intro n
  induction n with
  | zero =>
    intro v4 M H locs ls hX hI t_v0 t_v1 hl hw
    unfold w_X8_readRows_62 at hw
    exact hw.elim
  | succ n ih =>
    intro v4 M H locs ls hX hI t_v0 t_v1 hl hw
    unfold w_X8_readRows_62 at hw
    refine lv_iload hx hb dX8_readRows_62 (lv_at hl 4 rfl) ?_
    refine lv_aload_n hx hb dX8_readRows_64 rfl (lv_at hl 0 rfl) ?_
    refine gf_X8_27 E hI t_v0 dX8_readRows_65 ?_
    refine lv_icmp_ge (tgt := 97) hx hb dX8_readRows_68 (by decide) (fun h_1 => ?_) (fun h_1 => ?_)
    · replace hw := hw.1 h_1
      obtain ⟨x_2, e_x_2⟩ : ∃ z : Int32, z = v3 + (1 : Int32) := ⟨_, rfl⟩
      refine lv_iinc (v := x_2) (lv' := [(3, .int x_2), (0, .ref (H0.size + v0)), (1, .ref (H0.size + v1)), (2, .int v2), (4, .int v4)]) hx hb dX8_readRows_97 hl (k := 3) rfl (by rw [e_x_2]; rfl) (by decide) rfl (fun ls hl_3 => ?_)
      replace hw := hw x_2 e_x_2
      refine lv_goto (tgt := 45) hx hb dX8_readRows_100 (by decide) ?_
      exact hk_45 _ _ _ _ _ hX hI t_v0 t_v1 (lv_sub hl_3 [1, 2, 3, 0] rfl) hw
    · replace hw := hw.2 h_1
      refine lv_aload_n hx hb dX8_readRows_71 rfl (lv_at hl 0 rfl) ?_
      obtain ⟨q_4, e_q_4, hw⟩ := hw
      refine gf_X8_11 E hI t_v0 dX8_readRows_72 e_q_4 (fun t_q_4 => ?_)
      refine lv_iload_n hx hb dX8_readRows_75 rfl (lv_at hl 3 rfl) ?_
      obtain ⟨h_5, hw⟩ := hw
      refine ps_aaldInts E hI t_q_4 h_5 dX8_readRows_76 (fun o_6 e_o_6 o_o_6 => ?_)
      replace hw := hw o_6 e_o_6
      refine lv_iload hx hb dX8_readRows_77 (lv_at hl 4 rfl) ?_
      refine lv_aload_n hx hb dX8_readRows_79 rfl (lv_at hl 1 rfl) ?_
      refine lv_iconst (v := (0 : Int32)) hx hb dX8_readRows_80 (by decide) ?_
      refine lv_aload_n hx hb dX8_readRows_81 rfl (lv_at hl 0 rfl) ?_
      refine gf_X8_23 E hI t_v0 dX8_readRows_82 ?_
      refine lv_iconst (v := (1 : Int32)) hx hb dX8_readRows_85 (by decide) ?_
      refine lv_isub hx hb dX8_readRows_86 ?_
      refine pm_callV (As := [.int (0 : Int32), .int ((mI M v0 3) - (1 : Int32))]) (rest := [.int v4, pm_rf H0.size o_6]) 2 E hI (k_X4_next t_v1 hw) t_v1 (by decide) rfl kc_X4_next kl_X8_30 km_X4_next ks_X4_next ki_X4 (by decide +kernel) ⟨by decide, by decide⟩ rfl hl.1 rfl (by first | exact Nat.le_of_ble_eq_true rfl | (simp only [List.map, pm_rf_cat]; exact Nat.le_of_ble_eq_true rfl)) dX8_readRows_87 ⟨by decide, by decide⟩ (fun r9 M_7 H locs hp hX1 hI => ?_)
      clear hw
      obtain ⟨r_8, rfl, hw⟩ := hp
      replace t_v0 := t_v0.x hX1
      replace t_v1 := t_v1.x hX1
      replace o_o_6 := fun b h => (o_o_6 b h).x hX1
      replace hX := hX.tr hX1
      refine pm_nrm (cells' := 0) (slots' := 0) (g2 := F0 m 90 ls [.int r_8, .int v4, pm_rf H0.size o_6]) rfl rfl rfl ?_
      obtain ⟨q_9, hq, hw⟩ := hw
      subst hq
      have t_q_9 := o_o_6 q_9 rfl
      refine W.eq (g2 := F0 m 90 ls [.int r_8, .int v4, .ref (H0.size + q_9)]) rfl ?_
      obtain ⟨h_10, hw⟩ := hw
      refine ps_iast E hI t_q_9 h_10 dX8_readRows_90 (fun H locs M_11 e_M_11 hX1 hI => ?_)
      replace hw := hw M_11 e_M_11
      replace t_v0 := t_v0.x hX1
      replace t_v1 := t_v1.x hX1
      replace hX := hX.tr hX1
      obtain ⟨x_12, e_x_12⟩ : ∃ z : Int32, z = v4 + (1 : Int32) := ⟨_, rfl⟩
      refine lv_iinc (v := x_12) (lv' := [(4, .int x_12), (0, .ref (H0.size + v0)), (1, .ref (H0.size + v1)), (2, .int v2), (3, .int v3)]) hx hb dX8_readRows_91 hl (k := 4) rfl (by rw [e_x_12]; rfl) (by decide) rfl (fun ls hl_13 => ?_)
      replace hw := hw x_12 e_x_12
      refine lv_goto (tgt := 62) hx hb dX8_readRows_94 (by decide) ?_
      exact ih _ _ _ _ _ hX hI t_v0 t_v1 (lv_sub hl_13 [1, 2, 3, 4, 0] rfl) hw
set_option maxHeartbeats 4000000 in
set_option maxRecDepth 100000 in
theorem c_X8_readRows_45 {p : Program} {l : Launch} {e : Env} {s : State} {m : MethodId} {args : Array Value} {below : List Frame} {meth : Method} {c : Code} {G : pm_G} {H0 : Heap} {M0 : pm_M} {Post : pm_M → Prop} {v0 : Nat} {v1 : Nat} {v2 : Int32} (E : pm_E G p s m args meth c cX8_readRows 5 RX8) (hret : meth.sig.returnType = none) : ∀ (n : Nat) (v3 : Int32) (M : pm_M) (H : Heap) (locs : List Loc) (ls : Array Slot), pm_X M0 M → pm_I G H0 M H locs → (pm_is M v0 7) → (pm_is M v1 3) → lv_has ls 5 [(0, .ref (H0.size + v0)), (1, .ref (H0.size + v1)), (2, .int v2), (3, .int v3)] → w_X8_readRows_45 Post v0 v1 v2 n v3 M → W p l e rm_X8_readRows s m args below meth c H locs 0 0 (pm_Z G H0 M0 (pm_Pv Post) below args s rm_X8_readRows.cells rm_X8_readRows.slots) (F0 m 45 ls []) := by
  have hx := E.1
  have hb := E.2.1
  have hown := E.2.2.2.1
  have hts := E.2.2.2.2.1
  intro n
  induction n with
  | zero =>
    intro v3 M H locs ls hX hI t_v0 t_v1 hl hw
    unfold w_X8_readRows_45 at hw
    exact hw.elim
  | succ n ih =>
    intro v3 M H locs ls hX hI t_v0 t_v1 hl hw
    unfold w_X8_readRows_45 at hw
    refine lv_iload_n hx hb dX8_readRows_45 rfl (lv_at hl 3 rfl) ?_
    refine lv_iload_n hx hb dX8_readRows_46 rfl (lv_at hl 2 rfl) ?_
    refine lv_icmp_ge (tgt := 103) hx hb dX8_readRows_47 (by decide) (fun h_1 => ?_) (fun h_1 => ?_)
    · replace hw := hw.1 h_1
      exact c_X8_readRows_103 E hret hX hI (lv_sub hl [] rfl) hw
    · replace hw := hw.2 h_1
      refine lv_iload_n hx hb dX8_readRows_50 rfl (lv_at hl 3 rfl) ?_
      refine lv_aload_n hx hb dX8_readRows_51 rfl (lv_at hl 0 rfl) ?_
      obtain ⟨q_2, e_q_2, hw⟩ := hw
      refine gf_X8_11 E hI t_v0 dX8_readRows_52 e_q_2 (fun t_q_2 => ?_)
      refine ps_alenInts E hI t_q_2 dX8_readRows_55 ?_
      refine lv_icmp_ge (tgt := 103) hx hb dX8_readRows_56 (by decide) (fun h_3 => ?_) (fun h_3 => ?_)
      · replace hw := hw.1 h_3
        exact c_X8_readRows_103 E hret hX hI (lv_sub hl [] rfl) hw
      · replace hw := hw.2 h_3
        refine lv_iconst (v := (0 : Int32)) hx hb dX8_readRows_59 (by decide) ?_
        refine lv_istore (lv' := [(4, .int (0 : Int32)), (0, .ref (H0.size + v0)), (1, .ref (H0.size + v1)), (2, .int v2), (3, .int v3)]) hx hb dX8_readRows_60 hl (by decide) rfl (fun ls hl_4 => ?_)
        obtain ⟨n_5, hw⟩ := hw
        exact c_X8_readRows_62 E hret ih n_5 _ _ _ _ _ hX hI t_v0 t_v1 (lv_sub hl_4 [1, 2, 3, 4, 0] rfl) hw
set_option maxHeartbeats 4000000 in
set_option maxRecDepth 100000 in
theorem c_X8_readRows_32 {p : Program} {l : Launch} {e : Env} {s : State} {m : MethodId} {args : Array Value} {below : List Frame} {meth : Method} {c : Code} {G : pm_G} {H0 : Heap} {M0 : pm_M} {Post : pm_M → Prop} {v0 : Nat} {v1 : Nat} {v2 : Int32} {M : pm_M} (E : pm_E G p s m args meth c cX8_readRows 5 RX8) (hret : meth.sig.returnType = none) {H : Heap} {locs : List Loc} {ls : Array Slot} (hX : pm_X M0 M) (hI : pm_I G H0 M H locs) (t_v0 : pm_is M v0 7) (t_v1 : pm_is M v1 3) (hl : lv_has ls 5 [(0, .ref (H0.size + v0)), (1, .ref (H0.size + v1)), (2, .int v2)]) (hw : w_X8_readRows_32 Post v0 v1 v2 M) : W p l e rm_X8_readRows s m args below meth c H locs 0 0 (pm_Z G H0 M0 (pm_Pv Post) below args s rm_X8_readRows.cells rm_X8_readRows.slots) (F0 m 32 ls []) := by
  have hx := E.1
  have hb := E.2.1
  have hown := E.2.2.2.1
  have hts := E.2.2.2.2.1
  unfold w_X8_readRows_32 at hw
  refine lv_aload_n hx hb dX8_readRows_32 rfl (lv_at hl 0 rfl) ?_
  refine lv_aload_n hx hb dX8_readRows_33 rfl (lv_at hl 1 rfl) ?_
  refine lv_iconst (v := (1 : Int32)) hx hb dX8_readRows_34 (by decide) ?_
  refine lv_bipush (v := (6 : Int32)) hx hb dX8_readRows_35 (by decide) ?_
  refine pm_callV (As := [.int (1 : Int32), .int (6 : Int32)]) (rest := [.ref (H0.size + v0)]) 2 E hI (k_X4_next t_v1 hw) t_v1 (by decide) rfl kc_X4_next kl_X8_30 km_X4_next ks_X4_next ki_X4 (by decide +kernel) ⟨by decide, by decide⟩ rfl hl.1 rfl (by first | exact Nat.le_of_ble_eq_true rfl | (simp only [List.map, pm_rf_cat]; exact Nat.le_of_ble_eq_true rfl)) dX8_readRows_37 ⟨by decide, by decide⟩ (fun r9 M_1 H locs hp hX1 hI => ?_)
  clear hw
  obtain ⟨r_2, rfl, hw⟩ := hp
  replace t_v0 := t_v0.x hX1
  replace t_v1 := t_v1.x hX1
  replace hX := hX.tr hX1
  refine pm_nrm (cells' := 0) (slots' := 0) (g2 := F0 m 40 ls [.int r_2, .ref (H0.size + v0)]) rfl rfl rfl ?_
  refine pf_X8_27 E hI t_v0 dX8_readRows_40 (fun H locs M_3 e_M_3 hX1 hI => ?_)
  replace hw := hw M_3 e_M_3
  replace t_v0 := t_v0.x hX1
  replace t_v1 := t_v1.x hX1
  replace hX := hX.tr hX1
  refine lv_iconst (v := (0 : Int32)) hx hb dX8_readRows_43 (by decide) ?_
  refine lv_istore_n (lv' := [(3, .int (0 : Int32)), (0, .ref (H0.size + v0)), (1, .ref (H0.size + v1)), (2, .int v2)]) hx hb dX8_readRows_44 rfl hl (by decide) rfl (fun ls hl_4 => ?_)
  obtain ⟨n_5, hw⟩ := hw
  exact c_X8_readRows_45 E hret n_5 _ _ _ _ _ hX hI t_v0 t_v1 (lv_sub hl_4 [1, 2, 3, 0] rfl) hw
set_option maxHeartbeats 4000000 in
set_option maxRecDepth 100000 in
theorem c_X8_readRows_28 {p : Program} {l : Launch} {e : Env} {s : State} {m : MethodId} {args : Array Value} {below : List Frame} {meth : Method} {c : Code} {G : pm_G} {H0 : Heap} {M0 : pm_M} {Post : pm_M → Prop} {v0 : Nat} {v1 : Nat} {v2 : Int32} {M : pm_M} (E : pm_E G p s m args meth c cX8_readRows 5 RX8) (hret : meth.sig.returnType = none) {H : Heap} {locs : List Loc} {ls : Array Slot} (hX : pm_X M0 M) (hI : pm_I G H0 M H locs) (t_v0 : pm_is M v0 7) (t_v1 : pm_is M v1 3) (hl : lv_has ls 5 [(0, .ref (H0.size + v0)), (1, .ref (H0.size + v1)), (2, .int v2)]) (hw : w_X8_readRows_28 Post v0 v1 v2 M) : W p l e rm_X8_readRows s m args below meth c H locs 0 0 (pm_Z G H0 M0 (pm_Pv Post) below args s rm_X8_readRows.cells rm_X8_readRows.slots) (F0 m 28 ls []) := by
  have hx := E.1
  have hb := E.2.1
  have hown := E.2.2.2.1
  have hts := E.2.2.2.2.1
  unfold w_X8_readRows_28 at hw
  refine lv_aload_n hx hb dX8_readRows_28 rfl (lv_at hl 1 rfl) ?_
  refine pm_callV (As := []) (rest := []) 0 E hI (k_X4_refuseLast t_v1 hw) t_v1 (by decide) rfl kc_X4_refuseLast kl_X8_36 km_X4_refuseLast ks_X4_refuseLast ki_X4 (by decide +kernel) ⟨by decide, by decide⟩ rfl hl.1 rfl (by first | exact Nat.le_of_ble_eq_true rfl | (simp only [List.map, pm_rf_cat]; exact Nat.le_of_ble_eq_true rfl)) dX8_readRows_29 ⟨by decide, by decide⟩ (fun r9 M_1 H locs hp hX1 hI => ?_)
  clear hw
  obtain ⟨rfl, hw⟩ := hp
  replace t_v0 := t_v0.x hX1
  replace t_v1 := t_v1.x hX1
  replace hX := hX.tr hX1
  refine pm_nrm (cells' := 0) (slots' := 0) (g2 := F0 m 32 ls []) rfl rfl rfl ?_
  exact c_X8_readRows_32 E hret hX hI t_v0 t_v1 (lv_sub hl [0, 1, 2] rfl) hw
set_option maxHeartbeats 4000000 in
set_option maxRecDepth 100000 in
theorem k_X8_readRows {l : Launch} {G : pm_G} {H0 : Heap} {th : Nat} {a1 : Nat} {a2 : Int32} {M : pm_M} {Post : pm_M → Prop} (t_th : pm_is M th 7) (t_a1 : pm_is M a1 3) (hw : w_X8_readRows th a1 a2 M Post) : pm_C l G H0 yX8_readRows cX8_readRows 5 none rm_X8_readRows [.ref (H0.size + th), .ref (H0.size + a1), .int a2] M (pm_Pv Post) := by
  refine pm_start (by decide +kernel) (Nat.le_of_ble_eq_true rfl) ?_
  intro p e s m args below meth c H ls E hret hnm hI hl
  have hX : pm_X M M := pm_X.rf
  have hl : lv_has ls 5 [(0, .ref (H0.size + th)), (1, .ref (H0.size + a1)), (2, .int a2)] := hl
  have hx := E.1
  have hb := E.2.1
  have hown := E.2.2.2.1
  have hts := E.2.2.2.2.1
  unfold w_X8_readRows at hw
  refine lv_aload_n hx hb dX8_readRows_0 rfl (lv_at hl 0 rfl) ?_
  refine lv_aload_n hx hb dX8_readRows_1 rfl (lv_at hl 1 rfl) ?_
  refine lv_iconst (v := (2 : Int32)) hx hb dX8_readRows_2 (by decide) ?_
  refine lv_bipush (v := (7 : Int32)) hx hb dX8_readRows_3 (by decide) ?_
  refine pm_callV (As := [.int (2 : Int32), .int (7 : Int32)]) (rest := [.ref (H0.size + th)]) 2 E hI (k_X4_next t_a1 hw) t_a1 (by decide) rfl kc_X4_next kl_X8_30 km_X4_next ks_X4_next ki_X4 (by decide +kernel) ⟨by decide, by decide⟩ rfl hl.1 rfl (by first | exact Nat.le_of_ble_eq_true rfl | (simp only [List.map, pm_rf_cat]; exact Nat.le_of_ble_eq_true rfl)) dX8_readRows_5 ⟨by decide, by decide⟩ (fun r9 M_1 H locs hp hX1 hI => ?_)
  clear hw
  obtain ⟨r_2, rfl, hw⟩ := hp
  replace t_th := t_th.x hX1
  replace t_a1 := t_a1.x hX1
  replace hX := hX.tr hX1
  refine pm_nrm (cells' := 0) (slots' := 0) (g2 := F0 m 8 ls [.int r_2, .ref (H0.size + th)]) rfl rfl rfl ?_
  refine pf_X8_23 E hI t_th dX8_readRows_8 (fun H locs M_3 e_M_3 hX1 hI => ?_)
  replace hw := hw M_3 e_M_3
  replace t_th := t_th.x hX1
  replace t_a1 := t_a1.x hX1
  replace hX := hX.tr hX1
  refine lv_aload_n hx hb dX8_readRows_11 rfl (lv_at hl 0 rfl) ?_
  refine gf_X8_23 E hI t_th dX8_readRows_12 ?_
  refine lv_iconst (v := (4 : Int32)) hx hb dX8_readRows_15 (by decide) ?_
  refine lv_icmp_eq (tgt := 28) hx hb dX8_readRows_16 (by decide) (fun h_4 => ?_) (fun h_4 => ?_)
  · replace hw := hw.1 h_4
    exact c_X8_readRows_28 E hret hX hI t_th t_a1 (lv_sub hl [0, 1, 2] rfl) hw
  · replace hw := hw.2 h_4
    refine lv_aload_n hx hb dX8_readRows_19 rfl (lv_at hl 0 rfl) ?_
    refine gf_X8_23 E hI t_th dX8_readRows_20 ?_
    refine lv_bipush (v := (6 : Int32)) hx hb dX8_readRows_23 (by decide) ?_
    refine lv_icmp_ne (tgt := 32) hx hb dX8_readRows_25 (by decide) (fun h_5 => ?_) (fun h_5 => ?_)
    · replace hw := hw.1 h_5
      exact c_X8_readRows_32 E hret hX hI t_th t_a1 (lv_sub hl [0, 1, 2] rfl) hw
    · replace hw := hw.2 h_5
      exact c_X8_readRows_28 E hret hX hI t_th t_a1 (lv_sub hl [0, 1, 2] rfl) hw
set_option maxHeartbeats 4000000 in
set_option maxRecDepth 100000 in
theorem c_X9_startAnew_21 {p : Program} {l : Launch} {e : Env} {s : State} {m : MethodId} {args : Array Value} {below : List Frame} {meth : Method} {c : Code} {G : pm_G} {H0 : Heap} {M0 : pm_M} {Post : pm_M → Prop} {v0 : Nat} (E : pm_E G p s m args meth c cX9_startAnew 3 RX9) (hret : meth.sig.returnType = none) : ∀ (n : Nat) (v2 : Int32) (M : pm_M) (H : Heap) (locs : List Loc) (ls : Array Slot), pm_X M0 M → pm_I G H0 M H locs → (pm_is M v0 8) → lv_has ls 3 [(0, .ref (H0.size + v0)), (2, .int v2)] → w_X9_startAnew_21 Post v0 n v2 M → W p l e rm_X9_startAnew s m args below meth c H locs 0 0 (pm_Z G H0 M0 (pm_Pv Post) below args s rm_X9_startAnew.cells rm_X9_startAnew.slots) (F0 m 21 ls []) := by
  have hx := E.1
  have hb := E.2.1
  have hown := E.2.2.2.1
  have hts := E.2.2.2.2.1
  intro n
  induction n with
  | zero =>
    intro v2 M H locs ls hX hI t_v0 hl hw
    unfold w_X9_startAnew_21 at hw
    exact hw.elim
  | succ n ih =>
    intro v2 M H locs ls hX hI t_v0 hl hw
    unfold w_X9_startAnew_21 at hw
    refine lv_iload_n hx hb dX9_startAnew_21 rfl (lv_at hl 1 rfl) ?_
    refine lv_aload_n hx hb dX9_startAnew_22 rfl (lv_at hl 0 rfl) ?_
    obtain ⟨q_1, e_q_1, hw⟩ := hw
    refine gf_X9_21 E hI t_v0 dX9_startAnew_23 e_q_1 (fun t_q_1 => ?_)
    refine ps_alenI E hI t_q_1 dX9_startAnew_26 ?_
    refine lv_icmp_ge (tgt := 43) hx hb dX9_startAnew_27 (by decide) (fun h_2 => ?_) (fun h_2 => ?_)
    · replace hw := hw.1 h_2
      refine lv_aload_n hx hb dX9_startAnew_43 rfl (lv_at hl 0 rfl) ?_
      obtain ⟨q_3, e_q_3, hw⟩ := hw
      refine gf_X9_38 E hI t_v0 dX9_startAnew_44 e_q_3 (fun t_q_3 => ?_)
      refine pm_callV (As := []) (rest := []) 0 E hI (k_X7_forgetBreach t_q_3 hw) t_q_3 (by decide) rfl kc_X7_forgetBreach kl_X9_236 km_X7_forgetBreach ks_X7_forgetBreach ki_X7 (by decide +kernel) ⟨by decide, by decide⟩ rfl hl.1 rfl (by first | exact Nat.le_of_ble_eq_true rfl | (simp only [List.map, pm_rf_cat]; exact Nat.le_of_ble_eq_true rfl)) dX9_startAnew_47 ⟨by decide, by decide⟩ (fun r9 M_4 H locs hp hX1 hI => ?_)
      clear hw
      obtain ⟨rfl, hw⟩ := hp
      replace t_v0 := t_v0.x hX1
      replace hX := hX.tr hX1
      refine pm_nrm (cells' := 0) (slots' := 0) (g2 := F0 m 50 ls []) rfl rfl rfl ?_
      exact pm_vret E hret hI hX ⟨rfl, hw⟩ (by decide) (by decide) dX9_startAnew_50
    · replace hw := hw.2 h_2
      refine lv_aload_n hx hb dX9_startAnew_30 rfl (lv_at hl 0 rfl) ?_
      refine gf_X9_21 E hI t_v0 dX9_startAnew_31 e_q_1 (fun _ => ?_)
      refine lv_iload_n hx hb dX9_startAnew_34 rfl (lv_at hl 1 rfl) ?_
      refine lv_iconst (v := (1 : Int32)) hx hb dX9_startAnew_35 (by decide) ?_
      obtain ⟨h_5, hw⟩ := hw
      refine ps_iast E hI t_q_1 h_5 dX9_startAnew_36 (fun H locs M_6 e_M_6 hX1 hI => ?_)
      replace hw := hw M_6 e_M_6
      replace t_v0 := t_v0.x hX1
      replace hX := hX.tr hX1
      obtain ⟨x_7, e_x_7⟩ : ∃ z : Int32, z = v2 + (1 : Int32) := ⟨_, rfl⟩
      refine lv_iinc (v := x_7) (lv' := [(2, .int x_7), (0, .ref (H0.size + v0))]) hx hb dX9_startAnew_37 hl (k := 1) rfl (by rw [e_x_7]; rfl) (by decide) rfl (fun ls hl_8 => ?_)
      replace hw := hw x_7 e_x_7
      refine lv_goto (tgt := 21) hx hb dX9_startAnew_40 (by decide) ?_
      exact ih _ _ _ _ _ hX hI t_v0 (lv_sub hl_8 [1, 0] rfl) hw
set_option maxHeartbeats 4000000 in
set_option maxRecDepth 100000 in
theorem k_X9_startAnew {l : Launch} {G : pm_G} {H0 : Heap} {th : Nat} {a1 : Int32} {M : pm_M} {Post : pm_M → Prop} (t_th : pm_is M th 8) (hw : w_X9_startAnew th a1 M Post) : pm_C l G H0 yX9_startAnew cX9_startAnew 3 none rm_X9_startAnew [.ref (H0.size + th), .int a1] M (pm_Pv Post) := by
  refine pm_start (by decide +kernel) (Nat.le_of_ble_eq_true rfl) ?_
  intro p e s m args below meth c H ls E hret hnm hI hl
  have hX : pm_X M M := pm_X.rf
  have hl : lv_has ls 3 [(0, .ref (H0.size + th)), (1, .int a1)] := hl
  have hx := E.1
  have hb := E.2.1
  have hown := E.2.2.2.1
  have hts := E.2.2.2.2.1
  unfold w_X9_startAnew at hw
  refine lv_aload_n hx hb dX9_startAnew_0 rfl (lv_at hl 0 rfl) ?_
  refine lv_iload_n hx hb dX9_startAnew_1 rfl (lv_at hl 1 rfl) ?_
  refine pf_X9_187 E hI t_th dX9_startAnew_2 (fun H locs M_1 e_M_1 hX1 hI => ?_)
  replace hw := hw M_1 e_M_1
  replace t_th := t_th.x hX1
  replace hX := hX.tr hX1
  refine lv_aload_n hx hb dX9_startAnew_5 rfl (lv_at hl 0 rfl) ?_
  refine lv_iconst (v := (1 : Int32)) hx hb dX9_startAnew_6 (by decide) ?_
  refine lv_iload_n hx hb dX9_startAnew_7 rfl (lv_at hl 1 rfl) ?_
  refine lv_ishl hx hb dX9_startAnew_8 ?_
  refine lv_iconst (v := (1 : Int32)) hx hb dX9_startAnew_9 (by decide) ?_
  refine lv_isub hx hb dX9_startAnew_10 ?_
  refine pf_X9_135 E hI t_th dX9_startAnew_11 (fun H locs M_2 e_M_2 hX1 hI => ?_)
  replace hw := hw M_2 e_M_2
  replace t_th := t_th.x hX1
  replace hX := hX.tr hX1
  refine lv_aload_n hx hb dX9_startAnew_14 rfl (lv_at hl 0 rfl) ?_
  refine lv_iconst (v := (0 : Int32)) hx hb dX9_startAnew_15 (by decide) ?_
  refine pf_X9_118 E hI t_th dX9_startAnew_16 (fun H locs M_3 e_M_3 hX1 hI => ?_)
  replace hw := hw M_3 e_M_3
  replace t_th := t_th.x hX1
  replace hX := hX.tr hX1
  refine lv_iconst (v := (0 : Int32)) hx hb dX9_startAnew_19 (by decide) ?_
  refine lv_istore_n (lv' := [(2, .int (0 : Int32)), (0, .ref (H0.size + th)), (1, .int a1)]) hx hb dX9_startAnew_20 rfl hl (by decide) rfl (fun ls hl_4 => ?_)
  obtain ⟨n_5, hw⟩ := hw
  exact c_X9_startAnew_21 E hret n_5 _ _ _ _ _ hX hI t_th (lv_sub hl_4 [1, 0] rfl) hw
set_option maxHeartbeats 4000000 in
set_option maxRecDepth 100000 in
theorem c_X9_fresh_11 {p : Program} {l : Launch} {e : Env} {s : State} {m : MethodId} {args : Array Value} {below : List Frame} {meth : Method} {c : Code} {G : pm_G} {H0 : Heap} {M0 : pm_M} {Post : Int32 → pm_M → Prop} {M : pm_M} (E : pm_E G p s m args meth c cX9_fresh 2 RX9) (hret : meth.sig.returnType = (some .boolean)) {H : Heap} {locs : List Loc} {ls : Array Slot} (hX : pm_X M0 M) (hI : pm_I G H0 M H locs) (hl : lv_has ls 2 []) (hw : w_X9_fresh_11 Post M) : W p l e rm_X9_fresh s m args below meth c H locs 0 0 (pm_Z G H0 M0 (pm_Pi Post) below args s rm_X9_fresh.cells rm_X9_fresh.slots) (F0 m 11 ls []) := by
  have hx := E.1
  have hb := E.2.1
  have hown := E.2.2.2.1
  have hts := E.2.2.2.2.1
  unfold w_X9_fresh_11 at hw
  refine lv_iconst (v := (0 : Int32)) hx hb dX9_fresh_11 (by decide) ?_
  exact pm_zret E hret hI hX rfl ⟨_, rfl, hw⟩ (by decide) (by decide) dX9_fresh_12
set_option maxHeartbeats 4000000 in
set_option maxRecDepth 100000 in
theorem k_X9_fresh {l : Launch} {G : pm_G} {H0 : Heap} {th : Nat} {a1 : Int32} {M : pm_M} {Post : Int32 → pm_M → Prop} (t_th : pm_is M th 8) (hw : w_X9_fresh th a1 M Post) : pm_C l G H0 yX9_fresh cX9_fresh 2 (some .boolean) rm_X9_fresh [.ref (H0.size + th), .int a1] M (pm_Pi Post) := by
  refine pm_start (by decide +kernel) (Nat.le_of_ble_eq_true rfl) ?_
  intro p e s m args below meth c H ls E hret hnm hI hl
  have hX : pm_X M M := pm_X.rf
  have hl : lv_has ls 2 [(0, .ref (H0.size + th)), (1, .int a1)] := hl
  have hx := E.1
  have hb := E.2.1
  have hown := E.2.2.2.1
  have hts := E.2.2.2.2.1
  unfold w_X9_fresh at hw
  refine lv_iload_n hx hb dX9_fresh_0 rfl (lv_at hl 1 rfl) ?_
  refine lv_iconst (v := (1 : Int32)) hx hb dX9_fresh_1 (by decide) ?_
  refine lv_icmp_lt (tgt := 11) hx hb dX9_fresh_2 (by decide) (fun h_1 => ?_) (fun h_1 => ?_)
  · replace hw := hw.1 h_1
    exact c_X9_fresh_11 E hret hX hI (lv_sub hl [] rfl) hw
  · replace hw := hw.2 h_1
    refine lv_iload_n hx hb dX9_fresh_5 rfl (lv_at hl 1 rfl) ?_
    refine lv_bipush (v := (12 : Int32)) hx hb dX9_fresh_6 (by decide) ?_
    refine lv_icmp_le (tgt := 13) hx hb dX9_fresh_8 (by decide) (fun h_2 => ?_) (fun h_2 => ?_)
    · replace hw := hw.1 h_2
      refine lv_aload_n hx hb dX9_fresh_13 rfl (lv_at hl 0 rfl) ?_
      refine lv_iload_n hx hb dX9_fresh_14 rfl (lv_at hl 1 rfl) ?_
      refine pm_callV (As := [.int a1]) (rest := []) 1 E hI (k_X9_startAnew t_th hw) t_th (by decide) rfl kc_X9_startAnew kl_X9_64 km_X9_startAnew ks_X9_startAnew ki_X9 (by decide +kernel) ⟨by decide, by decide⟩ rfl hl.1 rfl (by first | exact Nat.le_of_ble_eq_true rfl | (simp only [List.map, pm_rf_cat]; exact Nat.le_of_ble_eq_true rfl)) dX9_fresh_15 ⟨by decide, by decide⟩ (fun r9 M_3 H locs hp hX1 hI => ?_)
      clear hw
      obtain ⟨rfl, hw⟩ := hp
      replace t_th := t_th.x hX1
      replace hX := hX.tr hX1
      refine pm_nrm (cells' := 0) (slots' := 0) (g2 := F0 m 18 ls []) rfl rfl rfl ?_
      refine lv_iconst (v := (1 : Int32)) hx hb dX9_fresh_18 (by decide) ?_
      exact pm_zret E hret hI hX rfl ⟨_, rfl, hw⟩ (by decide) (by decide) dX9_fresh_19
    · replace hw := hw.2 h_2
      exact c_X9_fresh_11 E hret hX hI (lv_sub hl [] rfl) hw
set_option maxHeartbeats 4000000 in
set_option maxRecDepth 100000 in
theorem c_X9_isThing_17 {p : Program} {l : Launch} {e : Env} {s : State} {m : MethodId} {args : Array Value} {below : List Frame} {meth : Method} {c : Code} {G : pm_G} {H0 : Heap} {Post : Int32 → Prop} {s0 : Int32} {M : pm_M} (E : pm_E G p s m args meth c cX9_isThing 2 RX9) (hret : meth.sig.returnType = (some .boolean)) {H : Heap} {locs : List Loc} {ls : Array Slot} (hI : pm_I G H0 M H locs) (hl : lv_has ls 2 []) (hw : w_X9_isThing_17 Post s0 M) : W p l e rm_X9_isThing s m args below meth c H locs 0 0 (pm_Z G H0 M (pm_Pi (fun r9 M9 => M = M9 ∧ Post r9)) below args s rm_X9_isThing.cells rm_X9_isThing.slots) (F0 m 17 ls [.int s0]) := by
  have hx := E.1
  have hb := E.2.1
  have hown := E.2.2.2.1
  have hts := E.2.2.2.2.1
  unfold w_X9_isThing_17 at hw
  exact pm_zret E hret hI pm_X.rf (pm_nb hw.1) ⟨_, rfl, rfl, hw.2⟩ (by decide) (by decide) dX9_isThing_17
set_option maxHeartbeats 4000000 in
set_option maxRecDepth 100000 in
theorem c_X9_isThing_16 {p : Program} {l : Launch} {e : Env} {s : State} {m : MethodId} {args : Array Value} {below : List Frame} {meth : Method} {c : Code} {G : pm_G} {H0 : Heap} {Post : Int32 → Prop} {M : pm_M} (E : pm_E G p s m args meth c cX9_isThing 2 RX9) (hret : meth.sig.returnType = (some .boolean)) {H : Heap} {locs : List Loc} {ls : Array Slot} (hI : pm_I G H0 M H locs) (hl : lv_has ls 2 []) (hw : w_X9_isThing_16 Post M) : W p l e rm_X9_isThing s m args below meth c H locs 0 0 (pm_Z G H0 M (pm_Pi (fun r9 M9 => M = M9 ∧ Post r9)) below args s rm_X9_isThing.cells rm_X9_isThing.slots) (F0 m 16 ls []) := by
  have hx := E.1
  have hb := E.2.1
  have hown := E.2.2.2.1
  have hts := E.2.2.2.2.1
  unfold w_X9_isThing_16 at hw
  refine lv_iconst (v := (0 : Int32)) hx hb dX9_isThing_16 (by decide) ?_
  exact c_X9_isThing_17 E hret hI (lv_sub hl [] rfl) hw
set_option maxHeartbeats 4000000 in
set_option maxRecDepth 100000 in
theorem k_X9_isThing {l : Launch} {G : pm_G} {H0 : Heap} {th : Nat} {a1 : Int32} {M : pm_M} {Post : Int32 → Prop} (t_th : pm_is M th 8) (hw : w_X9_isThing th a1 M Post) : pm_C l G H0 yX9_isThing cX9_isThing 2 (some .boolean) rm_X9_isThing [.ref (H0.size + th), .int a1] M (pm_Pi (fun r9 M9 => M = M9 ∧ Post r9)) := by
  refine pm_start (by decide +kernel) (Nat.le_of_ble_eq_true rfl) ?_
  intro p e s m args below meth c H ls E hret hnm hI hl
  have hl : lv_has ls 2 [(0, .ref (H0.size + th)), (1, .int a1)] := hl
  have hx := E.1
  have hb := E.2.1
  have hown := E.2.2.2.1
  have hts := E.2.2.2.2.1
  unfold w_X9_isThing at hw
  refine lv_iload_n hx hb dX9_isThing_0 rfl (lv_at hl 1 rfl) ?_
  refine lv_if_lt (tgt := 16) hx hb dX9_isThing_1 (by decide) (fun h_1 => ?_) (fun h_1 => ?_)
  · replace hw := hw.1 h_1
    exact c_X9_isThing_16 E hret hI (lv_sub hl [] rfl) hw
  · replace hw := hw.2 h_1
    refine lv_iload_n hx hb dX9_isThing_4 rfl (lv_at hl 1 rfl) ?_
    refine lv_aload_n hx hb dX9_isThing_5 rfl (lv_at hl 0 rfl) ?_
    refine gf_X9_187 E hI t_th dX9_isThing_6 ?_
    refine lv_icmp_ge (tgt := 16) hx hb dX9_isThing_9 (by decide) (fun h_2 => ?_) (fun h_2 => ?_)
    · replace hw := hw.1 h_2
      exact c_X9_isThing_16 E hret hI (lv_sub hl [] rfl) hw
    · replace hw := hw.2 h_2
      refine lv_iconst (v := (1 : Int32)) hx hb dX9_isThing_12 (by decide) ?_
      refine lv_goto (tgt := 17) hx hb dX9_isThing_13 (by decide) ?_
      exact c_X9_isThing_17 E hret hI (lv_sub hl [] rfl) hw
set_option maxHeartbeats 4000000 in
set_option maxRecDepth 100000 in
theorem c_X9_weight_18 {p : Program} {l : Launch} {e : Env} {s : State} {m : MethodId} {args : Array Value} {below : List Frame} {meth : Method} {c : Code} {G : pm_G} {H0 : Heap} {M0 : pm_M} {Post : Int32 → pm_M → Prop} {M : pm_M} (E : pm_E G p s m args meth c cX9_weight 4 RX9) (hret : meth.sig.returnType = (some .int)) {H : Heap} {locs : List Loc} {ls : Array Slot} (hX : pm_X M0 M) (hI : pm_I G H0 M H locs) (hl : lv_has ls 4 []) (hw : w_X9_weight_18 Post M) : W p l e rm_X9_weight s m args below meth c H locs 0 0 (pm_Z G H0 M0 (pm_Pi Post) below args s rm_X9_weight.cells rm_X9_weight.slots) (F0 m 18 ls []) := by
  have hx := E.1
  have hb := E.2.1
  have hown := E.2.2.2.1
  have hts := E.2.2.2.2.1
  unfold w_X9_weight_18 at hw
  refine lv_iconst (v := (-1 : Int32)) hx hb dX9_weight_18 (by decide) ?_
  exact pm_iret E hret hI hX ⟨_, rfl, hw⟩ (by decide) (by decide) dX9_weight_19
set_option maxHeartbeats 4000000 in
set_option maxRecDepth 100000 in
theorem k_X9_weight {l : Launch} {G : pm_G} {H0 : Heap} {th : Nat} {a1 : Int32} {a2 : Int32} {M : pm_M} {Post : Int32 → pm_M → Prop} (t_th : pm_is M th 8) (hw : w_X9_weight th a1 a2 M Post) : pm_C l G H0 yX9_weight cX9_weight 4 (some .int) rm_X9_weight [.ref (H0.size + th), .int a1, .int a2] M (pm_Pi Post) := by
  refine pm_start (by decide +kernel) (Nat.le_of_ble_eq_true rfl) ?_
  intro p e s m args below meth c H ls E hret hnm hI hl
  have hX : pm_X M M := pm_X.rf
  have hl : lv_has ls 4 [(0, .ref (H0.size + th)), (1, .int a1), (2, .int a2)] := hl
  have hx := E.1
  have hb := E.2.1
  have hown := E.2.2.2.1
  have hts := E.2.2.2.2.1
  unfold w_X9_weight at hw
  refine lv_aload_n hx hb dX9_weight_0 rfl (lv_at hl 0 rfl) ?_
  refine lv_iload_n hx hb dX9_weight_1 rfl (lv_at hl 1 rfl) ?_
  refine pm_callV (As := [.int a1]) (rest := []) 1 E hI (k_X9_isThing t_th hw) t_th (by decide) rfl kc_X9_isThing kl_X9_68 km_X9_isThing ks_X9_isThing ki_X9 (by decide +kernel) ⟨by decide, by decide⟩ rfl hl.1 rfl (by first | exact Nat.le_of_ble_eq_true rfl | (simp only [List.map, pm_rf_cat]; exact Nat.le_of_ble_eq_true rfl)) dX9_weight_2 ⟨by decide, by decide⟩ (fun r9 M9 H locs hp hX1 hI => ?_)
  clear hw
  obtain ⟨r_1, rfl, rfl, hw⟩ := hp
  refine pm_nrm (cells' := 0) (slots' := 0) (g2 := F0 m 5 ls [.int r_1]) rfl rfl rfl ?_
  refine lv_if_eq (tgt := 18) hx hb dX9_weight_5 (by decide) (fun h_2 => ?_) (fun h_2 => ?_)
  · replace hw := hw.1 h_2
    exact c_X9_weight_18 E hret hX hI (lv_sub hl [] rfl) hw
  · replace hw := hw.2 h_2
    refine lv_iload_n hx hb dX9_weight_8 rfl (lv_at hl 2 rfl) ?_
    refine lv_if_lt (tgt := 18) hx hb dX9_weight_9 (by decide) (fun h_3 => ?_) (fun h_3 => ?_)
    · replace hw := hw.1 h_3
      exact c_X9_weight_18 E hret hX hI (lv_sub hl [] rfl) hw
    · replace hw := hw.2 h_3
      refine lv_iload_n hx hb dX9_weight_12 rfl (lv_at hl 2 rfl) ?_
      refine lv_ldc (v := (1000000 : Int32)) hx hb hown (hts _ kl_X9_72) dX9_weight_13 ?_
      refine lv_icmp_le (tgt := 20) hx hb dX9_weight_15 (by decide) (fun h_4 => ?_) (fun h_4 => ?_)
      · replace hw := hw.1 h_4
        refine lv_aload_n hx hb dX9_weight_20 rfl (lv_at hl 0 rfl) ?_
        obtain ⟨q_5, e_q_5, hw⟩ := hw
        refine gf_X9_21 E hI t_th dX9_weight_21 e_q_5 (fun t_q_5 => ?_)
        refine lv_iload_n hx hb dX9_weight_24 rfl (lv_at hl 1 rfl) ?_
        obtain ⟨h_6, hw⟩ := hw
        refine pm_iald E hI t_q_5 h_6 dX9_weight_25 ?_
        refine lv_topi (fun x_7 e_x_7 => ?_)
        replace hw := hw x_7 e_x_7
        refine lv_istore_n (lv' := [(3, .int x_7), (0, .ref (H0.size + th)), (1, .int a1), (2, .int a2)]) hx hb dX9_weight_26 rfl hl (by decide) rfl (fun ls hl_8 => ?_)
        refine lv_aload_n hx hb dX9_weight_27 rfl (lv_at hl_8 1 rfl) ?_
        refine gf_X9_21 E hI t_th dX9_weight_28 e_q_5 (fun _ => ?_)
        refine lv_iload_n hx hb dX9_weight_31 rfl (lv_at hl_8 2 rfl) ?_
        refine lv_iload_n hx hb dX9_weight_32 rfl (lv_at hl_8 3 rfl) ?_
        obtain ⟨h_9, hw⟩ := hw
        refine ps_iast E hI t_q_5 h_9 dX9_weight_33 (fun H locs M_10 e_M_10 hX1 hI => ?_)
        replace hw := hw M_10 e_M_10
        replace t_th := t_th.x hX1
        replace hX := hX.tr hX1
        refine lv_iload_n hx hb dX9_weight_34 rfl (lv_at hl_8 0 rfl) ?_
        exact pm_iret E hret hI hX ⟨_, rfl, hw⟩ (by decide) (by decide) dX9_weight_35
      · replace hw := hw.2 h_4
        exact c_X9_weight_18 E hret hX hI (lv_sub hl [] rfl) hw
set_option maxHeartbeats 4000000 in
set_option maxRecDepth 100000 in
theorem c_X9_slotAt_23 {p : Program} {l : Launch} {e : Env} {s : State} {m : MethodId} {args : Array Value} {below : List Frame} {meth : Method} {c : Code} {G : pm_G} {H0 : Heap} {Post : Option Nat → Prop} {s0 : Option Nat} {M : pm_M} (E : pm_E G p s m args meth c cX9_slotAt 2 RX9) (hret : meth.sig.returnType = (some (.object "IndependenceDesk$Slot"))) {H : Heap} {locs : List Loc} {ls : Array Slot} (hI : pm_I G H0 M H locs) (o_s0 : ∀ b, s0 = some b → pm_is M b 5) (hl : lv_has ls 2 []) (hw : w_X9_slotAt_23 Post s0 M) : W p l e rm_X9_slotAt s m args below meth c H locs 0 0 (pm_Z G H0 M (pm_Po H0.size 5 (fun r9 M9 => M = M9 ∧ Post r9)) below args s rm_X9_slotAt.cells rm_X9_slotAt.slots) (F0 m 23 ls [pm_rf H0.size s0]) := by
  have hx := E.1
  have hb := E.2.1
  have hown := E.2.2.2.1
  have hts := E.2.2.2.2.1
  unfold w_X9_slotAt_23 at hw
  exact pm_aret (x := s0) E hret hI pm_X.rf ⟨_, rfl, o_s0, rfl, hw⟩ (by decide) (by decide) dX9_slotAt_23
set_option maxHeartbeats 4000000 in
set_option maxRecDepth 100000 in
theorem c_X9_slotAt_22 {p : Program} {l : Launch} {e : Env} {s : State} {m : MethodId} {args : Array Value} {below : List Frame} {meth : Method} {c : Code} {G : pm_G} {H0 : Heap} {Post : Option Nat → Prop} {M : pm_M} (E : pm_E G p s m args meth c cX9_slotAt 2 RX9) (hret : meth.sig.returnType = (some (.object "IndependenceDesk$Slot"))) {H : Heap} {locs : List Loc} {ls : Array Slot} (hI : pm_I G H0 M H locs) (hl : lv_has ls 2 []) (hw : w_X9_slotAt_22 Post M) : W p l e rm_X9_slotAt s m args below meth c H locs 0 0 (pm_Z G H0 M (pm_Po H0.size 5 (fun r9 M9 => M = M9 ∧ Post r9)) below args s rm_X9_slotAt.cells rm_X9_slotAt.slots) (F0 m 22 ls []) := by
  have hx := E.1
  have hb := E.2.1
  have hown := E.2.2.2.1
  have hts := E.2.2.2.2.1
  unfold w_X9_slotAt_22 at hw
  refine lv_null hx hb dX9_slotAt_22 ?_
  exact c_X9_slotAt_23 E hret hI (fun b h => by cases h) (lv_sub hl [] rfl) hw
set_option maxHeartbeats 4000000 in
set_option maxRecDepth 100000 in
theorem k_X9_slotAt {l : Launch} {G : pm_G} {H0 : Heap} {th : Nat} {a1 : Int32} {M : pm_M} {Post : Option Nat → Prop} (t_th : pm_is M th 8) (hw : w_X9_slotAt th a1 M Post) : pm_C l G H0 yX9_slotAt cX9_slotAt 2 (some (.object "IndependenceDesk$Slot")) rm_X9_slotAt [.ref (H0.size + th), .int a1] M (pm_Po H0.size 5 (fun r9 M9 => M = M9 ∧ Post r9)) := by
  refine pm_start (by decide +kernel) (Nat.le_of_ble_eq_true rfl) ?_
  intro p e s m args below meth c H ls E hret hnm hI hl
  have hl : lv_has ls 2 [(0, .ref (H0.size + th)), (1, .int a1)] := hl
  have hx := E.1
  have hb := E.2.1
  have hown := E.2.2.2.1
  have hts := E.2.2.2.2.1
  unfold w_X9_slotAt at hw
  refine lv_iload_n hx hb dX9_slotAt_0 rfl (lv_at hl 1 rfl) ?_
  refine lv_if_lt (tgt := 22) hx hb dX9_slotAt_1 (by decide) (fun h_1 => ?_) (fun h_1 => ?_)
  · replace hw := hw.1 h_1
    exact c_X9_slotAt_22 E hret hI (lv_sub hl [] rfl) hw
  · replace hw := hw.2 h_1
    refine lv_iload_n hx hb dX9_slotAt_4 rfl (lv_at hl 1 rfl) ?_
    refine lv_aload_n hx hb dX9_slotAt_5 rfl (lv_at hl 0 rfl) ?_
    obtain ⟨q_2, e_q_2, hw⟩ := hw
    refine gf_X9_11 E hI t_th dX9_slotAt_6 e_q_2 (fun t_q_2 => ?_)
    refine ps_alenSlot E hI t_q_2 dX9_slotAt_9 ?_
    refine lv_icmp_ge (tgt := 22) hx hb dX9_slotAt_10 (by decide) (fun h_3 => ?_) (fun h_3 => ?_)
    · replace hw := hw.1 h_3
      exact c_X9_slotAt_22 E hret hI (lv_sub hl [] rfl) hw
    · replace hw := hw.2 h_3
      refine lv_aload_n hx hb dX9_slotAt_13 rfl (lv_at hl 0 rfl) ?_
      refine gf_X9_11 E hI t_th dX9_slotAt_14 e_q_2 (fun _ => ?_)
      refine lv_iload_n hx hb dX9_slotAt_17 rfl (lv_at hl 1 rfl) ?_
      obtain ⟨h_4, hw⟩ := hw
      refine ps_aaldSlot E hI t_q_2 h_4 dX9_slotAt_18 (fun o_5 e_o_5 o_o_5 => ?_)
      replace hw := hw o_5 e_o_5
      refine lv_goto (tgt := 23) hx hb dX9_slotAt_19 (by decide) ?_
      exact c_X9_slotAt_23 E hret hI o_o_5 (lv_sub hl [] rfl) hw
set_option maxHeartbeats 4000000 in
set_option maxRecDepth 100000 in
theorem c_X9_row_28 {p : Program} {l : Launch} {e : Env} {s : State} {m : MethodId} {args : Array Value} {below : List Frame} {meth : Method} {c : Code} {G : pm_G} {H0 : Heap} {M0 : pm_M} {Post : Int32 → pm_M → Prop} {M : pm_M} (E : pm_E G p s m args meth c cX9_row 5 RX9) (hret : meth.sig.returnType = (some .int)) {H : Heap} {locs : List Loc} {ls : Array Slot} (hX : pm_X M0 M) (hI : pm_I G H0 M H locs) (hl : lv_has ls 5 []) (hw : w_X9_row_28 Post M) : W p l e rm_X9_row s m args below meth c H locs 0 0 (pm_Z G H0 M0 (pm_Pi Post) below args s rm_X9_row.cells rm_X9_row.slots) (F0 m 28 ls []) := by
  have hx := E.1
  have hb := E.2.1
  have hown := E.2.2.2.1
  have hts := E.2.2.2.2.1
  unfold w_X9_row_28 at hw
  refine lv_bipush (v := (-2 : Int32)) hx hb dX9_row_28 (by decide) ?_
  exact pm_iret E hret hI hX ⟨_, rfl, hw⟩ (by decide) (by decide) dX9_row_30
set_option maxHeartbeats 4000000 in
set_option maxRecDepth 100000 in
theorem k_X9_row {l : Launch} {G : pm_G} {H0 : Heap} {th : Nat} {a1 : Int32} {a2 : Int32} {a3 : Int32} {M : pm_M} {Post : Int32 → pm_M → Prop} (t_th : pm_is M th 8) (hw : w_X9_row th a1 a2 a3 M Post) : pm_C l G H0 yX9_row cX9_row 5 (some .int) rm_X9_row [.ref (H0.size + th), .int a1, .int a2, .int a3] M (pm_Pi Post) := by
  refine pm_start (by decide +kernel) (Nat.le_of_ble_eq_true rfl) ?_
  intro p e s m args below meth c H ls E hret hnm hI hl
  have hX : pm_X M M := pm_X.rf
  have hl : lv_has ls 5 [(0, .ref (H0.size + th)), (1, .int a1), (2, .int a2), (3, .int a3)] := hl
  have hx := E.1
  have hb := E.2.1
  have hown := E.2.2.2.1
  have hts := E.2.2.2.2.1
  unfold w_X9_row at hw
  refine lv_aload_n hx hb dX9_row_0 rfl (lv_at hl 0 rfl) ?_
  refine lv_iload_n hx hb dX9_row_1 rfl (lv_at hl 1 rfl) ?_
  refine pm_callV (As := [.int a1]) (rest := []) 1 E hI (k_X9_slotAt t_th hw) t_th (by decide) rfl kc_X9_slotAt kl_X9_73 km_X9_slotAt ks_X9_slotAt ki_X9 (by decide +kernel) ⟨by decide, by decide⟩ rfl hl.1 rfl (by first | exact Nat.le_of_ble_eq_true rfl | (simp only [List.map, pm_rf_cat]; exact Nat.le_of_ble_eq_true rfl)) dX9_row_2 ⟨by decide, by decide⟩ (fun r9 M9 H locs hp hX1 hI => ?_)
  clear hw
  obtain ⟨r_1, rfl, o_r_1, rfl, hw⟩ := hp
  refine pm_nrm (cells' := 0) (slots' := 0) (g2 := F0 m 5 ls [pm_rf H0.size r_1]) rfl rfl rfl ?_
  refine pm_astore (lv' := [(4, pm_rf H0.size r_1), (0, .ref (H0.size + th)), (1, .int a1), (2, .int a2), (3, .int a3)]) hx hb dX9_row_5 hl (by decide) (by first | rfl | simp [List.filter, pm_rf_cat]) (fun ls hl_2 => ?_)
  refine pm_aload hx hb dX9_row_7 (lv_at hl_2 0 rfl) ?_
  refine pm_ifnull (tgt := 28) hx hb dX9_row_9 (by decide) (fun hq => ?_) (fun q_3 hq => ?_)
  · replace hw := hw.1 hq
    subst hq
    replace hl_2 : lv_has ls 5 [(4, .null), (0, .ref (H0.size + th)), (1, .int a1), (2, .int a2), (3, .int a3)] := hl_2
    exact c_X9_row_28 E hret hX hI (lv_sub hl_2 [] rfl) hw
  · replace hw := hw.2 q_3 hq
    subst hq
    have t_q_3 := o_r_1 q_3 rfl
    replace hl_2 : lv_has ls 5 [(4, .ref (H0.size + q_3)), (0, .ref (H0.size + th)), (1, .int a1), (2, .int a2), (3, .int a3)] := hl_2
    refine lv_iload_n hx hb dX9_row_12 rfl (lv_at hl_2 3 rfl) ?_
    refine lv_if_lt (tgt := 28) hx hb dX9_row_13 (by decide) (fun h_4 => ?_) (fun h_4 => ?_)
    · replace hw := hw.1 h_4
      exact c_X9_row_28 E hret hX hI (lv_sub hl_2 [] rfl) hw
    · replace hw := hw.2 h_4
      refine lv_iload_n hx hb dX9_row_16 rfl (lv_at hl_2 3 rfl) ?_
      refine lv_iconst (v := (3 : Int32)) hx hb dX9_row_17 (by decide) ?_
      refine lv_icmp_gt (tgt := 28) hx hb dX9_row_18 (by decide) (fun h_5 => ?_) (fun h_5 => ?_)
      · replace hw := hw.1 h_5
        exact c_X9_row_28 E hret hX hI (lv_sub hl_2 [] rfl) hw
      · replace hw := hw.2 h_5
        refine lv_iload_n hx hb dX9_row_21 rfl (lv_at hl_2 4 rfl) ?_
        refine lv_sipush (v := (200 : Int32)) hx hb dX9_row_22 (by decide) ?_
        refine lv_icmp_le (tgt := 31) hx hb dX9_row_25 (by decide) (fun h_6 => ?_) (fun h_6 => ?_)
        · replace hw := hw.1 h_6
          refine lv_iload_n hx hb dX9_row_31 rfl (lv_at hl_2 4 rfl) ?_
          refine lv_if_ge (tgt := 38) hx hb dX9_row_32 (by decide) (fun h_7 => ?_) (fun h_7 => ?_)
          · replace hw := hw.1 h_7
            refine lv_aload hx hb dX9_row_38 (lv_at hl_2 0 rfl) ?_
            refine lv_iload_n hx hb dX9_row_40 rfl (lv_at hl_2 3 rfl) ?_
            refine lv_iload_n hx hb dX9_row_41 rfl (lv_at hl_2 4 rfl) ?_
            refine pm_callV (As := [.int a2, .int a3]) (rest := []) 2 E hI (k_X6_lay t_q_3 hw) t_q_3 (by decide) rfl kc_X6_lay kl_X9_77 km_X6_lay ks_X6_lay ki_X6 (by decide +kernel) ⟨by decide, by decide⟩ rfl hl_2.1 rfl (by first | exact Nat.le_of_ble_eq_true rfl | (simp only [List.map, pm_rf_cat]; exact Nat.le_of_ble_eq_true rfl)) dX9_row_42 ⟨by decide, by decide⟩ (fun r9 M_8 H locs hp hX1 hI => ?_)
            clear hw
            obtain ⟨rfl, hw⟩ := hp
            replace t_th := t_th.x hX1
            replace t_q_3 := t_q_3.x hX1
            replace hX := hX.tr hX1
            refine pm_nrm (cells' := 0) (slots' := 0) (g2 := F0 m 45 ls []) rfl rfl rfl ?_
            refine lv_iconst (v := (0 : Int32)) hx hb dX9_row_45 (by decide) ?_
            exact pm_iret E hret hI hX ⟨_, rfl, hw⟩ (by decide) (by decide) dX9_row_46
          · replace hw := hw.2 h_7
            refine lv_bipush (v := (-3 : Int32)) hx hb dX9_row_35 (by decide) ?_
            exact pm_iret E hret hI hX ⟨_, rfl, hw⟩ (by decide) (by decide) dX9_row_37
        · replace hw := hw.2 h_6
          exact c_X9_row_28 E hret hX hI (lv_sub hl_2 [] rfl) hw
set_option maxHeartbeats 4000000 in
set_option maxRecDepth 100000 in
theorem c_X9_tear_17 {p : Program} {l : Launch} {e : Env} {s : State} {m : MethodId} {args : Array Value} {below : List Frame} {meth : Method} {c : Code} {G : pm_G} {H0 : Heap} {M0 : pm_M} {Post : Int32 → pm_M → Prop} {M : pm_M} (E : pm_E G p s m args meth c cX9_tear 3 RX9) (hret : meth.sig.returnType = (some .boolean)) {H : Heap} {locs : List Loc} {ls : Array Slot} (hX : pm_X M0 M) (hI : pm_I G H0 M H locs) (hl : lv_has ls 3 []) (hw : w_X9_tear_17 Post M) : W p l e rm_X9_tear s m args below meth c H locs 0 0 (pm_Z G H0 M0 (pm_Pi Post) below args s rm_X9_tear.cells rm_X9_tear.slots) (F0 m 17 ls []) := by
  have hx := E.1
  have hb := E.2.1
  have hown := E.2.2.2.1
  have hts := E.2.2.2.2.1
  unfold w_X9_tear_17 at hw
  refine lv_iconst (v := (0 : Int32)) hx hb dX9_tear_17 (by decide) ?_
  exact pm_zret E hret hI hX rfl ⟨_, rfl, hw⟩ (by decide) (by decide) dX9_tear_18
set_option maxHeartbeats 4000000 in
set_option maxRecDepth 100000 in
theorem k_X9_tear {l : Launch} {G : pm_G} {H0 : Heap} {th : Nat} {a1 : Int32} {M : pm_M} {Post : Int32 → pm_M → Prop} (t_th : pm_is M th 8) (hw : w_X9_tear th a1 M Post) : pm_C l G H0 yX9_tear cX9_tear 3 (some .boolean) rm_X9_tear [.ref (H0.size + th), .int a1] M (pm_Pi Post) := by
  refine pm_start (by decide +kernel) (Nat.le_of_ble_eq_true rfl) ?_
  intro p e s m args below meth c H ls E hret hnm hI hl
  have hX : pm_X M M := pm_X.rf
  have hl : lv_has ls 3 [(0, .ref (H0.size + th)), (1, .int a1)] := hl
  have hx := E.1
  have hb := E.2.1
  have hown := E.2.2.2.1
  have hts := E.2.2.2.2.1
  unfold w_X9_tear at hw
  refine lv_aload_n hx hb dX9_tear_0 rfl (lv_at hl 0 rfl) ?_
  refine lv_iload_n hx hb dX9_tear_1 rfl (lv_at hl 1 rfl) ?_
  refine pm_callV (As := [.int a1]) (rest := []) 1 E hI (k_X9_slotAt t_th hw) t_th (by decide) rfl kc_X9_slotAt kl_X9_73 km_X9_slotAt ks_X9_slotAt ki_X9 (by decide +kernel) ⟨by decide, by decide⟩ rfl hl.1 rfl (by first | exact Nat.le_of_ble_eq_true rfl | (simp only [List.map, pm_rf_cat]; exact Nat.le_of_ble_eq_true rfl)) dX9_tear_2 ⟨by decide, by decide⟩ (fun r9 M9 H locs hp hX1 hI => ?_)
  clear hw
  obtain ⟨r_1, rfl, o_r_1, rfl, hw⟩ := hp
  refine pm_nrm (cells' := 0) (slots' := 0) (g2 := F0 m 5 ls [pm_rf H0.size r_1]) rfl rfl rfl ?_
  refine pm_astore_n (lv' := [(2, pm_rf H0.size r_1), (0, .ref (H0.size + th)), (1, .int a1)]) hx hb dX9_tear_5 rfl hl (by decide) (by first | rfl | simp [List.filter, pm_rf_cat]) (fun ls hl_2 => ?_)
  refine pm_aload_n hx hb dX9_tear_6 rfl (lv_at hl_2 0 rfl) ?_
  refine pm_ifnull (tgt := 17) hx hb dX9_tear_7 (by decide) (fun hq => ?_) (fun q_3 hq => ?_)
  · replace hw := hw.1 hq
    subst hq
    replace hl_2 : lv_has ls 3 [(2, .null), (0, .ref (H0.size + th)), (1, .int a1)] := hl_2
    exact c_X9_tear_17 E hret hX hI (lv_sub hl_2 [] rfl) hw
  · replace hw := hw.2 q_3 hq
    subst hq
    have t_q_3 := o_r_1 q_3 rfl
    replace hl_2 : lv_has ls 3 [(2, .ref (H0.size + q_3)), (0, .ref (H0.size + th)), (1, .int a1)] := hl_2
    refine lv_aload_n hx hb dX9_tear_10 rfl (lv_at hl_2 0 rfl) ?_
    refine pm_callV (As := []) (rest := []) 0 E hI (k_X6_hasRow t_q_3 hw) t_q_3 (by decide) rfl kc_X6_hasRow kl_X9_81 km_X6_hasRow ks_X6_hasRow ki_X6 (by decide +kernel) ⟨by decide, by decide⟩ rfl hl_2.1 rfl (by first | exact Nat.le_of_ble_eq_true rfl | (simp only [List.map, pm_rf_cat]; exact Nat.le_of_ble_eq_true rfl)) dX9_tear_11 ⟨by decide, by decide⟩ (fun r9 M9 H locs hp hX1 hI => ?_)
    clear hw
    obtain ⟨r_4, rfl, rfl, hw⟩ := hp
    refine pm_nrm (cells' := 0) (slots' := 0) (g2 := F0 m 14 ls [.int r_4]) rfl rfl rfl ?_
    refine lv_if_ne (tgt := 19) hx hb dX9_tear_14 (by decide) (fun h_5 => ?_) (fun h_5 => ?_)
    · replace hw := hw.1 h_5
      refine lv_aload_n hx hb dX9_tear_19 rfl (lv_at hl_2 0 rfl) ?_
      refine pm_callV (As := []) (rest := []) 0 E hI (k_X6_clear t_q_3 hw) t_q_3 (by decide) rfl kc_X6_clear kl_X9_85 km_X6_clear ks_X6_clear ki_X6 (by decide +kernel) ⟨by decide, by decide⟩ rfl hl_2.1 rfl (by first | exact Nat.le_of_ble_eq_true rfl | (simp only [List.map, pm_rf_cat]; exact Nat.le_of_ble_eq_true rfl)) dX9_tear_20 ⟨by decide, by decide⟩ (fun r9 M_6 H locs hp hX1 hI => ?_)
      clear hw
      obtain ⟨rfl, hw⟩ := hp
      replace t_th := t_th.x hX1
      replace t_q_3 := t_q_3.x hX1
      replace hX := hX.tr hX1
      refine pm_nrm (cells' := 0) (slots' := 0) (g2 := F0 m 23 ls []) rfl rfl rfl ?_
      refine lv_iconst (v := (1 : Int32)) hx hb dX9_tear_23 (by decide) ?_
      exact pm_zret E hret hI hX rfl ⟨_, rfl, hw⟩ (by decide) (by decide) dX9_tear_24
    · replace hw := hw.2 h_5
      exact c_X9_tear_17 E hret hX hI (lv_sub hl_2 [] rfl) hw
set_option maxHeartbeats 4000000 in
set_option maxRecDepth 100000 in
theorem c_X9_numberRefusal_38 {p : Program} {l : Launch} {e : Env} {s : State} {m : MethodId} {args : Array Value} {below : List Frame} {meth : Method} {c : Code} {G : pm_G} {H0 : Heap} {Post : Int32 → Prop} {s0 : Int32} {M : pm_M} (E : pm_E G p s m args meth c cX9_numberRefusal 4 RX9) (hret : meth.sig.returnType = (some .int)) {H : Heap} {locs : List Loc} {ls : Array Slot} (hI : pm_I G H0 M H locs) (hl : lv_has ls 4 []) (hw : w_X9_numberRefusal_38 Post s0 M) : W p l e rm_X9_numberRefusal s m args below meth c H locs 0 0 (pm_Z G H0 M (pm_Pi (fun r9 M9 => M = M9 ∧ Post r9)) below args s rm_X9_numberRefusal.cells rm_X9_numberRefusal.slots) (F0 m 38 ls [.int s0]) := by
  have hx := E.1
  have hb := E.2.1
  have hown := E.2.2.2.1
  have hts := E.2.2.2.2.1
  unfold w_X9_numberRefusal_38 at hw
  exact pm_iret E hret hI pm_X.rf ⟨_, rfl, rfl, hw⟩ (by decide) (by decide) dX9_numberRefusal_38
set_option maxHeartbeats 4000000 in
set_option maxRecDepth 100000 in
theorem k_X9_numberRefusal {l : Launch} {G : pm_G} {H0 : Heap} {th : Nat} {a1 : Int32} {a2 : Int32} {M : pm_M} {Post : Int32 → Prop} (t_th : pm_is M th 8) (hw : w_X9_numberRefusal th a1 a2 M Post) : pm_C l G H0 yX9_numberRefusal cX9_numberRefusal 4 (some .int) rm_X9_numberRefusal [.ref (H0.size + th), .int a1, .int a2] M (pm_Pi (fun r9 M9 => M = M9 ∧ Post r9)) := by
  refine pm_start (by decide +kernel) (Nat.le_of_ble_eq_true rfl) ?_
  intro p e s m args below meth c H ls E hret hnm hI hl
  have hl : lv_has ls 4 [(0, .ref (H0.size + th)), (1, .int a1), (2, .int a2)] := hl
  have hx := E.1
  have hb := E.2.1
  have hown := E.2.2.2.1
  have hts := E.2.2.2.2.1
  unfold w_X9_numberRefusal at hw
  refine lv_aload_n hx hb dX9_numberRefusal_0 rfl (lv_at hl 0 rfl) ?_
  refine lv_iload_n hx hb dX9_numberRefusal_1 rfl (lv_at hl 1 rfl) ?_
  refine pm_callV (As := [.int a1]) (rest := []) 1 E hI (k_X9_slotAt t_th hw) t_th (by decide) rfl kc_X9_slotAt kl_X9_73 km_X9_slotAt ks_X9_slotAt ki_X9 (by decide +kernel) ⟨by decide, by decide⟩ rfl hl.1 rfl (by first | exact Nat.le_of_ble_eq_true rfl | (simp only [List.map, pm_rf_cat]; exact Nat.le_of_ble_eq_true rfl)) dX9_numberRefusal_2 ⟨by decide, by decide⟩ (fun r9 M9 H locs hp hX1 hI => ?_)
  clear hw
  obtain ⟨r_1, rfl, o_r_1, rfl, hw⟩ := hp
  refine pm_nrm (cells' := 0) (slots' := 0) (g2 := F0 m 5 ls [pm_rf H0.size r_1]) rfl rfl rfl ?_
  refine pm_astore_n (lv' := [(3, pm_rf H0.size r_1), (0, .ref (H0.size + th)), (1, .int a1), (2, .int a2)]) hx hb dX9_numberRefusal_5 rfl hl (by decide) (by first | rfl | simp [List.filter, pm_rf_cat]) (fun ls hl_2 => ?_)
  refine pm_aload_n hx hb dX9_numberRefusal_6 rfl (lv_at hl_2 0 rfl) ?_
  refine pm_ifnonnull (tgt := 13) hx hb dX9_numberRefusal_7 (by decide) (fun q_3 hq => ?_) (fun hq => ?_)
  · replace hw := hw.2 q_3 hq
    subst hq
    have t_q_3 := o_r_1 q_3 rfl
    replace hl_2 : lv_has ls 4 [(3, .ref (H0.size + q_3)), (0, .ref (H0.size + th)), (1, .int a1), (2, .int a2)] := hl_2
    refine lv_aload_n hx hb dX9_numberRefusal_13 rfl (lv_at hl_2 0 rfl) ?_
    refine pm_callV (As := []) (rest := []) 0 E hI (k_X6_hasRow t_q_3 hw) t_q_3 (by decide) rfl kc_X6_hasRow kl_X9_81 km_X6_hasRow ks_X6_hasRow ki_X6 (by decide +kernel) ⟨by decide, by decide⟩ rfl hl_2.1 rfl (by first | exact Nat.le_of_ble_eq_true rfl | (simp only [List.map, pm_rf_cat]; exact Nat.le_of_ble_eq_true rfl)) dX9_numberRefusal_14 ⟨by decide, by decide⟩ (fun r9 M9 H locs hp hX1 hI => ?_)
    clear hw
    obtain ⟨r_4, rfl, rfl, hw⟩ := hp
    refine pm_nrm (cells' := 0) (slots' := 0) (g2 := F0 m 17 ls [.int r_4]) rfl rfl rfl ?_
    refine lv_if_ne (tgt := 23) hx hb dX9_numberRefusal_17 (by decide) (fun h_5 => ?_) (fun h_5 => ?_)
    · replace hw := hw.1 h_5
      refine lv_aload_n hx hb dX9_numberRefusal_23 rfl (lv_at hl_2 0 rfl) ?_
      refine lv_iload_n hx hb dX9_numberRefusal_24 rfl (lv_at hl_2 3 rfl) ?_
      refine lv_iconst (v := (1 : Int32)) hx hb dX9_numberRefusal_25 (by decide) ?_
      refine pm_callV (As := [.int a2, .int (1 : Int32)]) (rest := []) 2 E hI (k_X6_hasStretch t_q_3 hw) t_q_3 (by decide) rfl kc_X6_hasStretch kl_X9_104 km_X6_hasStretch ks_X6_hasStretch ki_X6 (by decide +kernel) ⟨by decide, by decide⟩ rfl hl_2.1 rfl (by first | exact Nat.le_of_ble_eq_true rfl | (simp only [List.map, pm_rf_cat]; exact Nat.le_of_ble_eq_true rfl)) dX9_numberRefusal_26 ⟨by decide, by decide⟩ (fun r9 M9 H locs hp hX1 hI => ?_)
      clear hw
      obtain ⟨r_6, rfl, rfl, hw⟩ := hp
      refine pm_nrm (cells' := 0) (slots' := 0) (g2 := F0 m 29 ls [.int r_6]) rfl rfl rfl ?_
      refine lv_if_eq (tgt := 36) hx hb dX9_numberRefusal_29 (by decide) (fun h_7 => ?_) (fun h_7 => ?_)
      · replace hw := hw.1 h_7
        refine lv_bipush (v := (-6 : Int32)) hx hb dX9_numberRefusal_36 (by decide) ?_
        exact c_X9_numberRefusal_38 E hret hI (lv_sub hl_2 [] rfl) hw
      · replace hw := hw.2 h_7
        refine lv_iconst (v := (0 : Int32)) hx hb dX9_numberRefusal_32 (by decide) ?_
        refine lv_goto (tgt := 38) hx hb dX9_numberRefusal_33 (by decide) ?_
        exact c_X9_numberRefusal_38 E hret hI (lv_sub hl_2 [] rfl) hw
    · replace hw := hw.2 h_5
      refine lv_bipush (v := (-5 : Int32)) hx hb dX9_numberRefusal_20 (by decide) ?_
      exact pm_iret E hret hI pm_X.rf ⟨_, rfl, rfl, hw⟩ (by decide) (by decide) dX9_numberRefusal_22
  · replace hw := hw.1 hq
    subst hq
    replace hl_2 : lv_has ls 4 [(3, .null), (0, .ref (H0.size + th)), (1, .int a1), (2, .int a2)] := hl_2
    refine lv_bipush (v := (-2 : Int32)) hx hb dX9_numberRefusal_10 (by decide) ?_
    exact pm_iret E hret hI pm_X.rf ⟨_, rfl, rfl, hw⟩ (by decide) (by decide) dX9_numberRefusal_12
set_option maxHeartbeats 4000000 in
set_option maxRecDepth 100000 in
theorem c_X9_write_32 {p : Program} {l : Launch} {e : Env} {s : State} {m : MethodId} {args : Array Value} {below : List Frame} {meth : Method} {c : Code} {G : pm_G} {H0 : Heap} {M0 : pm_M} {Post : Int32 → pm_M → Prop} {v5 : Int32} {M : pm_M} (E : pm_E G p s m args meth c cX9_write 7 RX9) (hret : meth.sig.returnType = (some .int)) {H : Heap} {locs : List Loc} {ls : Array Slot} (hX : pm_X M0 M) (hI : pm_I G H0 M H locs) (hl : lv_has ls 7 [(5, .int v5)]) (hw : w_X9_write_32 Post v5 M) : W p l e rm_X9_write s m args below meth c H locs 0 0 (pm_Z G H0 M0 (pm_Pi Post) below args s rm_X9_write.cells rm_X9_write.slots) (F0 m 32 ls []) := by
  have hx := E.1
  have hb := E.2.1
  have hown := E.2.2.2.1
  have hts := E.2.2.2.2.1
  unfold w_X9_write_32 at hw
  refine lv_iload hx hb dX9_write_32 (lv_at hl 0 rfl) ?_
  exact pm_iret E hret hI hX ⟨_, rfl, hw⟩ (by decide) (by decide) dX9_write_34
set_option maxHeartbeats 4000000 in
set_option maxRecDepth 100000 in
theorem k_X9_write {l : Launch} {G : pm_G} {H0 : Heap} {th : Nat} {a1 : Int32} {a2 : Int32} {a3 : Int64} {M : pm_M} {Post : Int32 → pm_M → Prop} (t_th : pm_is M th 8) (hw : w_X9_write th a1 a2 a3 M Post) : pm_C l G H0 yX9_write cX9_write 7 (some .int) rm_X9_write [.ref (H0.size + th), .int a1, .int a2, .long a3] M (pm_Pi Post) := by
  refine pm_start (by decide +kernel) (Nat.le_of_ble_eq_true rfl) ?_
  intro p e s m args below meth c H ls E hret hnm hI hl
  have hX : pm_X M M := pm_X.rf
  have hl : lv_has ls 7 [(0, .ref (H0.size + th)), (1, .int a1), (2, .int a2), (3, .long a3)] := hl
  have hx := E.1
  have hb := E.2.1
  have hown := E.2.2.2.1
  have hts := E.2.2.2.2.1
  unfold w_X9_write at hw
  refine lv_aload_n hx hb dX9_write_0 rfl (lv_at hl 0 rfl) ?_
  refine lv_iload_n hx hb dX9_write_1 rfl (lv_at hl 1 rfl) ?_
  refine lv_iload_n hx hb dX9_write_2 rfl (lv_at hl 2 rfl) ?_
  refine pm_callV (As := [.int a1, .int a2]) (rest := []) 2 E hI (k_X9_numberRefusal t_th hw) t_th (by decide) rfl kc_X9_numberRefusal kl_X9_88 km_X9_numberRefusal ks_X9_numberRefusal ki_X9 (by decide +kernel) ⟨by decide, by decide⟩ rfl hl.1 rfl (by first | exact Nat.le_of_ble_eq_true rfl | (simp only [List.map, pm_rf_cat]; exact Nat.le_of_ble_eq_true rfl)) dX9_write_3 ⟨by decide, by decide⟩ (fun r9 M9 H locs hp hX1 hI => ?_)
  clear hw
  obtain ⟨r_1, rfl, rfl, hw⟩ := hp
  refine pm_nrm (cells' := 0) (slots' := 0) (g2 := F0 m 6 ls [.int r_1]) rfl rfl rfl ?_
  refine lv_istore (lv' := [(5, .int r_1), (0, .ref (H0.size + th)), (1, .int a1), (2, .int a2), (3, .long a3)]) hx hb dX9_write_6 hl (by decide) rfl (fun ls hl_2 => ?_)
  refine lv_aload_n hx hb dX9_write_8 rfl (lv_at hl_2 1 rfl) ?_
  refine lv_iload_n hx hb dX9_write_9 rfl (lv_at hl_2 2 rfl) ?_
  refine pm_callV (As := [.int a1]) (rest := []) 1 E hI (k_X9_slotAt t_th hw) t_th (by decide) rfl kc_X9_slotAt kl_X9_73 km_X9_slotAt ks_X9_slotAt ki_X9 (by decide +kernel) ⟨by decide, by decide⟩ rfl hl_2.1 rfl (by first | exact Nat.le_of_ble_eq_true rfl | (simp only [List.map, pm_rf_cat]; exact Nat.le_of_ble_eq_true rfl)) dX9_write_10 ⟨by decide, by decide⟩ (fun r9 M9 H locs hp hX1 hI => ?_)
  clear hw
  obtain ⟨r_3, rfl, o_r_3, rfl, hw⟩ := hp
  refine pm_nrm (cells' := 0) (slots' := 0) (g2 := F0 m 13 ls [pm_rf H0.size r_3]) rfl rfl rfl ?_
  refine pm_astore (lv' := [(6, pm_rf H0.size r_3), (5, .int r_1), (0, .ref (H0.size + th)), (1, .int a1), (2, .int a2), (3, .long a3)]) hx hb dX9_write_13 hl_2 (by decide) (by first | rfl | simp [List.filter, pm_rf_cat]) (fun ls hl_4 => ?_)
  refine lv_iload hx hb dX9_write_15 (lv_at hl_4 1 rfl) ?_
  refine lv_if_ne (tgt := 32) hx hb dX9_write_17 (by decide) (fun h_5 => ?_) (fun h_5 => ?_)
  · replace hw := hw.1 h_5
    exact c_X9_write_32 E hret hX hI (lv_sub hl_4 [1] rfl) hw
  · replace hw := hw.2 h_5
    refine pm_aload hx hb dX9_write_20 (lv_at hl_4 0 rfl) ?_
    refine pm_ifnull (tgt := 32) hx hb dX9_write_22 (by decide) (fun hq => ?_) (fun q_6 hq => ?_)
    · replace hw := hw.1 hq
      subst hq
      replace hl_4 : lv_has ls 7 [(6, .null), (5, .int r_1), (0, .ref (H0.size + th)), (1, .int a1), (2, .int a2), (3, .long a3)] := hl_4
      exact c_X9_write_32 E hret hX hI (lv_sub hl_4 [1] rfl) hw
    · replace hw := hw.2 q_6 hq
      subst hq
      have t_q_6 := o_r_3 q_6 rfl
      replace hl_4 : lv_has ls 7 [(6, .ref (H0.size + q_6)), (5, .int r_1), (0, .ref (H0.size + th)), (1, .int a1), (2, .int a2), (3, .long a3)] := hl_4
      refine lv_aload hx hb dX9_write_25 (lv_at hl_4 0 rfl) ?_
      refine lv_iload_n hx hb dX9_write_27 rfl (lv_at hl_4 4 rfl) ?_
      refine lv_lload_n hx hb dX9_write_28 rfl (lv_at hl_4 5 rfl) ?_
      refine pm_callV (As := [.int a2, .long a3]) (rest := []) 2 E hI (k_X6_put t_q_6 hw) t_q_6 (by decide) rfl kc_X6_put kl_X9_92 km_X6_put ks_X6_put ki_X6 (by decide +kernel) ⟨by decide, by decide⟩ rfl hl_4.1 rfl (by first | exact Nat.le_of_ble_eq_true rfl | (simp only [List.map, pm_rf_cat]; exact Nat.le_of_ble_eq_true rfl)) dX9_write_29 ⟨by decide, by decide⟩ (fun r9 M_7 H locs hp hX1 hI => ?_)
      clear hw
      obtain ⟨rfl, hw⟩ := hp
      replace t_th := t_th.x hX1
      replace t_q_6 := t_q_6.x hX1
      replace hX := hX.tr hX1
      refine pm_nrm (cells' := 0) (slots' := 0) (g2 := F0 m 32 ls []) rfl rfl rfl ?_
      exact c_X9_write_32 E hret hX hI (lv_sub hl_4 [1] rfl) hw
