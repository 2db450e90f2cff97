set_option maxHeartbeats 4000000 in
set_option maxRecDepth 100000 in
theorem c_X9_ring_73 {p : Program} {l : Launch} {e : Env} {s : State} {m : MethodId} {args : Array Value} {below : List Frame} {meth : Method} {c : Code} {G : pm_G} {H0 : Heap} {Post : Int32 → Prop} {v3 : Nat} {v4 : Int32} {v5 : Int32} {M : pm_M} {k_41 : Int32 → Int32 → Prop} (E : pm_E G p s m args meth c cX9_ring 6 RX9) (hret : meth.sig.returnType = (some .int)) (hk_41 : ∀ (v4 : Int32) (v5 : Int32) (H : Heap) (locs : List Loc) (ls : Array Slot), pm_I G H0 M H locs → (pm_is M v3 4) → lv_has ls 6 [(3, .ref (H0.size + v3)), (4, .int v4), (5, .int v5)] → k_41 v4 v5 → W p l e rm_X9_ring s m args below meth c H locs 0 0 (pm_Z G H0 M (pm_Pi (fun r9 M9 => M = M9 ∧ Post r9)) below args s rm_X9_ring.cells rm_X9_ring.slots) (F0 m 41 ls [])) {H : Heap} {locs : List Loc} {ls : Array Slot} (hI : pm_I G H0 M H locs) (t_v3 : pm_is M v3 4) (hl : lv_has ls 6 [(3, .ref (H0.size + v3)), (4, .int v4), (5, .int v5)]) (hw : w_X9_ring_73 Post k_41 v3 v4 v5 M) : W p l e rm_X9_ring s m args below meth c H locs 0 0 (pm_Z G H0 M (pm_Pi (fun r9 M9 => M = M9 ∧ Post r9)) below args s rm_X9_ring.cells rm_X9_ring.slots) (F0 m 73 ls []) := by
  have hx := E.1
  have hb := E.2.1
  have hown := E.2.2.2.1
  have hts := E.2.2.2.2.1
  unfold w_X9_ring_73 at hw
  obtain ⟨x_1, e_x_1⟩ : ∃ z : Int32, z = v5 + (-1 : Int32) := ⟨_, rfl⟩
  refine lv_iinc (v := x_1) (lv' := [(5, .int x_1), (3, .ref (H0.size + v3)), (4, .int v4)]) hx hb dX9_ring_73 hl (k := 2) rfl (by rw [e_x_1]; rfl) (by decide) rfl (fun ls hl_2 => ?_)
  replace hw := hw x_1 e_x_1
  refine lv_goto (tgt := 41) hx hb dX9_ring_76 (by decide) ?_
  exact hk_41 _ _ _ _ _ hI t_v3 (lv_sub hl_2 [1, 2, 0] rfl) hw
set_option maxHeartbeats 4000000 in
set_option maxRecDepth 100000 in
theorem c_X9_ring_41 {p : Program} {l : Launch} {e : Env} {s : State} {m : MethodId} {args : Array Value} {below : List Frame} {meth : Method} {c : Code} {G : pm_G} {H0 : Heap} {Post : Int32 → Prop} {v3 : Nat} {M : pm_M} (E : pm_E G p s m args meth c cX9_ring 6 RX9) (hret : meth.sig.returnType = (some .int)) : ∀ (n : Nat) (v4 : Int32) (v5 : Int32) (H : Heap) (locs : List Loc) (ls : Array Slot), pm_I G H0 M H locs → (pm_is M v3 4) → lv_has ls 6 [(3, .ref (H0.size + v3)), (4, .int v4), (5, .int v5)] → w_X9_ring_41 Post v3 M n v4 v5 → W p l e rm_X9_ring s m args below meth c H locs 0 0 (pm_Z G H0 M (pm_Pi (fun r9 M9 => M = M9 ∧ Post r9)) below args s rm_X9_ring.cells rm_X9_ring.slots) (F0 m 41 ls []) := by
  have hx := E.1
  have hb := E.2.1
  have hown := E.2.2.2.1
  have hts := E.2.2.2.2.1
  intro n
  induction n with
  | zero =>
    intro v4 v5 H locs ls hI t_v3 hl hw
    unfold w_X9_ring_41 at hw
    exact hw.elim
  | succ n ih =>
    intro v4 v5 H locs ls hI t_v3 hl hw
    unfold w_X9_ring_41 at hw
    refine lv_iload hx hb dX9_ring_41 (lv_at hl 2 rfl) ?_
    refine lv_if_lt (tgt := 79) hx hb dX9_ring_43 (by decide) (fun h_1 => ?_) (fun h_1 => ?_)
    · replace hw := hw.1 h_1
      refine lv_iload hx hb dX9_ring_79 (lv_at hl 1 rfl) ?_
      exact pm_iret E hret hI pm_X.rf ⟨_, rfl, rfl, hw⟩ (by decide) (by decide) dX9_ring_81
    · replace hw := hw.2 h_1
      refine lv_aload_n hx hb dX9_ring_46 rfl (lv_at hl 0 rfl) ?_
      refine lv_iload hx hb dX9_ring_47 (lv_at hl 1 rfl) ?_
      refine lv_iconst (v := (1 : Int32)) hx hb dX9_ring_49 (by decide) ?_
      refine lv_iload hx hb dX9_ring_50 (lv_at hl 2 rfl) ?_
      refine lv_ishl hx hb dX9_ring_52 ?_
      refine lv_iconst (v := (-1 : Int32)) hx hb dX9_ring_53 (by decide) ?_
      refine lv_ixor hx hb dX9_ring_54 ?_
      refine lv_iand hx hb dX9_ring_55 ?_
      refine pm_callV (As := [.int (v4 &&& (((1 : Int32) <<< (v5 &&& 31)) ^^^ (-1 : Int32)))]) (rest := []) 1 E hI (k_X5_permits t_v3 hw) t_v3 (by decide) rfl kc_X5_permits kl_X9_184 km_X5_permits ks_X5_permits ki_X5 (by decide +kernel) ⟨by decide, by decide⟩ rfl hl.1 rfl (by first | exact Nat.le_of_ble_eq_true rfl | (simp only [List.map, pm_rf_cat]; exact Nat.le_of_ble_eq_true rfl)) dX9_ring_56 ⟨by decide, by decide⟩ (fun r9 M9 H locs hp hX1 hI => ?_)
      clear hw
      obtain ⟨r_2, rfl, rfl, hw⟩ := hp
      refine pm_nrm (cells' := 0) (slots' := 0) (g2 := F0 m 59 ls [.int r_2]) rfl rfl rfl ?_
      refine lv_if_ne (tgt := 73) hx hb dX9_ring_59 (by decide) (fun h_3 => ?_) (fun h_3 => ?_)
      · replace hw := hw.1 h_3
        exact c_X9_ring_73 E hret ih hI t_v3 (lv_sub hl [0, 1, 2] rfl) hw
      · replace hw := hw.2 h_3
        refine lv_iload hx hb dX9_ring_62 (lv_at hl 1 rfl) ?_
        refine lv_iconst (v := (1 : Int32)) hx hb dX9_ring_64 (by decide) ?_
        refine lv_iload hx hb dX9_ring_65 (lv_at hl 2 rfl) ?_
        refine lv_ishl hx hb dX9_ring_67 ?_
        refine lv_iconst (v := (-1 : Int32)) hx hb dX9_ring_68 (by decide) ?_
        refine lv_ixor hx hb dX9_ring_69 ?_
        refine lv_iand hx hb dX9_ring_70 ?_
        refine lv_topi (fun x_4 e_x_4 => ?_)
        replace hw := hw x_4 e_x_4
        refine lv_istore (lv' := [(4, .int x_4), (3, .ref (H0.size + v3)), (5, .int v5)]) hx hb dX9_ring_71 hl (by decide) rfl (fun ls hl_5 => ?_)
        exact c_X9_ring_73 E hret ih hI t_v3 (lv_sub hl_5 [1, 0, 2] rfl) hw
set_option maxHeartbeats 4000000 in
set_option maxRecDepth 100000 in
theorem c_X9_ring_18 {p : Program} {l : Launch} {e : Env} {s : State} {m : MethodId} {args : Array Value} {below : List Frame} {meth : Method} {c : Code} {G : pm_G} {H0 : Heap} {Post : Int32 → Prop} {M : pm_M} (E : pm_E G p s m args meth c cX9_ring 6 RX9) (hret : meth.sig.returnType = (some .int)) {H : Heap} {locs : List Loc} {ls : Array Slot} (hI : pm_I G H0 M H locs) (hl : lv_has ls 6 []) (hw : w_X9_ring_18 Post M) : W p l e rm_X9_ring s m args below meth c H locs 0 0 (pm_Z G H0 M (pm_Pi (fun r9 M9 => M = M9 ∧ Post r9)) below args s rm_X9_ring.cells rm_X9_ring.slots) (F0 m 18 ls []) := by
  have hx := E.1
  have hb := E.2.1
  have hown := E.2.2.2.1
  have hts := E.2.2.2.2.1
  unfold w_X9_ring_18 at hw
  refine lv_iconst (v := (-1 : Int32)) hx hb dX9_ring_18 (by decide) ?_
  exact pm_iret E hret hI pm_X.rf ⟨_, rfl, rfl, hw⟩ (by decide) (by decide) dX9_ring_19
set_option maxHeartbeats 4000000 in
set_option maxRecDepth 100000 in
theorem k_X9_ring {l : Launch} {G : pm_G} {H0 : Heap} {th : Nat} {a1 : Int32} {a2 : Int32} {M : pm_M} {Post : Int32 → Prop} (t_th : pm_is M th 8) (hw : w_X9_ring th a1 a2 M Post) : pm_C l G H0 yX9_ring cX9_ring 6 (some .int) rm_X9_ring [.ref (H0.size + th), .int a1, .int a2] M (pm_Pi (fun r9 M9 => M = M9 ∧ Post r9)) := by
  refine pm_start (by decide +kernel) (Nat.le_of_ble_eq_true rfl) ?_
  intro p e s m args below meth c H ls E hret hnm hI hl
  have hl : lv_has ls 6 [(0, .ref (H0.size + th)), (1, .int a1), (2, .int a2)] := hl
  have hx := E.1
  have hb := E.2.1
  have hown := E.2.2.2.1
  have hts := E.2.2.2.2.1
  unfold w_X9_ring at hw
  refine lv_aload_n hx hb dX9_ring_0 rfl (lv_at hl 0 rfl) ?_
  refine lv_iload_n hx hb dX9_ring_1 rfl (lv_at hl 1 rfl) ?_
  refine pm_callV (As := [.int a1]) (rest := []) 1 E hI (k_X9_ruleAt t_th hw) t_th (by decide) rfl kc_X9_ruleAt kl_X9_158 km_X9_ruleAt ks_X9_ruleAt ki_X9 (by decide +kernel) ⟨by decide, by decide⟩ rfl hl.1 rfl (by first | exact Nat.le_of_ble_eq_true rfl | (simp only [List.map, pm_rf_cat]; exact Nat.le_of_ble_eq_true rfl)) dX9_ring_2 ⟨by decide, by decide⟩ (fun r9 M9 H locs hp hX1 hI => ?_)
  clear hw
  obtain ⟨r_1, rfl, o_r_1, rfl, hw⟩ := hp
  refine pm_nrm (cells' := 0) (slots' := 0) (g2 := F0 m 5 ls [pm_rf H0.size r_1]) rfl rfl rfl ?_
  refine pm_astore_n (lv' := [(3, pm_rf H0.size r_1), (0, .ref (H0.size + th)), (1, .int a1), (2, .int a2)]) hx hb dX9_ring_5 rfl hl (by decide) (by first | rfl | simp [List.filter, pm_rf_cat]) (fun ls hl_2 => ?_)
  refine pm_aload_n hx hb dX9_ring_6 rfl (lv_at hl_2 0 rfl) ?_
  refine pm_ifnull (tgt := 18) hx hb dX9_ring_7 (by decide) (fun hq => ?_) (fun q_3 hq => ?_)
  · replace hw := hw.1 hq
    subst hq
    replace hl_2 : lv_has ls 6 [(3, .null), (0, .ref (H0.size + th)), (1, .int a1), (2, .int a2)] := hl_2
    exact c_X9_ring_18 E hret hI (lv_sub hl_2 [] rfl) hw
  · replace hw := hw.2 q_3 hq
    subst hq
    have t_q_3 := o_r_1 q_3 rfl
    replace hl_2 : lv_has ls 6 [(3, .ref (H0.size + q_3)), (0, .ref (H0.size + th)), (1, .int a1), (2, .int a2)] := hl_2
    refine lv_aload_n hx hb dX9_ring_10 rfl (lv_at hl_2 1 rfl) ?_
    refine lv_iload_n hx hb dX9_ring_11 rfl (lv_at hl_2 3 rfl) ?_
    refine pm_callV (As := [.int a2]) (rest := []) 1 E hI (k_X9_isSet t_th hw) t_th (by decide) rfl kc_X9_isSet kl_X9_181 km_X9_isSet ks_X9_isSet ki_X9 (by decide +kernel) ⟨by decide, by decide⟩ rfl hl_2.1 rfl (by first | exact Nat.le_of_ble_eq_true rfl | (simp only [List.map, pm_rf_cat]; exact Nat.le_of_ble_eq_true rfl)) dX9_ring_12 ⟨by decide, by decide⟩ (fun r9 M9 H locs hp hX1 hI => ?_)
    clear hw
    obtain ⟨r_4, rfl, rfl, hw⟩ := hp
    refine pm_nrm (cells' := 0) (slots' := 0) (g2 := F0 m 15 ls [.int r_4]) rfl rfl rfl ?_
    refine lv_if_ne (tgt := 20) hx hb dX9_ring_15 (by decide) (fun h_5 => ?_) (fun h_5 => ?_)
    · replace hw := hw.1 h_5
      refine lv_aload_n hx hb dX9_ring_20 rfl (lv_at hl_2 0 rfl) ?_
      refine lv_iload_n hx hb dX9_ring_21 rfl (lv_at hl_2 3 rfl) ?_
      refine pm_callV (As := [.int a2]) (rest := []) 1 E hI (k_X5_permits t_q_3 hw) t_q_3 (by decide) rfl kc_X5_permits kl_X9_184 km_X5_permits ks_X5_permits ki_X5 (by decide +kernel) ⟨by decide, by decide⟩ rfl hl_2.1 rfl (by first | exact Nat.le_of_ble_eq_true rfl | (simp only [List.map, pm_rf_cat]; exact Nat.le_of_ble_eq_true rfl)) dX9_ring_22 ⟨by decide, by decide⟩ (fun r9 M9 H locs hp hX1 hI => ?_)
      clear hw
      obtain ⟨r_6, rfl, rfl, hw⟩ := hp
      refine pm_nrm (cells' := 0) (slots' := 0) (g2 := F0 m 25 ls [.int r_6]) rfl rfl rfl ?_
      refine lv_if_eq (tgt := 30) hx hb dX9_ring_25 (by decide) (fun h_7 => ?_) (fun h_7 => ?_)
      · replace hw := hw.1 h_7
        refine lv_iload_n hx hb dX9_ring_30 rfl (lv_at hl_2 3 rfl) ?_
        refine lv_istore (lv' := [(4, .int a2), (3, .ref (H0.size + q_3)), (0, .ref (H0.size + th)), (1, .int a1), (2, .int a2)]) hx hb dX9_ring_31 hl_2 (by decide) rfl (fun ls hl_8 => ?_)
        refine lv_aload_n hx hb dX9_ring_33 rfl (lv_at hl_8 2 rfl) ?_
        refine gf_X9_187 E hI t_th dX9_ring_34 ?_
        refine lv_iconst (v := (1 : Int32)) hx hb dX9_ring_37 (by decide) ?_
        refine lv_isub hx hb dX9_ring_38 ?_
        refine lv_topi (fun x_9 e_x_9 => ?_)
        replace hw := hw x_9 e_x_9
        refine lv_istore (lv' := [(5, .int x_9), (4, .int a2), (3, .ref (H0.size + q_3)), (0, .ref (H0.size + th)), (1, .int a1), (2, .int a2)]) hx hb dX9_ring_39 hl_8 (by decide) rfl (fun ls hl_10 => ?_)
        obtain ⟨n_11, hw⟩ := hw
        exact c_X9_ring_41 E hret n_11 _ _ _ _ _ hI t_q_3 (lv_sub hl_10 [2, 1, 0] rfl) hw
      · replace hw := hw.2 h_7
        refine lv_iconst (v := (0 : Int32)) hx hb dX9_ring_28 (by decide) ?_
        exact pm_iret E hret hI pm_X.rf ⟨_, rfl, rfl, hw⟩ (by decide) (by decide) dX9_ring_29
    · replace hw := hw.2 h_5
      exact c_X9_ring_18 E hret hI (lv_sub hl_2 [] rfl) hw
set_option maxHeartbeats 4000000 in
set_option maxRecDepth 100000 in
theorem c_X9_thingsThatMayGo_48 {p : Program} {l : Launch} {e : Env} {s : State} {m : MethodId} {args : Array Value} {below : List Frame} {meth : Method} {c : Code} {G : pm_G} {H0 : Heap} {Post : Int32 → Prop} {v0 : Nat} {v1 : Nat} {v2 : Int32} {v3 : Int32} {v4 : Int32} {v5 : Int32} {M : pm_M} {k_6 : Int32 → Int32 → Prop} (E : pm_E G p s m args meth c cX9_thingsThatMayGo 7 RX9) (hret : meth.sig.returnType = (some .int)) (hk_6 : ∀ (v4 : Int32) (v5 : Int32) (H : Heap) (locs : List Loc) (ls : Array Slot), pm_I G H0 M H locs → (pm_is M v0 8) → (pm_is M v1 4) → lv_has ls 7 [(0, .ref (H0.size + v0)), (1, .ref (H0.size + v1)), (2, .int v2), (3, .int v3), (4, .int v4), (5, .int v5)] → k_6 v4 v5 → W p l e rm_X9_thingsThatMayGo s m args below meth c H locs 0 0 (pm_Z G H0 M (pm_Pi (fun r9 M9 => M = M9 ∧ Post r9)) below args s rm_X9_thingsThatMayGo.cells rm_X9_thingsThatMayGo.slots) (F0 m 6 ls [])) {H : Heap} {locs : List Loc} {ls : Array Slot} (hI : pm_I G H0 M H locs) (t_v0 : pm_is M v0 8) (t_v1 : pm_is M v1 4) (hl : lv_has ls 7 [(0, .ref (H0.size + v0)), (1, .ref (H0.size + v1)), (2, .int v2), (3, .int v3), (4, .int v4), (5, .int v5)]) (hw : w_X9_thingsThatMayGo_48 Post k_6 v0 v1 v2 v3 v4 v5 M) : W p l e rm_X9_thingsThatMayGo s m args below meth c H locs 0 0 (pm_Z G H0 M (pm_Pi (fun r9 M9 => M = M9 ∧ Post r9)) below args s rm_X9_thingsThatMayGo.cells rm_X9_thingsThatMayGo.slots) (F0 m 48 ls []) := by
  have hx := E.1
  have hb := E.2.1
  have hown := E.2.2.2.1
  have hts := E.2.2.2.2.1
  unfold w_X9_thingsThatMayGo_48 at hw
  obtain ⟨x_1, e_x_1⟩ : ∃ z : Int32, z = v5 + (1 : Int32) := ⟨_, rfl⟩
  refine lv_iinc (v := x_1) (lv' := [(5, .int x_1), (0, .ref (H0.size + v0)), (1, .ref (H0.size + v1)), (2, .int v2), (3, .int v3), (4, .int v4)]) hx hb dX9_thingsThatMayGo_48 hl (k := 5) rfl (by rw [e_x_1]; rfl) (by decide) rfl (fun ls hl_2 => ?_)
  replace hw := hw x_1 e_x_1
  refine lv_goto (tgt := 6) hx hb dX9_thingsThatMayGo_51 (by decide) ?_
  exact hk_6 _ _ _ _ _ hI t_v0 t_v1 (lv_sub hl_2 [1, 2, 3, 4, 5, 0] rfl) hw
set_option maxHeartbeats 4000000 in
set_option maxRecDepth 100000 in
theorem c_X9_thingsThatMayGo_6 {p : Program} {l : Launch} {e : Env} {s : State} {m : MethodId} {args : Array Value} {below : List Frame} {meth : Method} {c : Code} {G : pm_G} {H0 : Heap} {Post : Int32 → Prop} {v0 : Nat} {v1 : Nat} {v2 : Int32} {v3 : Int32} {M : pm_M} (E : pm_E G p s m args meth c cX9_thingsThatMayGo 7 RX9) (hret : meth.sig.returnType = (some .int)) : ∀ (n : Nat) (v4 : Int32) (v5 : Int32) (H : Heap) (locs : List Loc) (ls : Array Slot), pm_I G H0 M H locs → (pm_is M v0 8) → (pm_is M v1 4) → lv_has ls 7 [(0, .ref (H0.size + v0)), (1, .ref (H0.size + v1)), (2, .int v2), (3, .int v3), (4, .int v4), (5, .int v5)] → w_X9_thingsThatMayGo_6 Post v0 v1 v2 v3 M n v4 v5 → W p l e rm_X9_thingsThatMayGo s m args below meth c H locs 0 0 (pm_Z G H0 M (pm_Pi (fun r9 M9 => M = M9 ∧ Post r9)) below args s rm_X9_thingsThatMayGo.cells rm_X9_thingsThatMayGo.slots) (F0 m 6 ls []) := by
  have hx := E.1
  have hb := E.2.1
  have hown := E.2.2.2.1
  have hts := E.2.2.2.2.1
  intro n
  induction n with
  | zero =>
    intro v4 v5 H locs ls hI t_v0 t_v1 hl hw
    unfold w_X9_thingsThatMayGo_6 at hw
    exact hw.elim
  | succ n ih =>
    intro v4 v5 H locs ls hI t_v0 t_v1 hl hw
    unfold w_X9_thingsThatMayGo_6 at hw
    refine lv_iload hx hb dX9_thingsThatMayGo_6 (lv_at hl 5 rfl) ?_
    refine lv_aload_n hx hb dX9_thingsThatMayGo_8 rfl (lv_at hl 0 rfl) ?_
    refine gf_X9_187 E hI t_v0 dX9_thingsThatMayGo_9 ?_
    refine lv_icmp_ge (tgt := 54) hx hb dX9_thingsThatMayGo_12 (by decide) (fun h_1 => ?_) (fun h_1 => ?_)
    · replace hw := hw.1 h_1
      refine lv_iload hx hb dX9_thingsThatMayGo_54 (lv_at hl 4 rfl) ?_
      exact pm_iret E hret hI pm_X.rf ⟨_, rfl, rfl, hw⟩ (by decide) (by decide) dX9_thingsThatMayGo_56
    · replace hw := hw.2 h_1
      refine lv_iconst (v := (1 : Int32)) hx hb dX9_thingsThatMayGo_15 (by decide) ?_
      refine lv_iload hx hb dX9_thingsThatMayGo_16 (lv_at hl 5 rfl) ?_
      refine lv_ishl hx hb dX9_thingsThatMayGo_18 ?_
      refine lv_topi (fun x_2 e_x_2 => ?_)
      replace hw := hw x_2 e_x_2
      refine lv_istore (lv' := [(6, .int x_2), (0, .ref (H0.size + v0)), (1, .ref (H0.size + v1)), (2, .int v2), (3, .int v3), (4, .int v4), (5, .int v5)]) hx hb dX9_thingsThatMayGo_19 hl (by decide) rfl (fun ls hl_3 => ?_)
      refine lv_iload_n hx hb dX9_thingsThatMayGo_21 rfl (lv_at hl_3 3 rfl) ?_
      refine lv_iload hx hb dX9_thingsThatMayGo_22 (lv_at hl_3 0 rfl) ?_
      refine lv_iand hx hb dX9_thingsThatMayGo_24 ?_
      refine lv_if_eq (tgt := 48) hx hb dX9_thingsThatMayGo_25 (by decide) (fun h_4 => ?_) (fun h_4 => ?_)
      · replace hw := hw.1 h_4
        exact c_X9_thingsThatMayGo_48 E hret ih hI t_v0 t_v1 (lv_sub hl_3 [1, 2, 3, 4, 5, 6] rfl) hw
      · replace hw := hw.2 h_4
        refine lv_aload_n hx hb dX9_thingsThatMayGo_28 rfl (lv_at hl_3 2 rfl) ?_
        refine lv_iload_n hx hb dX9_thingsThatMayGo_29 rfl (lv_at hl_3 4 rfl) ?_
        refine lv_iload hx hb dX9_thingsThatMayGo_30 (lv_at hl_3 0 rfl) ?_
        refine lv_iconst (v := (-1 : Int32)) hx hb dX9_thingsThatMayGo_32 (by decide) ?_
        refine lv_ixor hx hb dX9_thingsThatMayGo_33 ?_
        refine lv_iand hx hb dX9_thingsThatMayGo_34 ?_
        refine pm_callV (As := [.int (v3 &&& (x_2 ^^^ (-1 : Int32)))]) (rest := []) 1 E hI (k_X5_permits t_v1 hw) t_v1 (by decide) rfl kc_X5_permits kl_X9_184 km_X5_permits ks_X5_permits ki_X5 (by decide +kernel) ⟨by decide, by decide⟩ rfl hl_3.1 rfl (by first | exact Nat.le_of_ble_eq_true rfl | (simp only [List.map, pm_rf_cat]; exact Nat.le_of_ble_eq_true rfl)) dX9_thingsThatMayGo_35 ⟨by decide, by decide⟩ (fun r9 M9 H locs hp hX1 hI => ?_)
        clear hw
        obtain ⟨r_5, rfl, rfl, hw⟩ := hp
        refine pm_nrm (cells' := 0) (slots' := 0) (g2 := F0 m 38 ls [.int r_5]) rfl rfl rfl ?_
        refine lv_if_eq (tgt := 48) hx hb dX9_thingsThatMayGo_38 (by decide) (fun h_6 => ?_) (fun h_6 => ?_)
        · replace hw := hw.1 h_6
          exact c_X9_thingsThatMayGo_48 E hret ih hI t_v0 t_v1 (lv_sub hl_3 [1, 2, 3, 4, 5, 6] rfl) hw
        · replace hw := hw.2 h_6
          refine lv_iload hx hb dX9_thingsThatMayGo_41 (lv_at hl_3 5 rfl) ?_
          refine lv_iload hx hb dX9_thingsThatMayGo_43 (lv_at hl_3 0 rfl) ?_
          refine lv_ior hx hb dX9_thingsThatMayGo_45 ?_
          refine lv_topi (fun x_7 e_x_7 => ?_)
          replace hw := hw x_7 e_x_7
          refine lv_istore (lv' := [(4, .int x_7), (6, .int x_2), (0, .ref (H0.size + v0)), (1, .ref (H0.size + v1)), (2, .int v2), (3, .int v3), (5, .int v5)]) hx hb dX9_thingsThatMayGo_46 hl_3 (by decide) rfl (fun ls hl_8 => ?_)
          exact c_X9_thingsThatMayGo_48 E hret ih hI t_v0 t_v1 (lv_sub hl_8 [2, 3, 4, 5, 0, 6] rfl) hw
set_option maxHeartbeats 4000000 in
set_option maxRecDepth 100000 in
theorem k_X9_thingsThatMayGo {l : Launch} {G : pm_G} {H0 : Heap} {th : Nat} {a1 : Nat} {a2 : Int32} {a3 : Int32} {M : pm_M} {Post : Int32 → Prop} (t_th : pm_is M th 8) (t_a1 : pm_is M a1 4) (hw : w_X9_thingsThatMayGo th a1 a2 a3 M Post) : pm_C l G H0 yX9_thingsThatMayGo cX9_thingsThatMayGo 7 (some .int) rm_X9_thingsThatMayGo [.ref (H0.size + th), .ref (H0.size + a1), .int a2, .int a3] M (pm_Pi (fun r9 M9 => M = M9 ∧ Post r9)) := by
  refine pm_start (by decide +kernel) (Nat.le_of_ble_eq_true rfl) ?_
  intro p e s m args below meth c H ls E hret hnm hI hl
  have hl : lv_has ls 7 [(0, .ref (H0.size + th)), (1, .ref (H0.size + a1)), (2, .int a2), (3, .int a3)] := hl
  have hx := E.1
  have hb := E.2.1
  have hown := E.2.2.2.1
  have hts := E.2.2.2.2.1
  unfold w_X9_thingsThatMayGo at hw
  refine lv_iconst (v := (0 : Int32)) hx hb dX9_thingsThatMayGo_0 (by decide) ?_
  refine lv_istore (lv' := [(4, .int (0 : Int32)), (0, .ref (H0.size + th)), (1, .ref (H0.size + a1)), (2, .int a2), (3, .int a3)]) hx hb dX9_thingsThatMayGo_1 hl (by decide) rfl (fun ls hl_1 => ?_)
  refine lv_iconst (v := (0 : Int32)) hx hb dX9_thingsThatMayGo_3 (by decide) ?_
  refine lv_istore (lv' := [(5, .int (0 : Int32)), (4, .int (0 : Int32)), (0, .ref (H0.size + th)), (1, .ref (H0.size + a1)), (2, .int a2), (3, .int a3)]) hx hb dX9_thingsThatMayGo_4 hl_1 (by decide) rfl (fun ls hl_2 => ?_)
  obtain ⟨n_3, hw⟩ := hw
  exact c_X9_thingsThatMayGo_6 E hret n_3 _ _ _ _ _ hI t_th t_a1 (lv_sub hl_2 [2, 3, 4, 5, 1, 0] rfl) hw
set_option maxHeartbeats 4000000 in
set_option maxRecDepth 100000 in
theorem c_X9_exchange_77 {p : Program} {l : Launch} {e : Env} {s : State} {m : MethodId} {args : Array Value} {below : List Frame} {meth : Method} {c : Code} {G : pm_G} {H0 : Heap} {Post : Int32 → Prop} {s0 : Int32} {M : pm_M} (E : pm_E G p s m args meth c cX9_exchange 6 RX9) (hret : meth.sig.returnType = (some .int)) {H : Heap} {locs : List Loc} {ls : Array Slot} (hI : pm_I G H0 M H locs) (hl : lv_has ls 6 []) (hw : w_X9_exchange_77 Post s0 M) : W p l e rm_X9_exchange s m args below meth c H locs 0 0 (pm_Z G H0 M (pm_Pi (fun r9 M9 => M = M9 ∧ Post r9)) below args s rm_X9_exchange.cells rm_X9_exchange.slots) (F0 m 77 ls [.int s0]) := by
  have hx := E.1
  have hb := E.2.1
  have hown := E.2.2.2.1
  have hts := E.2.2.2.2.1
  unfold w_X9_exchange_77 at hw
  exact pm_iret E hret hI pm_X.rf ⟨_, rfl, rfl, hw⟩ (by decide) (by decide) dX9_exchange_77
set_option maxHeartbeats 4000000 in
set_option maxRecDepth 100000 in
theorem c_X9_exchange_52 {p : Program} {l : Launch} {e : Env} {s : State} {m : MethodId} {args : Array Value} {below : List Frame} {meth : Method} {c : Code} {G : pm_G} {H0 : Heap} {Post : Int32 → Prop} {M : pm_M} (E : pm_E G p s m args meth c cX9_exchange 6 RX9) (hret : meth.sig.returnType = (some .int)) {H : Heap} {locs : List Loc} {ls : Array Slot} (hI : pm_I G H0 M H locs) (hl : lv_has ls 6 []) (hw : w_X9_exchange_52 Post M) : W p l e rm_X9_exchange s m args below meth c H locs 0 0 (pm_Z G H0 M (pm_Pi (fun r9 M9 => M = M9 ∧ Post r9)) below args s rm_X9_exchange.cells rm_X9_exchange.slots) (F0 m 52 ls []) := by
  have hx := E.1
  have hb := E.2.1
  have hown := E.2.2.2.1
  have hts := E.2.2.2.2.1
  unfold w_X9_exchange_52 at hw
  refine lv_iconst (v := (-1 : Int32)) hx hb dX9_exchange_52 (by decide) ?_
  exact pm_iret E hret hI pm_X.rf ⟨_, rfl, rfl, hw⟩ (by decide) (by decide) dX9_exchange_53
set_option maxHeartbeats 4000000 in
set_option maxRecDepth 100000 in
theorem c_X9_exchange_28 {p : Program} {l : Launch} {e : Env} {s : State} {m : MethodId} {args : Array Value} {below : List Frame} {meth : Method} {c : Code} {G : pm_G} {H0 : Heap} {Post : Int32 → Prop} {M : pm_M} (E : pm_E G p s m args meth c cX9_exchange 6 RX9) (hret : meth.sig.returnType = (some .int)) {H : Heap} {locs : List Loc} {ls : Array Slot} (hI : pm_I G H0 M H locs) (hl : lv_has ls 6 []) (hw : w_X9_exchange_28 Post M) : W p l e rm_X9_exchange s m args below meth c H locs 0 0 (pm_Z G H0 M (pm_Pi (fun r9 M9 => M = M9 ∧ Post r9)) below args s rm_X9_exchange.cells rm_X9_exchange.slots) (F0 m 28 ls []) := by
  have hx := E.1
  have hb := E.2.1
  have hown := E.2.2.2.1
  have hts := E.2.2.2.2.1
  unfold w_X9_exchange_28 at hw
  refine lv_iconst (v := (-1 : Int32)) hx hb dX9_exchange_28 (by decide) ?_
  exact pm_iret E hret hI pm_X.rf ⟨_, rfl, rfl, hw⟩ (by decide) (by decide) dX9_exchange_29
set_option maxHeartbeats 4000000 in
set_option maxRecDepth 100000 in
theorem k_X9_exchange {l : Launch} {G : pm_G} {H0 : Heap} {th : Nat} {a1 : Int32} {a2 : Int32} {a3 : Int32} {M : pm_M} {Post : Int32 → Prop} (t_th : pm_is M th 8) (hw : w_X9_exchange th a1 a2 a3 M Post) : pm_C l G H0 yX9_exchange cX9_exchange 6 (some .int) rm_X9_exchange [.ref (H0.size + th), .int a1, .int a2, .int a3] M (pm_Pi (fun r9 M9 => M = M9 ∧ Post r9)) := by
  refine pm_start (by decide +kernel) (Nat.le_of_ble_eq_true rfl) ?_
  intro p e s m args below meth c H ls E hret hnm hI hl
  have hl : lv_has ls 6 [(0, .ref (H0.size + th)), (1, .int a1), (2, .int a2), (3, .int a3)] := hl
  have hx := E.1
  have hb := E.2.1
  have hown := E.2.2.2.1
  have hts := E.2.2.2.2.1
  unfold w_X9_exchange at hw
  refine lv_aload_n hx hb dX9_exchange_0 rfl (lv_at hl 0 rfl) ?_
  refine lv_iload_n hx hb dX9_exchange_1 rfl (lv_at hl 1 rfl) ?_
  refine pm_callV (As := [.int a1]) (rest := []) 1 E hI (k_X9_ruleAt t_th hw) t_th (by decide) rfl kc_X9_ruleAt kl_X9_158 km_X9_ruleAt ks_X9_ruleAt ki_X9 (by decide +kernel) ⟨by decide, by decide⟩ rfl hl.1 rfl (by first | exact Nat.le_of_ble_eq_true rfl | (simp only [List.map, pm_rf_cat]; exact Nat.le_of_ble_eq_true rfl)) dX9_exchange_2 ⟨by decide, by decide⟩ (fun r9 M9 H locs hp hX1 hI => ?_)
  clear hw
  obtain ⟨r_1, rfl, o_r_1, rfl, hw⟩ := hp
  refine pm_nrm (cells' := 0) (slots' := 0) (g2 := F0 m 5 ls [pm_rf H0.size r_1]) rfl rfl rfl ?_
  refine pm_astore (lv' := [(4, pm_rf H0.size r_1), (0, .ref (H0.size + th)), (1, .int a1), (2, .int a2), (3, .int a3)]) hx hb dX9_exchange_5 hl (by decide) (by first | rfl | simp [List.filter, pm_rf_cat]) (fun ls hl_2 => ?_)
  refine pm_aload hx hb dX9_exchange_7 (lv_at hl_2 0 rfl) ?_
  refine pm_ifnull (tgt := 28) hx hb dX9_exchange_9 (by decide) (fun hq => ?_) (fun q_3 hq => ?_)
  · replace hw := hw.1 hq
    subst hq
    replace hl_2 : lv_has ls 6 [(4, .null), (0, .ref (H0.size + th)), (1, .int a1), (2, .int a2), (3, .int a3)] := hl_2
    exact c_X9_exchange_28 E hret hI (lv_sub hl_2 [] rfl) hw
  · replace hw := hw.2 q_3 hq
    subst hq
    have t_q_3 := o_r_1 q_3 rfl
    replace hl_2 : lv_has ls 6 [(4, .ref (H0.size + q_3)), (0, .ref (H0.size + th)), (1, .int a1), (2, .int a2), (3, .int a3)] := hl_2
    refine lv_aload_n hx hb dX9_exchange_12 rfl (lv_at hl_2 1 rfl) ?_
    refine lv_iload_n hx hb dX9_exchange_13 rfl (lv_at hl_2 3 rfl) ?_
    refine pm_callV (As := [.int a2]) (rest := []) 1 E hI (k_X9_isSet t_th hw) t_th (by decide) rfl kc_X9_isSet kl_X9_181 km_X9_isSet ks_X9_isSet ki_X9 (by decide +kernel) ⟨by decide, by decide⟩ rfl hl_2.1 rfl (by first | exact Nat.le_of_ble_eq_true rfl | (simp only [List.map, pm_rf_cat]; exact Nat.le_of_ble_eq_true rfl)) dX9_exchange_14 ⟨by decide, by decide⟩ (fun r9 M9 H locs hp hX1 hI => ?_)
    clear hw
    obtain ⟨r_4, rfl, rfl, hw⟩ := hp
    refine pm_nrm (cells' := 0) (slots' := 0) (g2 := F0 m 17 ls [.int r_4]) rfl rfl rfl ?_
    refine lv_if_eq (tgt := 28) hx hb dX9_exchange_17 (by decide) (fun h_5 => ?_) (fun h_5 => ?_)
    · replace hw := hw.1 h_5
      exact c_X9_exchange_28 E hret hI (lv_sub hl_2 [] rfl) hw
    · replace hw := hw.2 h_5
      refine lv_aload_n hx hb dX9_exchange_20 rfl (lv_at hl_2 1 rfl) ?_
      refine lv_iload_n hx hb dX9_exchange_21 rfl (lv_at hl_2 4 rfl) ?_
      refine pm_callV (As := [.int a3]) (rest := []) 1 E hI (k_X9_isThing t_th hw) t_th (by decide) rfl kc_X9_isThing kl_X9_68 km_X9_isThing ks_X9_isThing ki_X9 (by decide +kernel) ⟨by decide, by decide⟩ rfl hl_2.1 rfl (by first | exact Nat.le_of_ble_eq_true rfl | (simp only [List.map, pm_rf_cat]; exact Nat.le_of_ble_eq_true rfl)) dX9_exchange_22 ⟨by decide, by decide⟩ (fun r9 M9 H locs hp hX1 hI => ?_)
      clear hw
      obtain ⟨r_6, rfl, rfl, hw⟩ := hp
      refine pm_nrm (cells' := 0) (slots' := 0) (g2 := F0 m 25 ls [.int r_6]) rfl rfl rfl ?_
      refine lv_if_ne (tgt := 30) hx hb dX9_exchange_25 (by decide) (fun h_7 => ?_) (fun h_7 => ?_)
      · replace hw := hw.1 h_7
        refine lv_iload_n hx hb dX9_exchange_30 rfl (lv_at hl_2 3 rfl) ?_
        refine lv_iconst (v := (1 : Int32)) hx hb dX9_exchange_31 (by decide) ?_
        refine lv_iload_n hx hb dX9_exchange_32 rfl (lv_at hl_2 4 rfl) ?_
        refine lv_ishl hx hb dX9_exchange_33 ?_
        refine lv_ior hx hb dX9_exchange_34 ?_
        refine lv_topi (fun x_8 e_x_8 => ?_)
        replace hw := hw x_8 e_x_8
        refine lv_istore (lv' := [(5, .int x_8), (4, .ref (H0.size + q_3)), (0, .ref (H0.size + th)), (1, .int a1), (2, .int a2), (3, .int a3)]) hx hb dX9_exchange_35 hl_2 (by decide) rfl (fun ls hl_9 => ?_)
        refine lv_aload hx hb dX9_exchange_37 (lv_at hl_9 1 rfl) ?_
        refine lv_iload_n hx hb dX9_exchange_39 rfl (lv_at hl_9 4 rfl) ?_
        refine pm_callV (As := [.int a2]) (rest := []) 1 E hI (k_X5_permits t_q_3 hw) t_q_3 (by decide) rfl kc_X5_permits kl_X9_184 km_X5_permits ks_X5_permits ki_X5 (by decide +kernel) ⟨by decide, by decide⟩ rfl hl_9.1 rfl (by first | exact Nat.le_of_ble_eq_true rfl | (simp only [List.map, pm_rf_cat]; exact Nat.le_of_ble_eq_true rfl)) dX9_exchange_40 ⟨by decide, by decide⟩ (fun r9 M9 H locs hp hX1 hI => ?_)
        clear hw
        obtain ⟨r_10, rfl, rfl, hw⟩ := hp
        refine pm_nrm (cells' := 0) (slots' := 0) (g2 := F0 m 43 ls [.int r_10]) rfl rfl rfl ?_
        refine lv_if_eq (tgt := 52) hx hb dX9_exchange_43 (by decide) (fun h_11 => ?_) (fun h_11 => ?_)
        · replace hw := hw.1 h_11
          exact c_X9_exchange_52 E hret hI (lv_sub hl_9 [] rfl) hw
        · replace hw := hw.2 h_11
          refine lv_iload hx hb dX9_exchange_46 (lv_at hl_9 0 rfl) ?_
          refine lv_iload_n hx hb dX9_exchange_48 rfl (lv_at hl_9 4 rfl) ?_
          refine lv_icmp_ne (tgt := 54) hx hb dX9_exchange_49 (by decide) (fun h_12 => ?_) (fun h_12 => ?_)
          · replace hw := hw.1 h_12
            refine lv_aload hx hb dX9_exchange_54 (lv_at hl_9 1 rfl) ?_
            refine lv_iload hx hb dX9_exchange_56 (lv_at hl_9 0 rfl) ?_
            refine pm_callV (As := [.int x_8]) (rest := []) 1 E hI (k_X5_permits t_q_3 hw) t_q_3 (by decide) rfl kc_X5_permits kl_X9_184 km_X5_permits ks_X5_permits ki_X5 (by decide +kernel) ⟨by decide, by decide⟩ rfl hl_9.1 rfl (by first | exact Nat.le_of_ble_eq_true rfl | (simp only [List.map, pm_rf_cat]; exact Nat.le_of_ble_eq_true rfl)) dX9_exchange_58 ⟨by decide, by decide⟩ (fun r9 M9 H locs hp hX1 hI => ?_)
            clear hw
            obtain ⟨r_13, rfl, rfl, hw⟩ := hp
            refine pm_nrm (cells' := 0) (slots' := 0) (g2 := F0 m 61 ls [.int r_13]) rfl rfl rfl ?_
            refine lv_if_eq (tgt := 68) hx hb dX9_exchange_61 (by decide) (fun h_14 => ?_) (fun h_14 => ?_)
            · replace hw := hw.1 h_14
              refine lv_aload_n hx hb dX9_exchange_68 rfl (lv_at hl_9 2 rfl) ?_
              refine lv_aload hx hb dX9_exchange_69 (lv_at hl_9 1 rfl) ?_
              refine lv_iload_n hx hb dX9_exchange_71 rfl (lv_at hl_9 4 rfl) ?_
              refine lv_iload hx hb dX9_exchange_72 (lv_at hl_9 0 rfl) ?_
              refine pm_callV (As := [.ref (H0.size + q_3), .int a2, .int x_8]) (rest := []) 3 E hI (k_X9_thingsThatMayGo t_th t_q_3 hw) t_th (by decide) rfl kc_X9_thingsThatMayGo kl_X9_190 km_X9_thingsThatMayGo ks_X9_thingsThatMayGo ki_X9 (by decide +kernel) ⟨by decide, by decide⟩ rfl hl_9.1 rfl (by first | exact Nat.le_of_ble_eq_true rfl | (simp only [List.map, pm_rf_cat]; exact Nat.le_of_ble_eq_true rfl)) dX9_exchange_74 ⟨by decide, by decide⟩ (fun r9 M9 H locs hp hX1 hI => ?_)
              clear hw
              obtain ⟨r_15, rfl, rfl, hw⟩ := hp
              refine pm_nrm (cells' := 0) (slots' := 0) (g2 := F0 m 77 ls [.int r_15]) rfl rfl rfl ?_
              exact c_X9_exchange_77 E hret hI (lv_sub hl_9 [] rfl) hw
            · replace hw := hw.2 h_14
              refine lv_iconst (v := (0 : Int32)) hx hb dX9_exchange_64 (by decide) ?_
              refine lv_goto (tgt := 77) hx hb dX9_exchange_65 (by decide) ?_
              exact c_X9_exchange_77 E hret hI (lv_sub hl_9 [] rfl) hw
          · replace hw := hw.2 h_12
            exact c_X9_exchange_52 E hret hI (lv_sub hl_9 [] rfl) hw
      · replace hw := hw.2 h_7
        exact c_X9_exchange_28 E hret hI (lv_sub hl_2 [] rfl) hw
set_option maxHeartbeats 4000000 in
set_option maxRecDepth 100000 in
theorem c_X9_goesAhead_47 {p : Program} {l : Launch} {e : Env} {s : State} {m : MethodId} {args : Array Value} {below : List Frame} {meth : Method} {c : Code} {G : pm_G} {H0 : Heap} {Post : Int32 → Prop} {s0 : Int32} {M : pm_M} (E : pm_E G p s m args meth c cX9_goesAhead 4 RX9) (hret : meth.sig.returnType = (some .boolean)) {H : Heap} {locs : List Loc} {ls : Array Slot} (hI : pm_I G H0 M H locs) (hl : lv_has ls 4 []) (hw : w_X9_goesAhead_47 Post s0 M) : W p l e rm_X9_goesAhead s m args below meth c H locs 0 0 (pm_Z G H0 M (pm_Pi (fun r9 M9 => M = M9 ∧ Post r9)) below args s rm_X9_goesAhead.cells rm_X9_goesAhead.slots) (F0 m 47 ls [.int s0]) := by
  have hx := E.1
  have hb := E.2.1
  have hown := E.2.2.2.1
  have hts := E.2.2.2.2.1
  unfold w_X9_goesAhead_47 at hw
  exact pm_zret E hret hI pm_X.rf (pm_nb hw.1) ⟨_, rfl, rfl, hw.2⟩ (by decide) (by decide) dX9_goesAhead_47
set_option maxHeartbeats 4000000 in
set_option maxRecDepth 100000 in
theorem k_X9_goesAhead {l : Launch} {G : pm_G} {H0 : Heap} {th : Nat} {a1 : Int32} {a2 : Int32} {a3 : Int32} {M : pm_M} {Post : Int32 → Prop} (t_th : pm_is M th 8) (hw : w_X9_goesAhead th a1 a2 a3 M Post) : pm_C l G H0 yX9_goesAhead cX9_goesAhead 4 (some .boolean) rm_X9_goesAhead [.ref (H0.size + th), .int a1, .int a2, .int a3] M (pm_Pi (fun r9 M9 => M = M9 ∧ Post r9)) := by
  refine pm_start (by decide +kernel) (Nat.le_of_ble_eq_true rfl) ?_
  intro p e s m args below meth c H ls E hret hnm hI hl
  have hl : lv_has ls 4 [(0, .ref (H0.size + th)), (1, .int a1), (2, .int a2), (3, .int a3)] := hl
  have hx := E.1
  have hb := E.2.1
  have hown := E.2.2.2.1
  have hts := E.2.2.2.2.1
  unfold w_X9_goesAhead at hw
  refine lv_iload_n hx hb dX9_goesAhead_0 rfl (lv_at hl 3 rfl) ?_
  refine lv_if_eq (tgt := 27) hx hb dX9_goesAhead_1 (by decide) (fun h_1 => ?_) (fun h_1 => ?_)
  · replace hw := hw.1 h_1
    refine lv_aload_n hx hb dX9_goesAhead_27 rfl (lv_at hl 0 rfl) ?_
    obtain ⟨q_2, e_q_2, hw⟩ := hw
    refine gf_X9_21 E hI t_th dX9_goesAhead_28 e_q_2 (fun t_q_2 => ?_)
    refine lv_iload_n hx hb dX9_goesAhead_31 rfl (lv_at hl 1 rfl) ?_
    obtain ⟨h_3, hw⟩ := hw
    refine pm_iald E hI t_q_2 h_3 dX9_goesAhead_32 ?_
    refine lv_aload_n hx hb dX9_goesAhead_33 rfl (lv_at hl 0 rfl) ?_
    refine gf_X9_21 E hI t_th dX9_goesAhead_34 e_q_2 (fun _ => ?_)
    refine lv_iload_n hx hb dX9_goesAhead_37 rfl (lv_at hl 2 rfl) ?_
    obtain ⟨h_4, hw⟩ := hw
    refine pm_iald E hI t_q_2 h_4 dX9_goesAhead_38 ?_
    refine lv_icmp_le (tgt := 46) hx hb dX9_goesAhead_39 (by decide) (fun h_5 => ?_) (fun h_5 => ?_)
    · replace hw := hw.1 h_5
      refine lv_iconst (v := (0 : Int32)) hx hb dX9_goesAhead_46 (by decide) ?_
      exact c_X9_goesAhead_47 E hret hI (lv_sub hl [] rfl) hw
    · replace hw := hw.2 h_5
      refine lv_iconst (v := (1 : Int32)) hx hb dX9_goesAhead_42 (by decide) ?_
      refine lv_goto (tgt := 47) hx hb dX9_goesAhead_43 (by decide) ?_
      exact c_X9_goesAhead_47 E hret hI (lv_sub hl [] rfl) hw
  · replace hw := hw.2 h_1
    refine lv_aload_n hx hb dX9_goesAhead_4 rfl (lv_at hl 0 rfl) ?_
    obtain ⟨q_6, e_q_6, hw⟩ := hw
    refine gf_X9_21 E hI t_th dX9_goesAhead_5 e_q_6 (fun t_q_6 => ?_)
    refine lv_iload_n hx hb dX9_goesAhead_8 rfl (lv_at hl 1 rfl) ?_
    obtain ⟨h_7, hw⟩ := hw
    refine pm_iald E hI t_q_6 h_7 dX9_goesAhead_9 ?_
    refine lv_aload_n hx hb dX9_goesAhead_10 rfl (lv_at hl 0 rfl) ?_
    refine gf_X9_21 E hI t_th dX9_goesAhead_11 e_q_6 (fun _ => ?_)
    refine lv_iload_n hx hb dX9_goesAhead_14 rfl (lv_at hl 2 rfl) ?_
    obtain ⟨h_8, hw⟩ := hw
    refine pm_iald E hI t_q_6 h_8 dX9_goesAhead_15 ?_
    refine lv_icmp_ge (tgt := 23) hx hb dX9_goesAhead_16 (by decide) (fun h_9 => ?_) (fun h_9 => ?_)
    · replace hw := hw.1 h_9
      refine lv_iconst (v := (0 : Int32)) hx hb dX9_goesAhead_23 (by decide) ?_
      refine lv_goto (tgt := 47) hx hb dX9_goesAhead_24 (by decide) ?_
      exact c_X9_goesAhead_47 E hret hI (lv_sub hl [] rfl) hw
    · replace hw := hw.2 h_9
      refine lv_iconst (v := (1 : Int32)) hx hb dX9_goesAhead_19 (by decide) ?_
      refine lv_goto (tgt := 47) hx hb dX9_goesAhead_20 (by decide) ?_
      exact c_X9_goesAhead_47 E hret hI (lv_sub hl [] rfl) hw
set_option maxHeartbeats 4000000 in
set_option maxRecDepth 100000 in
theorem c_X9_nextByWeight_41 {p : Program} {l : Launch} {e : Env} {s : State} {m : MethodId} {args : Array Value} {below : List Frame} {meth : Method} {c : Code} {G : pm_G} {H0 : Heap} {Post : Int32 → Prop} {v0 : Nat} {v1 : Int32} {v2 : Int32} {v3 : Int32} {v4 : Int32} {M : pm_M} {k_5 : Int32 → Int32 → Prop} (E : pm_E G p s m args meth c cX9_nextByWeight 5 RX9) (hret : meth.sig.returnType = (some .int)) (hk_5 : ∀ (v3 : Int32) (v4 : Int32) (H : Heap) (locs : List Loc) (ls : Array Slot), pm_I G H0 M H locs → (pm_is M v0 8) → lv_has ls 5 [(0, .ref (H0.size + v0)), (1, .int v1), (2, .int v2), (3, .int v3), (4, .int v4)] → k_5 v3 v4 → W p l e rm_X9_nextByWeight s m args below meth c H locs 0 0 (pm_Z G H0 M (pm_Pi (fun r9 M9 => M = M9 ∧ Post r9)) below args s rm_X9_nextByWeight.cells rm_X9_nextByWeight.slots) (F0 m 5 ls [])) {H : Heap} {locs : List Loc} {ls : Array Slot} (hI : pm_I G H0 M H locs) (t_v0 : pm_is M v0 8) (hl : lv_has ls 5 [(0, .ref (H0.size + v0)), (1, .int v1), (2, .int v2), (3, .int v3), (4, .int v4)]) (hw : w_X9_nextByWeight_41 Post k_5 v0 v1 v2 v3 v4 M) : W p l e rm_X9_nextByWeight s m args below meth c H locs 0 0 (pm_Z G H0 M (pm_Pi (fun r9 M9 => M = M9 ∧ Post r9)) below args s rm_X9_nextByWeight.cells rm_X9_nextByWeight.slots) (F0 m 41 ls []) := by
  have hx := E.1
  have hb := E.2.1
  have hown := E.2.2.2.1
  have hts := E.2.2.2.2.1
  unfold w_X9_nextByWeight_41 at hw
  obtain ⟨x_1, e_x_1⟩ : ∃ z : Int32, z = v4 + (1 : Int32) := ⟨_, rfl⟩
  refine lv_iinc (v := x_1) (lv' := [(4, .int x_1), (0, .ref (H0.size + v0)), (1, .int v1), (2, .int v2), (3, .int v3)]) hx hb dX9_nextByWeight_41 hl (k := 4) rfl (by rw [e_x_1]; rfl) (by decide) rfl (fun ls hl_2 => ?_)
  replace hw := hw x_1 e_x_1
  refine lv_goto (tgt := 5) hx hb dX9_nextByWeight_44 (by decide) ?_
  exact hk_5 _ _ _ _ _ hI t_v0 (lv_sub hl_2 [1, 2, 3, 4, 0] rfl) hw
set_option maxHeartbeats 4000000 in
set_option maxRecDepth 100000 in
theorem c_X9_nextByWeight_38 {p : Program} {l : Launch} {e : Env} {s : State} {m : MethodId} {args : Array Value} {below : List Frame} {meth : Method} {c : Code} {G : pm_G} {H0 : Heap} {Post : Int32 → Prop} {v0 : Nat} {v1 : Int32} {v2 : Int32} {v4 : Int32} {M : pm_M} {k_5 : Int32 → Int32 → Prop} (E : pm_E G p s m args meth c cX9_nextByWeight 5 RX9) (hret : meth.sig.returnType = (some .int)) (hk_5 : ∀ (v3 : Int32) (v4 : Int32) (H : Heap) (locs : List Loc) (ls : Array Slot), pm_I G H0 M H locs → (pm_is M v0 8) → lv_has ls 5 [(0, .ref (H0.size + v0)), (1, .int v1), (2, .int v2), (3, .int v3), (4, .int v4)] → k_5 v3 v4 → W p l e rm_X9_nextByWeight s m args below meth c H locs 0 0 (pm_Z G H0 M (pm_Pi (fun r9 M9 => M = M9 ∧ Post r9)) below args s rm_X9_nextByWeight.cells rm_X9_nextByWeight.slots) (F0 m 5 ls [])) {H : Heap} {locs : List Loc} {ls : Array Slot} (hI : pm_I G H0 M H locs) (t_v0 : pm_is M v0 8) (hl : lv_has ls 5 [(0, .ref (H0.size + v0)), (1, .int v1), (2, .int v2), (4, .int v4)]) (hw : w_X9_nextByWeight_38 Post k_5 v0 v1 v2 v4 M) : W p l e rm_X9_nextByWeight s m args below meth c H locs 0 0 (pm_Z G H0 M (pm_Pi (fun r9 M9 => M = M9 ∧ Post r9)) below args s rm_X9_nextByWeight.cells rm_X9_nextByWeight.slots) (F0 m 38 ls []) := by
  have hx := E.1
  have hb := E.2.1
  have hown := E.2.2.2.1
  have hts := E.2.2.2.2.1
  unfold w_X9_nextByWeight_38 at hw
  refine lv_iload hx hb dX9_nextByWeight_38 (lv_at hl 3 rfl) ?_
  refine lv_istore_n (lv' := [(3, .int v4), (0, .ref (H0.size + v0)), (1, .int v1), (2, .int v2), (4, .int v4)]) hx hb dX9_nextByWeight_40 rfl hl (by decide) rfl (fun ls hl_1 => ?_)
  exact c_X9_nextByWeight_41 E hret hk_5 hI t_v0 (lv_sub hl_1 [1, 2, 3, 0, 4] rfl) hw
set_option maxHeartbeats 4000000 in
set_option maxRecDepth 100000 in
theorem c_X9_nextByWeight_5 {p : Program} {l : Launch} {e : Env} {s : State} {m : MethodId} {args : Array Value} {below : List Frame} {meth : Method} {c : Code} {G : pm_G} {H0 : Heap} {Post : Int32 → Prop} {v0 : Nat} {v1 : Int32} {v2 : Int32} {M : pm_M} (E : pm_E G p s m args meth c cX9_nextByWeight 5 RX9) (hret : meth.sig.returnType = (some .int)) : ∀ (n : Nat) (v3 : Int32) (v4 : Int32) (H : Heap) (locs : List Loc) (ls : Array Slot), pm_I G H0 M H locs → (pm_is M v0 8) → lv_has ls 5 [(0, .ref (H0.size + v0)), (1, .int v1), (2, .int v2), (3, .int v3), (4, .int v4)] → w_X9_nextByWeight_5 Post v0 v1 v2 M n v3 v4 → W p l e rm_X9_nextByWeight s m args below meth c H locs 0 0 (pm_Z G H0 M (pm_Pi (fun r9 M9 => M = M9 ∧ Post r9)) below args s rm_X9_nextByWeight.cells rm_X9_nextByWeight.slots) (F0 m 5 ls []) := by
  have hx := E.1
  have hb := E.2.1
  have hown := E.2.2.2.1
  have hts := E.2.2.2.2.1
  intro n
  induction n with
  | zero =>
    intro v3 v4 H locs ls hI t_v0 hl hw
    unfold w_X9_nextByWeight_5 at hw
    exact hw.elim
  | succ n ih =>
    intro v3 v4 H locs ls hI t_v0 hl hw
    unfold w_X9_nextByWeight_5 at hw
    refine lv_iload hx hb dX9_nextByWeight_5 (lv_at hl 4 rfl) ?_
    refine lv_aload_n hx hb dX9_nextByWeight_7 rfl (lv_at hl 0 rfl) ?_
    refine gf_X9_187 E hI t_v0 dX9_nextByWeight_8 ?_
    refine lv_icmp_ge (tgt := 47) hx hb dX9_nextByWeight_11 (by decide) (fun h_1 => ?_) (fun h_1 => ?_)
    · replace hw := hw.1 h_1
      refine lv_iload_n hx hb dX9_nextByWeight_47 rfl (lv_at hl 3 rfl) ?_
      refine lv_iconst (v := (0 : Int32)) hx hb dX9_nextByWeight_48 (by decide) ?_
      refine pm_callS (As := [.int v3, .int (0 : Int32)]) (rest := []) 2 E hI (k_J9_max_7cf53 hw) kc_J9_max_7cf53 kl_X9_210 kt_J9_max_7cf53 ki_J9 (by decide +kernel) ⟨by decide, by decide⟩ rfl hl.1 rfl (by first | exact Nat.le_of_ble_eq_true rfl | (simp only [List.map, pm_rf_cat]; exact Nat.le_of_ble_eq_true rfl)) dX9_nextByWeight_49 ⟨by decide, by decide⟩ (fun r9 M9 H locs hp hX1 hI => ?_)
      clear hw
      obtain ⟨r_2, rfl, rfl, hw⟩ := hp
      refine pm_nrm (cells' := 0) (slots' := 0) (g2 := F0 m 52 ls [.int r_2]) rfl rfl rfl ?_
      exact pm_iret E hret hI pm_X.rf ⟨_, rfl, rfl, hw⟩ (by decide) (by decide) dX9_nextByWeight_52
    · replace hw := hw.2 h_1
      refine lv_iload_n hx hb dX9_nextByWeight_14 rfl (lv_at hl 1 rfl) ?_
      refine lv_iload hx hb dX9_nextByWeight_15 (lv_at hl 4 rfl) ?_
      refine lv_ishr hx hb dX9_nextByWeight_17 ?_
      refine lv_iconst (v := (1 : Int32)) hx hb dX9_nextByWeight_18 (by decide) ?_
      refine lv_iand hx hb dX9_nextByWeight_19 ?_
      refine lv_if_ne (tgt := 41) hx hb dX9_nextByWeight_20 (by decide) (fun h_3 => ?_) (fun h_3 => ?_)
      · replace hw := hw.1 h_3
        exact c_X9_nextByWeight_41 E hret ih hI t_v0 (lv_sub hl [0, 1, 2, 3, 4] rfl) hw
      · replace hw := hw.2 h_3
        refine lv_iload_n hx hb dX9_nextByWeight_23 rfl (lv_at hl 3 rfl) ?_
        refine lv_if_lt (tgt := 38) hx hb dX9_nextByWeight_24 (by decide) (fun h_4 => ?_) (fun h_4 => ?_)
        · replace hw := hw.1 h_4
          exact c_X9_nextByWeight_38 E hret ih hI t_v0 (lv_sub hl [0, 1, 2, 4] rfl) hw
        · replace hw := hw.2 h_4
          refine lv_aload_n hx hb dX9_nextByWeight_27 rfl (lv_at hl 0 rfl) ?_
          refine lv_iload hx hb dX9_nextByWeight_28 (lv_at hl 4 rfl) ?_
          refine lv_iload_n hx hb dX9_nextByWeight_30 rfl (lv_at hl 3 rfl) ?_
          refine lv_iload_n hx hb dX9_nextByWeight_31 rfl (lv_at hl 2 rfl) ?_
          refine pm_callV (As := [.int v4, .int v3, .int v2]) (rest := []) 3 E hI (k_X9_goesAhead t_v0 hw) t_v0 (by decide) rfl kc_X9_goesAhead kl_X9_271 km_X9_goesAhead ks_X9_goesAhead ki_X9 (by decide +kernel) ⟨by decide, by decide⟩ rfl hl.1 rfl (by first | exact Nat.le_of_ble_eq_true rfl | (simp only [List.map, pm_rf_cat]; exact Nat.le_of_ble_eq_true rfl)) dX9_nextByWeight_32 ⟨by decide, by decide⟩ (fun r9 M9 H locs hp hX1 hI => ?_)
          clear hw
          obtain ⟨r_5, rfl, rfl, hw⟩ := hp
          refine pm_nrm (cells' := 0) (slots' := 0) (g2 := F0 m 35 ls [.int r_5]) rfl rfl rfl ?_
          refine lv_if_eq (tgt := 41) hx hb dX9_nextByWeight_35 (by decide) (fun h_6 => ?_) (fun h_6 => ?_)
          · replace hw := hw.1 h_6
            exact c_X9_nextByWeight_41 E hret ih hI t_v0 (lv_sub hl [0, 1, 2, 3, 4] rfl) hw
          · replace hw := hw.2 h_6
            exact c_X9_nextByWeight_38 E hret ih hI t_v0 (lv_sub hl [0, 1, 2, 4] rfl) hw
set_option maxHeartbeats 4000000 in
set_option maxRecDepth 100000 in
theorem k_X9_nextByWeight {l : Launch} {G : pm_G} {H0 : Heap} {th : Nat} {a1 : Int32} {a2 : Int32} {M : pm_M} {Post : Int32 → Prop} (t_th : pm_is M th 8) (hw : w_X9_nextByWeight th a1 a2 M Post) : pm_C l G H0 yX9_nextByWeight cX9_nextByWeight 5 (some .int) rm_X9_nextByWeight [.ref (H0.size + th), .int a1, .int a2] M (pm_Pi (fun r9 M9 => M = M9 ∧ Post r9)) := by
  refine pm_start (by decide +kernel) (Nat.le_of_ble_eq_true rfl) ?_
  intro p e s m args below meth c H ls E hret hnm hI hl
  have hl : lv_has ls 5 [(0, .ref (H0.size + th)), (1, .int a1), (2, .int a2)] := hl
  have hx := E.1
  have hb := E.2.1
  have hown := E.2.2.2.1
  have hts := E.2.2.2.2.1
  unfold w_X9_nextByWeight at hw
  refine lv_iconst (v := (-1 : Int32)) hx hb dX9_nextByWeight_0 (by decide) ?_
  refine lv_istore_n (lv' := [(3, .int (-1 : Int32)), (0, .ref (H0.size + th)), (1, .int a1), (2, .int a2)]) hx hb dX9_nextByWeight_1 rfl hl (by decide) rfl (fun ls hl_1 => ?_)
  refine lv_iconst (v := (0 : Int32)) hx hb dX9_nextByWeight_2 (by decide) ?_
  refine lv_istore (lv' := [(4, .int (0 : Int32)), (3, .int (-1 : Int32)), (0, .ref (H0.size + th)), (1, .int a1), (2, .int a2)]) hx hb dX9_nextByWeight_3 hl_1 (by decide) rfl (fun ls hl_2 => ?_)
  obtain ⟨n_3, hw⟩ := hw
  exact c_X9_nextByWeight_5 E hret n_3 _ _ _ _ _ hI t_th (lv_sub hl_2 [2, 3, 4, 1, 0] rfl) hw
set_option maxHeartbeats 4000000 in
set_option maxRecDepth 100000 in
theorem c_X9_full_67 {p : Program} {l : Launch} {e : Env} {s : State} {m : MethodId} {args : Array Value} {below : List Frame} {meth : Method} {c : Code} {G : pm_G} {H0 : Heap} {Post : Int32 → Prop} {v0 : Nat} {v2 : Int32} {v3 : Nat} {v4 : Int32} {v5 : Int32} {v6 : Int32} {M : pm_M} {k_21 : Int32 → Int32 → Int32 → Prop} (E : pm_E G p s m args meth c cX9_full 8 RX9) (hret : meth.sig.returnType = (some .int)) (hk_21 : ∀ (v4 : Int32) (v5 : Int32) (v6 : Int32) (H : Heap) (locs : List Loc) (ls : Array Slot), pm_I G H0 M H locs → (pm_is M v0 8) → (pm_is M v3 4) → lv_has ls 8 [(0, .ref (H0.size + v0)), (2, .int v2), (3, .ref (H0.size + v3)), (4, .int v4), (5, .int v5), (6, .int v6)] → k_21 v4 v5 v6 → W p l e rm_X9_full s m args below meth c H locs 0 0 (pm_Z G H0 M (pm_Pi (fun r9 M9 => M = M9 ∧ Post r9)) below args s rm_X9_full.cells rm_X9_full.slots) (F0 m 21 ls [])) {H : Heap} {locs : List Loc} {ls : Array Slot} (hI : pm_I G H0 M H locs) (t_v0 : pm_is M v0 8) (t_v3 : pm_is M v3 4) (hl : lv_has ls 8 [(0, .ref (H0.size + v0)), (2, .int v2), (3, .ref (H0.size + v3)), (4, .int v4), (5, .int v5), (6, .int v6)]) (hw : w_X9_full_67 Post k_21 v0 v2 v3 v4 v5 v6 M) : W p l e rm_X9_full s m args below meth c H locs 0 0 (pm_Z G H0 M (pm_Pi (fun r9 M9 => M = M9 ∧ Post r9)) below args s rm_X9_full.cells rm_X9_full.slots) (F0 m 67 ls []) := by
  have hx := E.1
  have hb := E.2.1
  have hown := E.2.2.2.1
  have hts := E.2.2.2.2.1
  unfold w_X9_full_67 at hw
  obtain ⟨x_1, e_x_1⟩ : ∃ z : Int32, z = v6 + (1 : Int32) := ⟨_, rfl⟩
  refine lv_iinc (v := x_1) (lv' := [(6, .int x_1), (0, .ref (H0.size + v0)), (2, .int v2), (3, .ref (H0.size + v3)), (4, .int v4), (5, .int v5)]) hx hb dX9_full_67 hl (k := 5) rfl (by rw [e_x_1]; rfl) (by decide) rfl (fun ls hl_2 => ?_)
  replace hw := hw x_1 e_x_1
  refine lv_goto (tgt := 21) hx hb dX9_full_70 (by decide) ?_
  exact hk_21 _ _ _ _ _ _ hI t_v0 t_v3 (lv_sub hl_2 [1, 2, 3, 4, 5, 0] rfl) hw
set_option maxHeartbeats 4000000 in
set_option maxRecDepth 100000 in
theorem c_X9_full_21 {p : Program} {l : Launch} {e : Env} {s : State} {m : MethodId} {args : Array Value} {below : List Frame} {meth : Method} {c : Code} {G : pm_G} {H0 : Heap} {Post : Int32 → Prop} {v0 : Nat} {v2 : Int32} {v3 : Nat} {M : pm_M} (E : pm_E G p s m args meth c cX9_full 8 RX9) (hret : meth.sig.returnType = (some .int)) : ∀ (n : Nat) (v4 : Int32) (v5 : Int32) (v6 : Int32) (H : Heap) (locs : List Loc) (ls : Array Slot), pm_I G H0 M H locs → (pm_is M v0 8) → (pm_is M v3 4) → lv_has ls 8 [(0, .ref (H0.size + v0)), (2, .int v2), (3, .ref (H0.size + v3)), (4, .int v4), (5, .int v5), (6, .int v6)] → w_X9_full_21 Post v0 v2 v3 M n v4 v5 v6 → W p l e rm_X9_full s m args below meth c H locs 0 0 (pm_Z G H0 M (pm_Pi (fun r9 M9 => M = M9 ∧ Post r9)) below args s rm_X9_full.cells rm_X9_full.slots) (F0 m 21 ls []) := by
  have hx := E.1
  have hb := E.2.1
  have hown := E.2.2.2.1
  have hts := E.2.2.2.2.1
  intro n
  induction n with
  | zero =>
    intro v4 v5 v6 H locs ls hI t_v0 t_v3 hl hw
    unfold w_X9_full_21 at hw
    exact hw.elim
  | succ n ih =>
    intro v4 v5 v6 H locs ls hI t_v0 t_v3 hl hw
    unfold w_X9_full_21 at hw
    refine lv_iload hx hb dX9_full_21 (lv_at hl 5 rfl) ?_
    refine lv_aload_n hx hb dX9_full_23 rfl (lv_at hl 0 rfl) ?_
    refine gf_X9_187 E hI t_v0 dX9_full_24 ?_
    refine lv_icmp_ge (tgt := 73) hx hb dX9_full_27 (by decide) (fun h_1 => ?_) (fun h_1 => ?_)
    · replace hw := hw.1 h_1
      refine lv_iload hx hb dX9_full_73 (lv_at hl 3 rfl) ?_
      exact pm_iret E hret hI pm_X.rf ⟨_, rfl, rfl, hw⟩ (by decide) (by decide) dX9_full_75
    · replace hw := hw.2 h_1
      refine lv_iconst (v := (1 : Int32)) hx hb dX9_full_30 (by decide) ?_
      refine lv_aload_n hx hb dX9_full_31 rfl (lv_at hl 0 rfl) ?_
      refine lv_iload hx hb dX9_full_32 (lv_at hl 4 rfl) ?_
      refine lv_iload_n hx hb dX9_full_34 rfl (lv_at hl 1 rfl) ?_
      refine pm_callV (As := [.int v5, .int v2]) (rest := [.int (1 : Int32)]) 2 E hI (k_X9_nextByWeight t_v0 hw) t_v0 (by decide) rfl kc_X9_nextByWeight kl_X9_194 km_X9_nextByWeight ks_X9_nextByWeight ki_X9 (by decide +kernel) ⟨by decide, by decide⟩ rfl hl.1 rfl (by first | exact Nat.le_of_ble_eq_true rfl | (simp only [List.map, pm_rf_cat]; exact Nat.le_of_ble_eq_true rfl)) dX9_full_35 ⟨by decide, by decide⟩ (fun r9 M9 H locs hp hX1 hI => ?_)
      clear hw
      obtain ⟨r_2, rfl, rfl, hw⟩ := hp
      refine pm_nrm (cells' := 0) (slots' := 0) (g2 := F0 m 38 ls [.int r_2, .int (1 : Int32)]) rfl rfl rfl ?_
      refine lv_ishl hx hb dX9_full_38 ?_
      refine lv_topi (fun x_3 e_x_3 => ?_)
      replace hw := hw x_3 e_x_3
      refine lv_istore (lv' := [(7, .int x_3), (0, .ref (H0.size + v0)), (2, .int v2), (3, .ref (H0.size + v3)), (4, .int v4), (5, .int v5), (6, .int v6)]) hx hb dX9_full_39 hl (by decide) rfl (fun ls hl_4 => ?_)
      refine lv_iload hx hb dX9_full_41 (lv_at hl_4 5 rfl) ?_
      refine lv_iload hx hb dX9_full_43 (lv_at hl_4 0 rfl) ?_
      refine lv_ior hx hb dX9_full_45 ?_
      refine lv_topi (fun x_5 e_x_5 => ?_)
      replace hw := hw x_5 e_x_5
      refine lv_istore (lv' := [(5, .int x_5), (7, .int x_3), (0, .ref (H0.size + v0)), (2, .int v2), (3, .ref (H0.size + v3)), (4, .int v4), (6, .int v6)]) hx hb dX9_full_46 hl_4 (by decide) rfl (fun ls hl_6 => ?_)
      refine lv_aload_n hx hb dX9_full_48 rfl (lv_at hl_6 4 rfl) ?_
      refine lv_iload hx hb dX9_full_49 (lv_at hl_6 5 rfl) ?_
      refine lv_iload hx hb dX9_full_51 (lv_at hl_6 1 rfl) ?_
      refine lv_ior hx hb dX9_full_53 ?_
      refine pm_callV (As := [.int (v4 ||| x_3)]) (rest := []) 1 E hI (k_X5_permits t_v3 hw) t_v3 (by decide) rfl kc_X5_permits kl_X9_184 km_X5_permits ks_X5_permits ki_X5 (by decide +kernel) ⟨by decide, by decide⟩ rfl hl_6.1 rfl (by first | exact Nat.le_of_ble_eq_true rfl | (simp only [List.map, pm_rf_cat]; exact Nat.le_of_ble_eq_true rfl)) dX9_full_54 ⟨by decide, by decide⟩ (fun r9 M9 H locs hp hX1 hI => ?_)
      clear hw
      obtain ⟨r_7, rfl, rfl, hw⟩ := hp
      refine pm_nrm (cells' := 0) (slots' := 0) (g2 := F0 m 57 ls [.int r_7]) rfl rfl rfl ?_
      refine lv_if_eq (tgt := 67) hx hb dX9_full_57 (by decide) (fun h_8 => ?_) (fun h_8 => ?_)
      · replace hw := hw.1 h_8
        exact c_X9_full_67 E hret ih hI t_v0 t_v3 (lv_sub hl_6 [2, 3, 4, 5, 0, 6] rfl) hw
      · replace hw := hw.2 h_8
        refine lv_iload hx hb dX9_full_60 (lv_at hl_6 5 rfl) ?_
        refine lv_iload hx hb dX9_full_62 (lv_at hl_6 1 rfl) ?_
        refine lv_ior hx hb dX9_full_64 ?_
        refine lv_topi (fun x_9 e_x_9 => ?_)
        replace hw := hw x_9 e_x_9
        refine lv_istore (lv' := [(4, .int x_9), (5, .int x_5), (7, .int x_3), (0, .ref (H0.size + v0)), (2, .int v2), (3, .ref (H0.size + v3)), (6, .int v6)]) hx hb dX9_full_65 hl_6 (by decide) rfl (fun ls hl_10 => ?_)
        exact c_X9_full_67 E hret ih hI t_v0 t_v3 (lv_sub hl_10 [3, 4, 5, 0, 1, 6] rfl) hw
set_option maxHeartbeats 4000000 in
set_option maxRecDepth 100000 in
theorem k_X9_full {l : Launch} {G : pm_G} {H0 : Heap} {th : Nat} {a1 : Int32} {a2 : Int32} {M : pm_M} {Post : Int32 → Prop} (t_th : pm_is M th 8) (hw : w_X9_full th a1 a2 M Post) : pm_C l G H0 yX9_full cX9_full 8 (some .int) rm_X9_full [.ref (H0.size + th), .int a1, .int a2] M (pm_Pi (fun r9 M9 => M = M9 ∧ Post r9)) := by
  refine pm_start (by decide +kernel) (Nat.le_of_ble_eq_true rfl) ?_
  intro p e s m args below meth c H ls E hret hnm hI hl
  have hl : lv_has ls 8 [(0, .ref (H0.size + th)), (1, .int a1), (2, .int a2)] := hl
  have hx := E.1
  have hb := E.2.1
  have hown := E.2.2.2.1
  have hts := E.2.2.2.2.1
  unfold w_X9_full at hw
  refine lv_aload_n hx hb dX9_full_0 rfl (lv_at hl 0 rfl) ?_
  refine lv_iload_n hx hb dX9_full_1 rfl (lv_at hl 1 rfl) ?_
  refine pm_callV (As := [.int a1]) (rest := []) 1 E hI (k_X9_ruleAt t_th hw) t_th (by decide) rfl kc_X9_ruleAt kl_X9_158 km_X9_ruleAt ks_X9_ruleAt ki_X9 (by decide +kernel) ⟨by decide, by decide⟩ rfl hl.1 rfl (by first | exact Nat.le_of_ble_eq_true rfl | (simp only [List.map, pm_rf_cat]; exact Nat.le_of_ble_eq_true rfl)) dX9_full_2 ⟨by decide, by decide⟩ (fun r9 M9 H locs hp hX1 hI => ?_)
  clear hw
  obtain ⟨r_1, rfl, o_r_1, rfl, hw⟩ := hp
  refine pm_nrm (cells' := 0) (slots' := 0) (g2 := F0 m 5 ls [pm_rf H0.size r_1]) rfl rfl rfl ?_
  refine pm_astore_n (lv' := [(3, pm_rf H0.size r_1), (0, .ref (H0.size + th)), (1, .int a1), (2, .int a2)]) hx hb dX9_full_5 rfl hl (by decide) (by first | rfl | simp [List.filter, pm_rf_cat]) (fun ls hl_2 => ?_)
  refine pm_aload_n hx hb dX9_full_6 rfl (lv_at hl_2 0 rfl) ?_
  refine pm_ifnonnull (tgt := 12) hx hb dX9_full_7 (by decide) (fun q_3 hq => ?_) (fun hq => ?_)
  · replace hw := hw.2 q_3 hq
    subst hq
    have t_q_3 := o_r_1 q_3 rfl
    replace hl_2 : lv_has ls 8 [(3, .ref (H0.size + q_3)), (0, .ref (H0.size + th)), (1, .int a1), (2, .int a2)] := hl_2
    refine lv_iconst (v := (0 : Int32)) hx hb dX9_full_12 (by decide) ?_
    refine lv_istore (lv' := [(4, .int (0 : Int32)), (3, .ref (H0.size + q_3)), (0, .ref (H0.size + th)), (1, .int a1), (2, .int a2)]) hx hb dX9_full_13 hl_2 (by decide) rfl (fun ls hl_4 => ?_)
    refine lv_iconst (v := (0 : Int32)) hx hb dX9_full_15 (by decide) ?_
    refine lv_istore (lv' := [(5, .int (0 : Int32)), (4, .int (0 : Int32)), (3, .ref (H0.size + q_3)), (0, .ref (H0.size + th)), (1, .int a1), (2, .int a2)]) hx hb dX9_full_16 hl_4 (by decide) rfl (fun ls hl_5 => ?_)
    refine lv_iconst (v := (0 : Int32)) hx hb dX9_full_18 (by decide) ?_
    refine lv_istore (lv' := [(6, .int (0 : Int32)), (5, .int (0 : Int32)), (4, .int (0 : Int32)), (3, .ref (H0.size + q_3)), (0, .ref (H0.size + th)), (1, .int a1), (2, .int a2)]) hx hb dX9_full_19 hl_5 (by decide) rfl (fun ls hl_6 => ?_)
    obtain ⟨n_7, hw⟩ := hw
    exact c_X9_full_21 E hret n_7 _ _ _ _ _ _ hI t_th t_q_3 (lv_sub hl_6 [4, 6, 3, 2, 1, 0] rfl) hw
  · replace hw := hw.1 hq
    subst hq
    replace hl_2 : lv_has ls 8 [(3, .null), (0, .ref (H0.size + th)), (1, .int a1), (2, .int a2)] := hl_2
    refine lv_iconst (v := (-1 : Int32)) hx hb dX9_full_10 (by decide) ?_
    exact pm_iret E hret hI pm_X.rf ⟨_, rfl, rfl, hw⟩ (by decide) (by decide) dX9_full_11
set_option maxHeartbeats 4000000 in
set_option maxRecDepth 100000 in
theorem c_X9_mostCommon_59 {p : Program} {l : Launch} {e : Env} {s : State} {m : MethodId} {args : Array Value} {below : List Frame} {meth : Method} {c : Code} {G : pm_G} {H0 : Heap} {Post : Int32 → Prop} {v0 : Nat} {v1 : Nat} {v2 : Nat} {v3 : Nat} {v4 : Int32} {v5 : Int32} {M : pm_M} {k_6 : Int32 → Int32 → Prop} (E : pm_E G p s m args meth c cX9_mostCommon 6 RX9) (hret : meth.sig.returnType = (some .int)) (hk_6 : ∀ (v4 : Int32) (v5 : Int32) (H : Heap) (locs : List Loc) (ls : Array Slot), pm_I G H0 M H locs → (pm_is M v0 8) → (pm_is M v1 4) → (pm_is M v2 4) → (pm_is M v3 4) → lv_has ls 6 [(0, .ref (H0.size + v0)), (1, .ref (H0.size + v1)), (2, .ref (H0.size + v2)), (3, .ref (H0.size + v3)), (4, .int v4), (5, .int v5)] → k_6 v4 v5 → W p l e rm_X9_mostCommon s m args below meth c H locs 0 0 (pm_Z G H0 M (pm_Pi (fun r9 M9 => M = M9 ∧ Post r9)) below args s rm_X9_mostCommon.cells rm_X9_mostCommon.slots) (F0 m 6 ls [])) {H : Heap} {locs : List Loc} {ls : Array Slot} (hI : pm_I G H0 M H locs) (t_v0 : pm_is M v0 8) (t_v1 : pm_is M v1 4) (t_v2 : pm_is M v2 4) (t_v3 : pm_is M v3 4) (hl : lv_has ls 6 [(0, .ref (H0.size + v0)), (1, .ref (H0.size + v1)), (2, .ref (H0.size + v2)), (3, .ref (H0.size + v3)), (4, .int v4), (5, .int v5)]) (hw : w_X9_mostCommon_59 Post k_6 v0 v1 v2 v3 v4 v5 M) : W p l e rm_X9_mostCommon s m args below meth c H locs 0 0 (pm_Z G H0 M (pm_Pi (fun r9 M9 => M = M9 ∧ Post r9)) below args s rm_X9_mostCommon.cells rm_X9_mostCommon.slots) (F0 m 59 ls []) := by
  have hx := E.1
  have hb := E.2.1
  have hown := E.2.2.2.1
  have hts := E.2.2.2.2.1
  unfold w_X9_mostCommon_59 at hw
  obtain ⟨x_1, e_x_1⟩ : ∃ z : Int32, z = v5 + (1 : Int32) := ⟨_, rfl⟩
  refine lv_iinc (v := x_1) (lv' := [(5, .int x_1), (0, .ref (H0.size + v0)), (1, .ref (H0.size + v1)), (2, .ref (H0.size + v2)), (3, .ref (H0.size + v3)), (4, .int v4)]) hx hb dX9_mostCommon_59 hl (k := 5) rfl (by rw [e_x_1]; rfl) (by decide) rfl (fun ls hl_2 => ?_)
  replace hw := hw x_1 e_x_1
  refine lv_goto (tgt := 6) hx hb dX9_mostCommon_62 (by decide) ?_
  exact hk_6 _ _ _ _ _ hI t_v0 t_v1 t_v2 t_v3 (lv_sub hl_2 [1, 2, 3, 4, 5, 0] rfl) hw
set_option maxHeartbeats 4000000 in
set_option maxRecDepth 100000 in
theorem c_X9_mostCommon_6 {p : Program} {l : Launch} {e : Env} {s : State} {m : MethodId} {args : Array Value} {below : List Frame} {meth : Method} {c : Code} {G : pm_G} {H0 : Heap} {Post : Int32 → Prop} {v0 : Nat} {v1 : Nat} {v2 : Nat} {v3 : Nat} {M : pm_M} (E : pm_E G p s m args meth c cX9_mostCommon 6 RX9) (hret : meth.sig.returnType = (some .int)) : ∀ (n : Nat) (v4 : Int32) (v5 : Int32) (H : Heap) (locs : List Loc) (ls : Array Slot), pm_I G H0 M H locs → (pm_is M v0 8) → (pm_is M v1 4) → (pm_is M v2 4) → (pm_is M v3 4) → lv_has ls 6 [(0, .ref (H0.size + v0)), (1, .ref (H0.size + v1)), (2, .ref (H0.size + v2)), (3, .ref (H0.size + v3)), (4, .int v4), (5, .int v5)] → w_X9_mostCommon_6 Post v0 v1 v2 v3 M n v4 v5 → W p l e rm_X9_mostCommon s m args below meth c H locs 0 0 (pm_Z G H0 M (pm_Pi (fun r9 M9 => M = M9 ∧ Post r9)) below args s rm_X9_mostCommon.cells rm_X9_mostCommon.slots) (F0 m 6 ls []) := by
  have hx := E.1
  have hb := E.2.1
  have hown := E.2.2.2.1
  have hts := E.2.2.2.2.1
  intro n
  induction n with
  | zero =>
    intro v4 v5 H locs ls hI t_v0 t_v1 t_v2 t_v3 hl hw
    unfold w_X9_mostCommon_6 at hw
    exact hw.elim
  | succ n ih =>
    intro v4 v5 H locs ls hI t_v0 t_v1 t_v2 t_v3 hl hw
    unfold w_X9_mostCommon_6 at hw
    refine lv_iload hx hb dX9_mostCommon_6 (lv_at hl 5 rfl) ?_
    refine lv_aload_n hx hb dX9_mostCommon_8 rfl (lv_at hl 0 rfl) ?_
    refine gf_X9_135 E hI t_v0 dX9_mostCommon_9 ?_
    refine lv_icmp_gt (tgt := 65) hx hb dX9_mostCommon_12 (by decide) (fun h_1 => ?_) (fun h_1 => ?_)
    · replace hw := hw.1 h_1
      refine lv_iload hx hb dX9_mostCommon_65 (lv_at hl 4 rfl) ?_
      exact pm_iret E hret hI pm_X.rf ⟨_, rfl, rfl, hw⟩ (by decide) (by decide) dX9_mostCommon_67
    · replace hw := hw.2 h_1
      refine lv_iload hx hb dX9_mostCommon_15 (lv_at hl 5 rfl) ?_
      refine pm_callS (As := [.int v5]) (rest := []) 1 E hI (k_J6_bitCount_0f7a4 hw) kc_J6_bitCount_0f7a4 kl_X9_202 kt_J6_bitCount_0f7a4 ki_J6 (by decide +kernel) ⟨by decide, by decide⟩ rfl hl.1 rfl (by first | exact Nat.le_of_ble_eq_true rfl | (simp only [List.map, pm_rf_cat]; exact Nat.le_of_ble_eq_true rfl)) dX9_mostCommon_17 ⟨by decide, by decide⟩ (fun r9 M9 H locs hp hX1 hI => ?_)
      clear hw
      obtain ⟨r_2, rfl, rfl, hw⟩ := hp
      refine pm_nrm (cells' := 0) (slots' := 0) (g2 := F0 m 20 ls [.int r_2]) rfl rfl rfl ?_
      refine lv_iload hx hb dX9_mostCommon_20 (lv_at hl 4 rfl) ?_
      refine pm_callS (As := [.int v4]) (rest := [.int r_2]) 1 E hI (k_J6_bitCount_0f7a4 hw) kc_J6_bitCount_0f7a4 kl_X9_202 kt_J6_bitCount_0f7a4 ki_J6 (by decide +kernel) ⟨by decide, by decide⟩ rfl hl.1 rfl (by first | exact Nat.le_of_ble_eq_true rfl | (simp only [List.map, pm_rf_cat]; exact Nat.le_of_ble_eq_true rfl)) dX9_mostCommon_22 ⟨by decide, by decide⟩ (fun r9 M9 H locs hp hX1 hI => ?_)
      clear hw
      obtain ⟨r_3, rfl, rfl, hw⟩ := hp
      refine pm_nrm (cells' := 0) (slots' := 0) (g2 := F0 m 25 ls [.int r_3, .int r_2]) rfl rfl rfl ?_
      refine lv_icmp_le (tgt := 59) hx hb dX9_mostCommon_25 (by decide) (fun h_4 => ?_) (fun h_4 => ?_)
      · replace hw := hw.1 h_4
        exact c_X9_mostCommon_59 E hret ih hI t_v0 t_v1 t_v2 t_v3 (lv_sub hl [0, 1, 2, 3, 4, 5] rfl) hw
      · replace hw := hw.2 h_4
        refine lv_aload_n hx hb dX9_mostCommon_28 rfl (lv_at hl 1 rfl) ?_
        refine lv_iload hx hb dX9_mostCommon_29 (lv_at hl 5 rfl) ?_
        refine pm_callV (As := [.int v5]) (rest := []) 1 E hI (k_X5_permits t_v1 hw) t_v1 (by decide) rfl kc_X5_permits kl_X9_184 km_X5_permits ks_X5_permits ki_X5 (by decide +kernel) ⟨by decide, by decide⟩ rfl hl.1 rfl (by first | exact Nat.le_of_ble_eq_true rfl | (simp only [List.map, pm_rf_cat]; exact Nat.le_of_ble_eq_true rfl)) dX9_mostCommon_31 ⟨by decide, by decide⟩ (fun r9 M9 H locs hp hX1 hI => ?_)
        clear hw
        obtain ⟨r_5, rfl, rfl, hw⟩ := hp
        refine pm_nrm (cells' := 0) (slots' := 0) (g2 := F0 m 34 ls [.int r_5]) rfl rfl rfl ?_
        refine lv_if_eq (tgt := 59) hx hb dX9_mostCommon_34 (by decide) (fun h_6 => ?_) (fun h_6 => ?_)
        · replace hw := hw.1 h_6
          exact c_X9_mostCommon_59 E hret ih hI t_v0 t_v1 t_v2 t_v3 (lv_sub hl [0, 1, 2, 3, 4, 5] rfl) hw
        · replace hw := hw.2 h_6
          refine lv_aload_n hx hb dX9_mostCommon_37 rfl (lv_at hl 2 rfl) ?_
          refine lv_iload hx hb dX9_mostCommon_38 (lv_at hl 5 rfl) ?_
          refine pm_callV (As := [.int v5]) (rest := []) 1 E hI (k_X5_permits t_v2 hw) t_v2 (by decide) rfl kc_X5_permits kl_X9_184 km_X5_permits ks_X5_permits ki_X5 (by decide +kernel) ⟨by decide, by decide⟩ rfl hl.1 rfl (by first | exact Nat.le_of_ble_eq_true rfl | (simp only [List.map, pm_rf_cat]; exact Nat.le_of_ble_eq_true rfl)) dX9_mostCommon_40 ⟨by decide, by decide⟩ (fun r9 M9 H locs hp hX1 hI => ?_)
          clear hw
          obtain ⟨r_7, rfl, rfl, hw⟩ := hp
          refine pm_nrm (cells' := 0) (slots' := 0) (g2 := F0 m 43 ls [.int r_7]) rfl rfl rfl ?_
          refine lv_if_eq (tgt := 59) hx hb dX9_mostCommon_43 (by decide) (fun h_8 => ?_) (fun h_8 => ?_)
          · replace hw := hw.1 h_8
            exact c_X9_mostCommon_59 E hret ih hI t_v0 t_v1 t_v2 t_v3 (lv_sub hl [0, 1, 2, 3, 4, 5] rfl) hw
          · replace hw := hw.2 h_8
            refine lv_aload_n hx hb dX9_mostCommon_46 rfl (lv_at hl 3 rfl) ?_
            refine lv_iload hx hb dX9_mostCommon_47 (lv_at hl 5 rfl) ?_
            refine pm_callV (As := [.int v5]) (rest := []) 1 E hI (k_X5_permits t_v3 hw) t_v3 (by decide) rfl kc_X5_permits kl_X9_184 km_X5_permits ks_X5_permits ki_X5 (by decide +kernel) ⟨by decide, by decide⟩ rfl hl.1 rfl (by first | exact Nat.le_of_ble_eq_true rfl | (simp only [List.map, pm_rf_cat]; exact Nat.le_of_ble_eq_true rfl)) dX9_mostCommon_49 ⟨by decide, by decide⟩ (fun r9 M9 H locs hp hX1 hI => ?_)
            clear hw
            obtain ⟨r_9, rfl, rfl, hw⟩ := hp
            refine pm_nrm (cells' := 0) (slots' := 0) (g2 := F0 m 52 ls [.int r_9]) rfl rfl rfl ?_
            refine lv_if_eq (tgt := 59) hx hb dX9_mostCommon_52 (by decide) (fun h_10 => ?_) (fun h_10 => ?_)
            · replace hw := hw.1 h_10
              exact c_X9_mostCommon_59 E hret ih hI t_v0 t_v1 t_v2 t_v3 (lv_sub hl [0, 1, 2, 3, 4, 5] rfl) hw
            · replace hw := hw.2 h_10
              refine lv_iload hx hb dX9_mostCommon_55 (lv_at hl 5 rfl) ?_
              refine lv_istore (lv' := [(4, .int v5), (0, .ref (H0.size + v0)), (1, .ref (H0.size + v1)), (2, .ref (H0.size + v2)), (3, .ref (H0.size + v3)), (5, .int v5)]) hx hb dX9_mostCommon_57 hl (by decide) rfl (fun ls hl_11 => ?_)
              exact c_X9_mostCommon_59 E hret ih hI t_v0 t_v1 t_v2 t_v3 (lv_sub hl_11 [1, 2, 3, 4, 0, 5] rfl) hw
set_option maxHeartbeats 4000000 in
set_option maxRecDepth 100000 in
theorem k_X9_mostCommon {l : Launch} {G : pm_G} {H0 : Heap} {th : Nat} {a1 : Nat} {a2 : Nat} {a3 : Nat} {M : pm_M} {Post : Int32 → Prop} (t_th : pm_is M th 8) (t_a1 : pm_is M a1 4) (t_a2 : pm_is M a2 4) (t_a3 : pm_is M a3 4) (hw : w_X9_mostCommon th a1 a2 a3 M Post) : pm_C l G H0 yX9_mostCommon cX9_mostCommon 6 (some .int) rm_X9_mostCommon [.ref (H0.size + th), .ref (H0.size + a1), .ref (H0.size + a2), .ref (H0.size + a3)] M (pm_Pi (fun r9 M9 => M = M9 ∧ Post r9)) := by
  refine pm_start (by decide +kernel) (Nat.le_of_ble_eq_true rfl) ?_
  intro p e s m args below meth c H ls E hret hnm hI hl
  have hl : lv_has ls 6 [(0, .ref (H0.size + th)), (1, .ref (H0.size + a1)), (2, .ref (H0.size + a2)), (3, .ref (H0.size + a3))] := hl
  have hx := E.1
  have hb := E.2.1
  have hown := E.2.2.2.1
  have hts := E.2.2.2.2.1
  unfold w_X9_mostCommon at hw
  refine lv_iconst (v := (0 : Int32)) hx hb dX9_mostCommon_0 (by decide) ?_
  refine lv_istore (lv' := [(4, .int (0 : Int32)), (0, .ref (H0.size + th)), (1, .ref (H0.size + a1)), (2, .ref (H0.size + a2)), (3, .ref (H0.size + a3))]) hx hb dX9_mostCommon_1 hl (by decide) rfl (fun ls hl_1 => ?_)
  refine lv_iconst (v := (1 : Int32)) hx hb dX9_mostCommon_3 (by decide) ?_
  refine lv_istore (lv' := [(5, .int (1 : Int32)), (4, .int (0 : Int32)), (0, .ref (H0.size + th)), (1, .ref (H0.size + a1)), (2, .ref (H0.size + a2)), (3, .ref (H0.size + a3))]) hx hb dX9_mostCommon_4 hl_1 (by decide) rfl (fun ls hl_2 => ?_)
  obtain ⟨n_3, hw⟩ := hw
  exact c_X9_mostCommon_6 E hret n_3 _ _ _ _ _ hI t_th t_a1 t_a2 t_a3 (lv_sub hl_2 [2, 3, 4, 5, 1, 0] rfl) hw
set_option maxHeartbeats 4000000 in
set_option maxRecDepth 100000 in
theorem c_X9_both_35 {p : Program} {l : Launch} {e : Env} {s : State} {m : MethodId} {args : Array Value} {below : List Frame} {meth : Method} {c : Code} {G : pm_G} {H0 : Heap} {Post : Int32 → Prop} {s0 : Int32} {M : pm_M} (E : pm_E G p s m args meth c cX9_both 5 RX9) (hret : meth.sig.returnType = (some .int)) {H : Heap} {locs : List Loc} {ls : Array Slot} (hI : pm_I G H0 M H locs) (hl : lv_has ls 5 []) (hw : w_X9_both_35 Post s0 M) : W p l e rm_X9_both s m args below meth c H locs 0 0 (pm_Z G H0 M (pm_Pi (fun r9 M9 => M = M9 ∧ Post r9)) below args s rm_X9_both.cells rm_X9_both.slots) (F0 m 35 ls [.int s0]) := by
  have hx := E.1
  have hb := E.2.1
  have hown := E.2.2.2.1
  have hts := E.2.2.2.2.1
  unfold w_X9_both_35 at hw
  exact pm_iret E hret hI pm_X.rf ⟨_, rfl, rfl, hw⟩ (by decide) (by decide) dX9_both_35
set_option maxHeartbeats 4000000 in
set_option maxRecDepth 100000 in
theorem c_X9_both_22 {p : Program} {l : Launch} {e : Env} {s : State} {m : MethodId} {args : Array Value} {below : List Frame} {meth : Method} {c : Code} {G : pm_G} {H0 : Heap} {Post : Int32 → Prop} {M : pm_M} (E : pm_E G p s m args meth c cX9_both 5 RX9) (hret : meth.sig.returnType = (some .int)) {H : Heap} {locs : List Loc} {ls : Array Slot} (hI : pm_I G H0 M H locs) (hl : lv_has ls 5 []) (hw : w_X9_both_22 Post M) : W p l e rm_X9_both s m args below meth c H locs 0 0 (pm_Z G H0 M (pm_Pi (fun r9 M9 => M = M9 ∧ Post r9)) below args s rm_X9_both.cells rm_X9_both.slots) (F0 m 22 ls []) := by
  have hx := E.1
  have hb := E.2.1
  have hown := E.2.2.2.1
  have hts := E.2.2.2.2.1
  unfold w_X9_both_22 at hw
  refine lv_iconst (v := (-1 : Int32)) hx hb dX9_both_22 (by decide) ?_
  refine lv_goto (tgt := 35) hx hb dX9_both_23 (by decide) ?_
  exact c_X9_both_35 E hret hI (lv_sub hl [] rfl) hw
set_option maxHeartbeats 4000000 in
set_option maxRecDepth 100000 in
theorem k_X9_both {l : Launch} {G : pm_G} {H0 : Heap} {th : Nat} {a1 : Int32} {a2 : Int32} {M : pm_M} {Post : Int32 → Prop} (t_th : pm_is M th 8) (hw : w_X9_both th a1 a2 M Post) : pm_C l G H0 yX9_both cX9_both 5 (some .int) rm_X9_both [.ref (H0.size + th), .int a1, .int a2] M (pm_Pi (fun r9 M9 => M = M9 ∧ Post r9)) := by
  refine pm_start (by decide +kernel) (Nat.le_of_ble_eq_true rfl) ?_
  intro p e s m args below meth c H ls E hret hnm hI hl
  have hl : lv_has ls 5 [(0, .ref (H0.size + th)), (1, .int a1), (2, .int a2)] := hl
  have hx := E.1
  have hb := E.2.1
  have hown := E.2.2.2.1
  have hts := E.2.2.2.2.1
  unfold w_X9_both at hw
  refine lv_aload_n hx hb dX9_both_0 rfl (lv_at hl 0 rfl) ?_
  refine lv_iload_n hx hb dX9_both_1 rfl (lv_at hl 1 rfl) ?_
  refine pm_callV (As := [.int a1]) (rest := []) 1 E hI (k_X9_ruleAt t_th hw) t_th (by decide) rfl kc_X9_ruleAt kl_X9_158 km_X9_ruleAt ks_X9_ruleAt ki_X9 (by decide +kernel) ⟨by decide, by decide⟩ rfl hl.1 rfl (by first | exact Nat.le_of_ble_eq_true rfl | (simp only [List.map, pm_rf_cat]; exact Nat.le_of_ble_eq_true rfl)) dX9_both_2 ⟨by decide, by decide⟩ (fun r9 M9 H locs hp hX1 hI => ?_)
  clear hw
  obtain ⟨r_1, rfl, o_r_1, rfl, hw⟩ := hp
  refine pm_nrm (cells' := 0) (slots' := 0) (g2 := F0 m 5 ls [pm_rf H0.size r_1]) rfl rfl rfl ?_
  refine pm_astore_n (lv' := [(3, pm_rf H0.size r_1), (0, .ref (H0.size + th)), (1, .int a1), (2, .int a2)]) hx hb dX9_both_5 rfl hl (by decide) (by first | rfl | simp [List.filter, pm_rf_cat]) (fun ls hl_2 => ?_)
  refine lv_aload_n hx hb dX9_both_6 rfl (lv_at hl_2 1 rfl) ?_
  refine lv_iload_n hx hb dX9_both_7 rfl (lv_at hl_2 3 rfl) ?_
  refine pm_callV (As := [.int a2]) (rest := []) 1 E hI (k_X9_ruleAt t_th hw) t_th (by decide) rfl kc_X9_ruleAt kl_X9_158 km_X9_ruleAt ks_X9_ruleAt ki_X9 (by decide +kernel) ⟨by decide, by decide⟩ rfl hl_2.1 rfl (by first | exact Nat.le_of_ble_eq_true rfl | (simp only [List.map, pm_rf_cat]; exact Nat.le_of_ble_eq_true rfl)) dX9_both_8 ⟨by decide, by decide⟩ (fun r9 M9 H locs hp hX1 hI => ?_)
  clear hw
  obtain ⟨r_3, rfl, o_r_3, rfl, hw⟩ := hp
  refine pm_nrm (cells' := 0) (slots' := 0) (g2 := F0 m 11 ls [pm_rf H0.size r_3]) rfl rfl rfl ?_
  refine pm_astore (lv' := [(4, pm_rf H0.size r_3), (3, pm_rf H0.size r_1), (0, .ref (H0.size + th)), (1, .int a1), (2, .int a2)]) hx hb dX9_both_11 hl_2 (by decide) (by first | rfl | simp [List.filter, pm_rf_cat]) (fun ls hl_4 => ?_)
  refine pm_aload_n hx hb dX9_both_13 rfl (lv_at hl_4 1 rfl) ?_
  refine pm_ifnull (tgt := 22) hx hb dX9_both_14 (by decide) (fun hq => ?_) (fun q_5 hq => ?_)
  · replace hw := hw.1 hq
    subst hq
    replace hl_4 : lv_has ls 5 [(4, pm_rf H0.size r_3), (3, .null), (0, .ref (H0.size + th)), (1, .int a1), (2, .int a2)] := hl_4
    exact c_X9_both_22 E hret hI (lv_sub hl_4 [] rfl) hw
  · replace hw := hw.2 q_5 hq
    subst hq
    have t_q_5 := o_r_1 q_5 rfl
    replace hl_4 : lv_has ls 5 [(4, pm_rf H0.size r_3), (3, .ref (H0.size + q_5)), (0, .ref (H0.size + th)), (1, .int a1), (2, .int a2)] := hl_4
    refine pm_aload hx hb dX9_both_17 (lv_at hl_4 0 rfl) ?_
    refine pm_ifnonnull (tgt := 26) hx hb dX9_both_19 (by decide) (fun q_6 hq => ?_) (fun hq => ?_)
    · replace hw := hw.2 q_6 hq
      subst hq
      have t_q_6 := o_r_3 q_6 rfl
      replace hl_4 : lv_has ls 5 [(4, .ref (H0.size + q_6)), (3, .ref (H0.size + q_5)), (0, .ref (H0.size + th)), (1, .int a1), (2, .int a2)] := hl_4
      refine lv_aload_n hx hb dX9_both_26 rfl (lv_at hl_4 2 rfl) ?_
      refine lv_aload_n hx hb dX9_both_27 rfl (lv_at hl_4 1 rfl) ?_
      refine lv_aload hx hb dX9_both_28 (lv_at hl_4 0 rfl) ?_
      refine lv_aload hx hb dX9_both_30 (lv_at hl_4 0 rfl) ?_
      refine pm_callV (As := [.ref (H0.size + q_5), .ref (H0.size + q_6), .ref (H0.size + q_6)]) (rest := []) 3 E hI (k_X9_mostCommon t_th t_q_5 t_q_6 t_q_6 hw) t_th (by decide) rfl kc_X9_mostCommon kl_X9_198 km_X9_mostCommon ks_X9_mostCommon ki_X9 (by decide +kernel) ⟨by decide, by decide⟩ rfl hl_4.1 rfl (by first | exact Nat.le_of_ble_eq_true rfl | (simp only [List.map, pm_rf_cat]; exact Nat.le_of_ble_eq_true rfl)) dX9_both_32 ⟨by decide, by decide⟩ (fun r9 M9 H locs hp hX1 hI => ?_)
      clear hw
      obtain ⟨r_7, rfl, rfl, hw⟩ := hp
      refine pm_nrm (cells' := 0) (slots' := 0) (g2 := F0 m 35 ls [.int r_7]) rfl rfl rfl ?_
      exact c_X9_both_35 E hret hI (lv_sub hl_4 [] rfl) hw
    · replace hw := hw.1 hq
      subst hq
      replace hl_4 : lv_has ls 5 [(4, .null), (3, .ref (H0.size + q_5)), (0, .ref (H0.size + th)), (1, .int a1), (2, .int a2)] := hl_4
      exact c_X9_both_22 E hret hI (lv_sub hl_4 [] rfl) hw
set_option maxHeartbeats 4000000 in
set_option maxRecDepth 100000 in
theorem c_X9_split_41 {p : Program} {l : Launch} {e : Env} {s : State} {m : MethodId} {args : Array Value} {below : List Frame} {meth : Method} {c : Code} {G : pm_G} {H0 : Heap} {Post : Int32 → Prop} {v0 : Nat} {v3 : Nat} {v4 : Nat} {v5 : Int32} {M : pm_M} (E : pm_E G p s m args meth c cX9_split 7 RX9) (hret : meth.sig.returnType = (some .int)) : ∀ (n : Nat) (v6 : Int32) (H : Heap) (locs : List Loc) (ls : Array Slot), pm_I G H0 M H locs → (pm_is M v0 8) → (pm_is M v3 4) → (pm_is M v4 4) → lv_has ls 7 [(0, .ref (H0.size + v0)), (3, .ref (H0.size + v3)), (4, .ref (H0.size + v4)), (5, .int v5), (6, .int v6)] → w_X9_split_41 Post v0 v3 v4 v5 M n v6 → W p l e rm_X9_split s m args below meth c H locs 0 0 (pm_Z G H0 M (pm_Pi (fun r9 M9 => M = M9 ∧ Post r9)) below args s rm_X9_split.cells rm_X9_split.slots) (F0 m 41 ls []) := by
  have hx := E.1
  have hb := E.2.1
  have hown := E.2.2.2.1
  have hts := E.2.2.2.2.1
  intro n
  induction n with
  | zero =>
    intro v6 H locs ls hI t_v0 t_v3 t_v4 hl hw
    unfold w_X9_split_41 at hw
    exact hw.elim
  | succ n ih =>
    intro v6 H locs ls hI t_v0 t_v3 t_v4 hl hw
    unfold w_X9_split_41 at hw
    refine lv_iload hx hb dX9_split_41 (lv_at hl 4 rfl) ?_
    refine lv_aload_n hx hb dX9_split_43 rfl (lv_at hl 0 rfl) ?_
    refine gf_X9_135 E hI t_v0 dX9_split_44 ?_
    refine lv_icmp_gt (tgt := 85) hx hb dX9_split_47 (by decide) (fun h_1 => ?_) (fun h_1 => ?_)
    · replace hw := hw.1 h_1
      refine lv_iconst (v := (-1 : Int32)) hx hb dX9_split_85 (by decide) ?_
      exact pm_iret E hret hI pm_X.rf ⟨_, rfl, rfl, hw⟩ (by decide) (by decide) dX9_split_86
    · replace hw := hw.2 h_1
      refine lv_aload_n hx hb dX9_split_50 rfl (lv_at hl 1 rfl) ?_
      refine lv_iload hx hb dX9_split_51 (lv_at hl 4 rfl) ?_
      refine pm_callV (As := [.int v6]) (rest := []) 1 E hI (k_X5_rankOf t_v3 hw) t_v3 (by decide) rfl kc_X5_rankOf kl_X9_165 km_X5_rankOf ks_X5_rankOf ki_X5 (by decide +kernel) ⟨by decide, by decide⟩ rfl hl.1 rfl (by first | exact Nat.le_of_ble_eq_true rfl | (simp only [List.map, pm_rf_cat]; exact Nat.le_of_ble_eq_true rfl)) dX9_split_53 ⟨by decide, by decide⟩ (fun r9 M9 H locs hp hX1 hI => ?_)
      clear hw
      obtain ⟨r_2, rfl, rfl, hw⟩ := hp
      refine pm_nrm (cells' := 0) (slots' := 0) (g2 := F0 m 56 ls [.int r_2]) rfl rfl rfl ?_
      refine lv_aload hx hb dX9_split_56 (lv_at hl 2 rfl) ?_
      refine lv_aload_n hx hb dX9_split_58 rfl (lv_at hl 0 rfl) ?_
      refine gf_X9_135 E hI t_v0 dX9_split_59 ?_
      refine lv_iload hx hb dX9_split_62 (lv_at hl 4 rfl) ?_
      refine lv_iconst (v := (-1 : Int32)) hx hb dX9_split_64 (by decide) ?_
      refine lv_ixor hx hb dX9_split_65 ?_
      refine lv_iand hx hb dX9_split_66 ?_
      refine pm_callV (As := [.int ((mI M v0 10) &&& (v6 ^^^ (-1 : Int32)))]) (rest := [.int r_2]) 1 E hI (k_X5_rankOf t_v4 hw) t_v4 (by decide) rfl kc_X5_rankOf kl_X9_165 km_X5_rankOf ks_X5_rankOf ki_X5 (by decide +kernel) ⟨by decide, by decide⟩ rfl hl.1 rfl (by first | exact Nat.le_of_ble_eq_true rfl | (simp only [List.map, pm_rf_cat]; exact Nat.le_of_ble_eq_true rfl)) dX9_split_67 ⟨by decide, by decide⟩ (fun r9 M9 H locs hp hX1 hI => ?_)
      clear hw
      obtain ⟨r_3, rfl, rfl, hw⟩ := hp
      refine pm_nrm (cells' := 0) (slots' := 0) (g2 := F0 m 70 ls [.int r_3, .int r_2]) rfl rfl rfl ?_
      refine lv_iadd hx hb dX9_split_70 ?_
      refine lv_iload hx hb dX9_split_71 (lv_at hl 3 rfl) ?_
      refine lv_icmp_ne (tgt := 79) hx hb dX9_split_73 (by decide) (fun h_4 => ?_) (fun h_4 => ?_)
      · replace hw := hw.1 h_4
        obtain ⟨x_5, e_x_5⟩ : ∃ z : Int32, z = v6 + (1 : Int32) := ⟨_, rfl⟩
        refine lv_iinc (v := x_5) (lv' := [(6, .int x_5), (0, .ref (H0.size + v0)), (3, .ref (H0.size + v3)), (4, .ref (H0.size + v4)), (5, .int v5)]) hx hb dX9_split_79 hl (k := 4) rfl (by rw [e_x_5]; rfl) (by decide) rfl (fun ls hl_6 => ?_)
        replace hw := hw x_5 e_x_5
        refine lv_goto (tgt := 41) hx hb dX9_split_82 (by decide) ?_
        exact ih _ _ _ _ hI t_v0 t_v3 t_v4 (lv_sub hl_6 [1, 2, 3, 4, 0] rfl) hw
      · replace hw := hw.2 h_4
        refine lv_iload hx hb dX9_split_76 (lv_at hl 4 rfl) ?_
        exact pm_iret E hret hI pm_X.rf ⟨_, rfl, rfl, hw⟩ (by decide) (by decide) dX9_split_78
set_option maxHeartbeats 4000000 in
set_option maxRecDepth 100000 in
theorem c_X9_split_22 {p : Program} {l : Launch} {e : Env} {s : State} {m : MethodId} {args : Array Value} {below : List Frame} {meth : Method} {c : Code} {G : pm_G} {H0 : Heap} {Post : Int32 → Prop} {M : pm_M} (E : pm_E G p s m args meth c cX9_split 7 RX9) (hret : meth.sig.returnType = (some .int)) {H : Heap} {locs : List Loc} {ls : Array Slot} (hI : pm_I G H0 M H locs) (hl : lv_has ls 7 []) (hw : w_X9_split_22 Post M) : W p l e rm_X9_split s m args below meth c H locs 0 0 (pm_Z G H0 M (pm_Pi (fun r9 M9 => M = M9 ∧ Post r9)) below args s rm_X9_split.cells rm_X9_split.slots) (F0 m 22 ls []) := by
  have hx := E.1
  have hb := E.2.1
  have hown := E.2.2.2.1
  have hts := E.2.2.2.2.1
  unfold w_X9_split_22 at hw
  refine lv_iconst (v := (-1 : Int32)) hx hb dX9_split_22 (by decide) ?_
  exact pm_iret E hret hI pm_X.rf ⟨_, rfl, rfl, hw⟩ (by decide) (by decide) dX9_split_23
set_option maxHeartbeats 4000000 in
set_option maxRecDepth 100000 in
theorem k_X9_split {l : Launch} {G : pm_G} {H0 : Heap} {th : Nat} {a1 : Int32} {a2 : Int32} {M : pm_M} {Post : Int32 → Prop} (t_th : pm_is M th 8) (hw : w_X9_split th a1 a2 M Post) : pm_C l G H0 yX9_split cX9_split 7 (some .int) rm_X9_split [.ref (H0.size + th), .int a1, .int a2] M (pm_Pi (fun r9 M9 => M = M9 ∧ Post r9)) := by
  refine pm_start (by decide +kernel) (Nat.le_of_ble_eq_true rfl) ?_
  intro p e s m args below meth c H ls E hret hnm hI hl
  have hl : lv_has ls 7 [(0, .ref (H0.size + th)), (1, .int a1), (2, .int a2)] := hl
  have hx := E.1
  have hb := E.2.1
  have hown := E.2.2.2.1
  have hts := E.2.2.2.2.1
  unfold w_X9_split at hw
  refine lv_aload_n hx hb dX9_split_0 rfl (lv_at hl 0 rfl) ?_
  refine lv_iload_n hx hb dX9_split_1 rfl (lv_at hl 1 rfl) ?_
  refine pm_callV (As := [.int a1]) (rest := []) 1 E hI (k_X9_ruleAt t_th hw) t_th (by decide) rfl kc_X9_ruleAt kl_X9_158 km_X9_ruleAt ks_X9_ruleAt ki_X9 (by decide +kernel) ⟨by decide, by decide⟩ rfl hl.1 rfl (by first | exact Nat.le_of_ble_eq_true rfl | (simp only [List.map, pm_rf_cat]; exact Nat.le_of_ble_eq_true rfl)) dX9_split_2 ⟨by decide, by decide⟩ (fun r9 M9 H locs hp hX1 hI => ?_)
  clear hw
  obtain ⟨r_1, rfl, o_r_1, rfl, hw⟩ := hp
  refine pm_nrm (cells' := 0) (slots' := 0) (g2 := F0 m 5 ls [pm_rf H0.size r_1]) rfl rfl rfl ?_
  refine pm_astore_n (lv' := [(3, pm_rf H0.size r_1), (0, .ref (H0.size + th)), (1, .int a1), (2, .int a2)]) hx hb dX9_split_5 rfl hl (by decide) (by first | rfl | simp [List.filter, pm_rf_cat]) (fun ls hl_2 => ?_)
  refine lv_aload_n hx hb dX9_split_6 rfl (lv_at hl_2 1 rfl) ?_
  refine lv_iload_n hx hb dX9_split_7 rfl (lv_at hl_2 3 rfl) ?_
  refine pm_callV (As := [.int a2]) (rest := []) 1 E hI (k_X9_ruleAt t_th hw) t_th (by decide) rfl kc_X9_ruleAt kl_X9_158 km_X9_ruleAt ks_X9_ruleAt ki_X9 (by decide +kernel) ⟨by decide, by decide⟩ rfl hl_2.1 rfl (by first | exact Nat.le_of_ble_eq_true rfl | (simp only [List.map, pm_rf_cat]; exact Nat.le_of_ble_eq_true rfl)) dX9_split_8 ⟨by decide, by decide⟩ (fun r9 M9 H locs hp hX1 hI => ?_)
  clear hw
  obtain ⟨r_3, rfl, o_r_3, rfl, hw⟩ := hp
  refine pm_nrm (cells' := 0) (slots' := 0) (g2 := F0 m 11 ls [pm_rf H0.size r_3]) rfl rfl rfl ?_
  refine pm_astore (lv' := [(4, pm_rf H0.size r_3), (3, pm_rf H0.size r_1), (0, .ref (H0.size + th)), (1, .int a1), (2, .int a2)]) hx hb dX9_split_11 hl_2 (by decide) (by first | rfl | simp [List.filter, pm_rf_cat]) (fun ls hl_4 => ?_)
  refine pm_aload_n hx hb dX9_split_13 rfl (lv_at hl_4 1 rfl) ?_
  refine pm_ifnull (tgt := 22) hx hb dX9_split_14 (by decide) (fun hq => ?_) (fun q_5 hq => ?_)
  · replace hw := hw.1 hq
    subst hq
    replace hl_4 : lv_has ls 7 [(4, pm_rf H0.size r_3), (3, .null), (0, .ref (H0.size + th)), (1, .int a1), (2, .int a2)] := hl_4
    exact c_X9_split_22 E hret hI (lv_sub hl_4 [] rfl) hw
  · replace hw := hw.2 q_5 hq
    subst hq
    have t_q_5 := o_r_1 q_5 rfl
    replace hl_4 : lv_has ls 7 [(4, pm_rf H0.size r_3), (3, .ref (H0.size + q_5)), (0, .ref (H0.size + th)), (1, .int a1), (2, .int a2)] := hl_4
    refine pm_aload hx hb dX9_split_17 (lv_at hl_4 0 rfl) ?_
    refine pm_ifnonnull (tgt := 24) hx hb dX9_split_19 (by decide) (fun q_6 hq => ?_) (fun hq => ?_)
    · replace hw := hw.2 q_6 hq
      subst hq
      have t_q_6 := o_r_3 q_6 rfl
      replace hl_4 : lv_has ls 7 [(4, .ref (H0.size + q_6)), (3, .ref (H0.size + q_5)), (0, .ref (H0.size + th)), (1, .int a1), (2, .int a2)] := hl_4
      refine lv_aload_n hx hb dX9_split_24 rfl (lv_at hl_4 2 rfl) ?_
      refine lv_aload_n hx hb dX9_split_25 rfl (lv_at hl_4 1 rfl) ?_
      refine lv_aload hx hb dX9_split_26 (lv_at hl_4 0 rfl) ?_
      refine lv_aload hx hb dX9_split_28 (lv_at hl_4 0 rfl) ?_
      refine pm_callV (As := [.ref (H0.size + q_5), .ref (H0.size + q_6), .ref (H0.size + q_6)]) (rest := []) 3 E hI (k_X9_mostCommon t_th t_q_5 t_q_6 t_q_6 hw) t_th (by decide) rfl kc_X9_mostCommon kl_X9_198 km_X9_mostCommon ks_X9_mostCommon ki_X9 (by decide +kernel) ⟨by decide, by decide⟩ rfl hl_4.1 rfl (by first | exact Nat.le_of_ble_eq_true rfl | (simp only [List.map, pm_rf_cat]; exact Nat.le_of_ble_eq_true rfl)) dX9_split_30 ⟨by decide, by decide⟩ (fun r9 M9 H locs hp hX1 hI => ?_)
      clear hw
      obtain ⟨r_7, rfl, rfl, hw⟩ := hp
      refine pm_nrm (cells' := 0) (slots' := 0) (g2 := F0 m 33 ls [.int r_7]) rfl rfl rfl ?_
      refine pm_callS (As := [.int r_7]) (rest := []) 1 E hI (k_J6_bitCount_0f7a4 hw) kc_J6_bitCount_0f7a4 kl_X9_202 kt_J6_bitCount_0f7a4 ki_J6 (by decide +kernel) ⟨by decide, by decide⟩ rfl hl_4.1 rfl (by first | exact Nat.le_of_ble_eq_true rfl | (simp only [List.map, pm_rf_cat]; exact Nat.le_of_ble_eq_true rfl)) dX9_split_33 ⟨by decide, by decide⟩ (fun r9 M9 H locs hp hX1 hI => ?_)
      clear hw
      obtain ⟨r_8, rfl, rfl, hw⟩ := hp
      refine pm_nrm (cells' := 0) (slots' := 0) (g2 := F0 m 36 ls [.int r_8]) rfl rfl rfl ?_
      refine lv_istore (lv' := [(5, .int r_8), (4, .ref (H0.size + q_6)), (3, .ref (H0.size + q_5)), (0, .ref (H0.size + th)), (1, .int a1), (2, .int a2)]) hx hb dX9_split_36 hl_4 (by decide) rfl (fun ls hl_9 => ?_)
      refine lv_iconst (v := (0 : Int32)) hx hb dX9_split_38 (by decide) ?_
      refine lv_istore (lv' := [(6, .int (0 : Int32)), (5, .int r_8), (4, .ref (H0.size + q_6)), (3, .ref (H0.size + q_5)), (0, .ref (H0.size + th)), (1, .int a1), (2, .int a2)]) hx hb dX9_split_39 hl_9 (by decide) rfl (fun ls hl_10 => ?_)
      obtain ⟨n_11, hw⟩ := hw
      exact c_X9_split_41 E hret n_11 _ _ _ _ hI t_th t_q_5 t_q_6 (lv_sub hl_10 [4, 3, 2, 1, 0] rfl) hw
    · replace hw := hw.1 hq
      subst hq
      replace hl_4 : lv_has ls 7 [(4, .null), (3, .ref (H0.size + q_5)), (0, .ref (H0.size + th)), (1, .int a1), (2, .int a2)] := hl_4
      exact c_X9_split_22 E hret hI (lv_sub hl_4 [] rfl) hw
set_option maxHeartbeats 4000000 in
set_option maxRecDepth 100000 in
theorem c_X9_weightOf_29 {p : Program} {l : Launch} {e : Env} {s : State} {m : MethodId} {args : Array Value} {below : List Frame} {meth : Method} {c : Code} {G : pm_G} {H0 : Heap} {Post : Int32 → Prop} {v0 : Nat} {v1 : Int32} {v2 : Int32} {v3 : Int32} {M : pm_M} {k_4 : Int32 → Int32 → Prop} (E : pm_E G p s m args meth c cX9_weightOf 4 RX9) (hret : meth.sig.returnType = (some .int)) (hk_4 : ∀ (v2 : Int32) (v3 : Int32) (H : Heap) (locs : List Loc) (ls : Array Slot), pm_I G H0 M H locs → (pm_is M v0 8) → lv_has ls 4 [(0, .ref (H0.size + v0)), (1, .int v1), (2, .int v2), (3, .int v3)] → k_4 v2 v3 → W p l e rm_X9_weightOf s m args below meth c H locs 0 0 (pm_Z G H0 M (pm_Pi (fun r9 M9 => M = M9 ∧ Post r9)) below args s rm_X9_weightOf.cells rm_X9_weightOf.slots) (F0 m 4 ls [])) {H : Heap} {locs : List Loc} {ls : Array Slot} (hI : pm_I G H0 M H locs) (t_v0 : pm_is M v0 8) (hl : lv_has ls 4 [(0, .ref (H0.size + v0)), (1, .int v1), (2, .int v2), (3, .int v3)]) (hw : w_X9_weightOf_29 Post k_4 v0 v1 v2 v3 M) : W p l e rm_X9_weightOf s m args below meth c H locs 0 0 (pm_Z G H0 M (pm_Pi (fun r9 M9 => M = M9 ∧ Post r9)) below args s rm_X9_weightOf.cells rm_X9_weightOf.slots) (F0 m 29 ls []) := by
  have hx := E.1
  have hb := E.2.1
  have hown := E.2.2.2.1
  have hts := E.2.2.2.2.1
  unfold w_X9_weightOf_29 at hw
  obtain ⟨x_1, e_x_1⟩ : ∃ z : Int32, z = v3 + (1 : Int32) := ⟨_, rfl⟩
  refine lv_iinc (v := x_1) (lv' := [(3, .int x_1), (0, .ref (H0.size + v0)), (1, .int v1), (2, .int v2)]) hx hb dX9_weightOf_29 hl (k := 3) rfl (by rw [e_x_1]; rfl) (by decide) rfl (fun ls hl_2 => ?_)
  replace hw := hw x_1 e_x_1
  refine lv_goto (tgt := 4) hx hb dX9_weightOf_32 (by decide) ?_
  exact hk_4 _ _ _ _ _ hI t_v0 (lv_sub hl_2 [1, 2, 3, 0] rfl) hw
set_option maxHeartbeats 4000000 in
set_option maxRecDepth 100000 in
theorem c_X9_weightOf_4 {p : Program} {l : Launch} {e : Env} {s : State} {m : MethodId} {args : Array Value} {below : List Frame} {meth : Method} {c : Code} {G : pm_G} {H0 : Heap} {Post : Int32 → Prop} {v0 : Nat} {v1 : Int32} {M : pm_M} (E : pm_E G p s m args meth c cX9_weightOf 4 RX9) (hret : meth.sig.returnType = (some .int)) : ∀ (n : Nat) (v2 : Int32) (v3 : Int32) (H : Heap) (locs : List Loc) (ls : Array Slot), pm_I G H0 M H locs → (pm_is M v0 8) → lv_has ls 4 [(0, .ref (H0.size + v0)), (1, .int v1), (2, .int v2), (3, .int v3)] → w_X9_weightOf_4 Post v0 v1 M n v2 v3 → W p l e rm_X9_weightOf s m args below meth c H locs 0 0 (pm_Z G H0 M (pm_Pi (fun r9 M9 => M = M9 ∧ Post r9)) below args s rm_X9_weightOf.cells rm_X9_weightOf.slots) (F0 m 4 ls []) := by
  have hx := E.1
  have hb := E.2.1
  have hown := E.2.2.2.1
  have hts := E.2.2.2.2.1
  intro n
  induction n with
  | zero =>
    intro v2 v3 H locs ls hI t_v0 hl hw
    unfold w_X9_weightOf_4 at hw
    exact hw.elim
  | succ n ih =>
    intro v2 v3 H locs ls hI t_v0 hl hw
    unfold w_X9_weightOf_4 at hw
    refine lv_iload_n hx hb dX9_weightOf_4 rfl (lv_at hl 3 rfl) ?_
    refine lv_aload_n hx hb dX9_weightOf_5 rfl (lv_at hl 0 rfl) ?_
    refine gf_X9_187 E hI t_v0 dX9_weightOf_6 ?_
    refine lv_icmp_ge (tgt := 35) hx hb dX9_weightOf_9 (by decide) (fun h_1 => ?_) (fun h_1 => ?_)
    · replace hw := hw.1 h_1
      refine lv_iload_n hx hb dX9_weightOf_35 rfl (lv_at hl 2 rfl) ?_
      exact pm_iret E hret hI pm_X.rf ⟨_, rfl, rfl, hw⟩ (by decide) (by decide) dX9_weightOf_36
    · replace hw := hw.2 h_1
      refine lv_iload_n hx hb dX9_weightOf_12 rfl (lv_at hl 1 rfl) ?_
      refine lv_iload_n hx hb dX9_weightOf_13 rfl (lv_at hl 3 rfl) ?_
      refine lv_ishr hx hb dX9_weightOf_14 ?_
      refine lv_iconst (v := (1 : Int32)) hx hb dX9_weightOf_15 (by decide) ?_
      refine lv_iand hx hb dX9_weightOf_16 ?_
      refine lv_if_eq (tgt := 29) hx hb dX9_weightOf_17 (by decide) (fun h_2 => ?_) (fun h_2 => ?_)
      · replace hw := hw.1 h_2
        exact c_X9_weightOf_29 E hret ih hI t_v0 (lv_sub hl [0, 1, 2, 3] rfl) hw
      · replace hw := hw.2 h_2
        refine lv_iload_n hx hb dX9_weightOf_20 rfl (lv_at hl 2 rfl) ?_
        refine lv_aload_n hx hb dX9_weightOf_21 rfl (lv_at hl 0 rfl) ?_
        obtain ⟨q_3, e_q_3, hw⟩ := hw
        refine gf_X9_21 E hI t_v0 dX9_weightOf_22 e_q_3 (fun t_q_3 => ?_)
        refine lv_iload_n hx hb dX9_weightOf_25 rfl (lv_at hl 3 rfl) ?_
        obtain ⟨h_4, hw⟩ := hw
        refine pm_iald E hI t_q_3 h_4 dX9_weightOf_26 ?_
        refine lv_iadd hx hb dX9_weightOf_27 ?_
        refine lv_topi (fun x_5 e_x_5 => ?_)
        replace hw := hw x_5 e_x_5
        refine lv_istore_n (lv' := [(2, .int x_5), (0, .ref (H0.size + v0)), (1, .int v1), (3, .int v3)]) hx hb dX9_weightOf_28 rfl hl (by decide) rfl (fun ls hl_6 => ?_)
        exact c_X9_weightOf_29 E hret ih hI t_v0 (lv_sub hl_6 [1, 2, 0, 3] rfl) hw
set_option maxHeartbeats 4000000 in
set_option maxRecDepth 100000 in
theorem k_X9_weightOf {l : Launch} {G : pm_G} {H0 : Heap} {th : Nat} {a1 : Int32} {M : pm_M} {Post : Int32 → Prop} (t_th : pm_is M th 8) (hw : w_X9_weightOf th a1 M Post) : pm_C l G H0 yX9_weightOf cX9_weightOf 4 (some .int) rm_X9_weightOf [.ref (H0.size + th), .int a1] M (pm_Pi (fun r9 M9 => M = M9 ∧ Post r9)) := by
  refine pm_start (by decide +kernel) (Nat.le_of_ble_eq_true rfl) ?_
  intro p e s m args below meth c H ls E hret hnm hI hl
  have hl : lv_has ls 4 [(0, .ref (H0.size + th)), (1, .int a1)] := hl
  have hx := E.1
  have hb := E.2.1
  have hown := E.2.2.2.1
  have hts := E.2.2.2.2.1
  unfold w_X9_weightOf at hw
  refine lv_iconst (v := (0 : Int32)) hx hb dX9_weightOf_0 (by decide) ?_
  refine lv_istore_n (lv' := [(2, .int (0 : Int32)), (0, .ref (H0.size + th)), (1, .int a1)]) hx hb dX9_weightOf_1 rfl hl (by decide) rfl (fun ls hl_1 => ?_)
  refine lv_iconst (v := (0 : Int32)) hx hb dX9_weightOf_2 (by decide) ?_
  refine lv_istore_n (lv' := [(3, .int (0 : Int32)), (2, .int (0 : Int32)), (0, .ref (H0.size + th)), (1, .int a1)]) hx hb dX9_weightOf_3 rfl hl_1 (by decide) rfl (fun ls hl_2 => ?_)
  obtain ⟨n_3, hw⟩ := hw
  exact c_X9_weightOf_4 E hret n_3 _ _ _ _ _ hI t_th (lv_sub hl_2 [2, 3, 1, 0] rfl) hw
set_option maxHeartbeats 4000000 in
set_option maxRecDepth 100000 in
theorem c_X9_most_83 {p : Program} {l : Launch} {e : Env} {s : State} {m : MethodId} {args : Array Value} {below : List Frame} {meth : Method} {c : Code} {G : pm_G} {H0 : Heap} {Post : Int32 → Prop} {v0 : Nat} {v3 : Int32} {v4 : Nat} {v5 : Nat} {v6 : Int32} {v7 : Int32} {M : pm_M} {k_32 : Int32 → Int32 → Prop} (E : pm_E G p s m args meth c cX9_most 8 RX9) (hret : meth.sig.returnType = (some .int)) (hk_32 : ∀ (v6 : Int32) (v7 : Int32) (H : Heap) (locs : List Loc) (ls : Array Slot), pm_I G H0 M H locs → (pm_is M v0 8) → (pm_is M v4 4) → (pm_is M v5 4) → lv_has ls 8 [(0, .ref (H0.size + v0)), (3, .int v3), (4, .ref (H0.size + v4)), (5, .ref (H0.size + v5)), (6, .int v6), (7, .int v7)] → k_32 v6 v7 → W p l e rm_X9_most s m args below meth c H locs 0 0 (pm_Z G H0 M (pm_Pi (fun r9 M9 => M = M9 ∧ Post r9)) below args s rm_X9_most.cells rm_X9_most.slots) (F0 m 32 ls [])) {H : Heap} {locs : List Loc} {ls : Array Slot} (hI : pm_I G H0 M H locs) (t_v0 : pm_is M v0 8) (t_v4 : pm_is M v4 4) (t_v5 : pm_is M v5 4) (hl : lv_has ls 8 [(0, .ref (H0.size + v0)), (3, .int v3), (4, .ref (H0.size + v4)), (5, .ref (H0.size + v5)), (6, .int v6), (7, .int v7)]) (hw : w_X9_most_83 Post k_32 v0 v3 v4 v5 v6 v7 M) : W p l e rm_X9_most s m args below meth c H locs 0 0 (pm_Z G H0 M (pm_Pi (fun r9 M9 => M = M9 ∧ Post r9)) below args s rm_X9_most.cells rm_X9_most.slots) (F0 m 83 ls []) := by
  have hx := E.1
  have hb := E.2.1
  have hown := E.2.2.2.1
  have hts := E.2.2.2.2.1
  unfold w_X9_most_83 at hw
  obtain ⟨x_1, e_x_1⟩ : ∃ z : Int32, z = v7 + (1 : Int32) := ⟨_, rfl⟩
  refine lv_iinc (v := x_1) (lv' := [(7, .int x_1), (0, .ref (H0.size + v0)), (3, .int v3), (4, .ref (H0.size + v4)), (5, .ref (H0.size + v5)), (6, .int v6)]) hx hb dX9_most_83 hl (k := 5) rfl (by rw [e_x_1]; rfl) (by decide) rfl (fun ls hl_2 => ?_)
  replace hw := hw x_1 e_x_1
  refine lv_goto (tgt := 32) hx hb dX9_most_86 (by decide) ?_
  exact hk_32 _ _ _ _ _ hI t_v0 t_v4 t_v5 (lv_sub hl_2 [1, 2, 3, 4, 5, 0] rfl) hw
set_option maxHeartbeats 4000000 in
set_option maxRecDepth 100000 in
theorem c_X9_most_32 {p : Program} {l : Launch} {e : Env} {s : State} {m : MethodId} {args : Array Value} {below : List Frame} {meth : Method} {c : Code} {G : pm_G} {H0 : Heap} {Post : Int32 → Prop} {v0 : Nat} {v3 : Int32} {v4 : Nat} {v5 : Nat} {M : pm_M} (E : pm_E G p s m args meth c cX9_most 8 RX9) (hret : meth.sig.returnType = (some .int)) : ∀ (n : Nat) (v6 : Int32) (v7 : Int32) (H : Heap) (locs : List Loc) (ls : Array Slot), pm_I G H0 M H locs → (pm_is M v0 8) → (pm_is M v4 4) → (pm_is M v5 4) → lv_has ls 8 [(0, .ref (H0.size + v0)), (3, .int v3), (4, .ref (H0.size + v4)), (5, .ref (H0.size + v5)), (6, .int v6), (7, .int v7)] → w_X9_most_32 Post v0 v3 v4 v5 M n v6 v7 → W p l e rm_X9_most s m args below meth c H locs 0 0 (pm_Z G H0 M (pm_Pi (fun r9 M9 => M = M9 ∧ Post r9)) below args s rm_X9_most.cells rm_X9_most.slots) (F0 m 32 ls []) := by
  have hx := E.1
  have hb := E.2.1
  have hown := E.2.2.2.1
  have hts := E.2.2.2.2.1
  intro n
  induction n with
  | zero =>
    intro v6 v7 H locs ls hI t_v0 t_v4 t_v5 hl hw
    unfold w_X9_most_32 at hw
    exact hw.elim
  | succ n ih =>
    intro v6 v7 H locs ls hI t_v0 t_v4 t_v5 hl hw
    unfold w_X9_most_32 at hw
    refine lv_iload hx hb dX9_most_32 (lv_at hl 5 rfl) ?_
    refine lv_aload_n hx hb dX9_most_34 rfl (lv_at hl 0 rfl) ?_
    refine gf_X9_135 E hI t_v0 dX9_most_35 ?_
    refine lv_icmp_gt (tgt := 89) hx hb dX9_most_38 (by decide) (fun h_1 => ?_) (fun h_1 => ?_)
    · replace hw := hw.1 h_1
      refine lv_iload hx hb dX9_most_89 (lv_at hl 4 rfl) ?_
      exact pm_iret E hret hI pm_X.rf ⟨_, rfl, rfl, hw⟩ (by decide) (by decide) dX9_most_91
    · replace hw := hw.2 h_1
      refine lv_iload hx hb dX9_most_41 (lv_at hl 5 rfl) ?_
      refine pm_callS (As := [.int v7]) (rest := []) 1 E hI (k_J6_bitCount_0f7a4 hw) kc_J6_bitCount_0f7a4 kl_X9_202 kt_J6_bitCount_0f7a4 ki_J6 (by decide +kernel) ⟨by decide, by decide⟩ rfl hl.1 rfl (by first | exact Nat.le_of_ble_eq_true rfl | (simp only [List.map, pm_rf_cat]; exact Nat.le_of_ble_eq_true rfl)) dX9_most_43 ⟨by decide, by decide⟩ (fun r9 M9 H locs hp hX1 hI => ?_)
      clear hw
      obtain ⟨r_2, rfl, rfl, hw⟩ := hp
      refine pm_nrm (cells' := 0) (slots' := 0) (g2 := F0 m 46 ls [.int r_2]) rfl rfl rfl ?_
      refine lv_iload_n hx hb dX9_most_46 rfl (lv_at hl 1 rfl) ?_
      refine lv_icmp_ne (tgt := 83) hx hb dX9_most_47 (by decide) (fun h_3 => ?_) (fun h_3 => ?_)
      · replace hw := hw.1 h_3
        exact c_X9_most_83 E hret ih hI t_v0 t_v4 t_v5 (lv_sub hl [0, 1, 2, 3, 4, 5] rfl) hw
      · replace hw := hw.2 h_3
        refine lv_aload hx hb dX9_most_50 (lv_at hl 2 rfl) ?_
        refine lv_iload hx hb dX9_most_52 (lv_at hl 5 rfl) ?_
        refine pm_callV (As := [.int v7]) (rest := []) 1 E hI (k_X5_permits t_v4 hw) t_v4 (by decide) rfl kc_X5_permits kl_X9_184 km_X5_permits ks_X5_permits ki_X5 (by decide +kernel) ⟨by decide, by decide⟩ rfl hl.1 rfl (by first | exact Nat.le_of_ble_eq_true rfl | (simp only [List.map, pm_rf_cat]; exact Nat.le_of_ble_eq_true rfl)) dX9_most_54 ⟨by decide, by decide⟩ (fun r9 M9 H locs hp hX1 hI => ?_)
        clear hw
        obtain ⟨r_4, rfl, rfl, hw⟩ := hp
        refine pm_nrm (cells' := 0) (slots' := 0) (g2 := F0 m 57 ls [.int r_4]) rfl rfl rfl ?_
        refine lv_if_eq (tgt := 83) hx hb dX9_most_57 (by decide) (fun h_5 => ?_) (fun h_5 => ?_)
        · replace hw := hw.1 h_5
          exact c_X9_most_83 E hret ih hI t_v0 t_v4 t_v5 (lv_sub hl [0, 1, 2, 3, 4, 5] rfl) hw
        · replace hw := hw.2 h_5
          refine lv_aload hx hb dX9_most_60 (lv_at hl 3 rfl) ?_
          refine lv_iload hx hb dX9_most_62 (lv_at hl 5 rfl) ?_
          refine pm_callV (As := [.int v7]) (rest := []) 1 E hI (k_X5_permits t_v5 hw) t_v5 (by decide) rfl kc_X5_permits kl_X9_184 km_X5_permits ks_X5_permits ki_X5 (by decide +kernel) ⟨by decide, by decide⟩ rfl hl.1 rfl (by first | exact Nat.le_of_ble_eq_true rfl | (simp only [List.map, pm_rf_cat]; exact Nat.le_of_ble_eq_true rfl)) dX9_most_64 ⟨by decide, by decide⟩ (fun r9 M9 H locs hp hX1 hI => ?_)
          clear hw
          obtain ⟨r_6, rfl, rfl, hw⟩ := hp
          refine pm_nrm (cells' := 0) (slots' := 0) (g2 := F0 m 67 ls [.int r_6]) rfl rfl rfl ?_
          refine lv_if_eq (tgt := 83) hx hb dX9_most_67 (by decide) (fun h_7 => ?_) (fun h_7 => ?_)
          · replace hw := hw.1 h_7
            exact c_X9_most_83 E hret ih hI t_v0 t_v4 t_v5 (lv_sub hl [0, 1, 2, 3, 4, 5] rfl) hw
          · replace hw := hw.2 h_7
            refine lv_iload hx hb dX9_most_70 (lv_at hl 4 rfl) ?_
            refine lv_aload_n hx hb dX9_most_72 rfl (lv_at hl 0 rfl) ?_
            refine lv_iload hx hb dX9_most_73 (lv_at hl 5 rfl) ?_
            refine pm_callV (As := [.int v7]) (rest := [.int v6]) 1 E hI (k_X9_weightOf t_v0 hw) t_v0 (by decide) rfl kc_X9_weightOf kl_X9_207 km_X9_weightOf ks_X9_weightOf ki_X9 (by decide +kernel) ⟨by decide, by decide⟩ rfl hl.1 rfl (by first | exact Nat.le_of_ble_eq_true rfl | (simp only [List.map, pm_rf_cat]; exact Nat.le_of_ble_eq_true rfl)) dX9_most_75 ⟨by decide, by decide⟩ (fun r9 M9 H locs hp hX1 hI => ?_)
            clear hw
            obtain ⟨r_8, rfl, rfl, hw⟩ := hp
            refine pm_nrm (cells' := 0) (slots' := 0) (g2 := F0 m 78 ls [.int r_8, .int v6]) rfl rfl rfl ?_
            refine pm_callS (As := [.int v6, .int r_8]) (rest := []) 2 E hI (k_J9_max_7cf53 hw) kc_J9_max_7cf53 kl_X9_210 kt_J9_max_7cf53 ki_J9 (by decide +kernel) ⟨by decide, by decide⟩ rfl hl.1 rfl (by first | exact Nat.le_of_ble_eq_true rfl | (simp only [List.map, pm_rf_cat]; exact Nat.le_of_ble_eq_true rfl)) dX9_most_78 ⟨by decide, by decide⟩ (fun r9 M9 H locs hp hX1 hI => ?_)
            clear hw
            obtain ⟨r_9, rfl, rfl, hw⟩ := hp
            refine pm_nrm (cells' := 0) (slots' := 0) (g2 := F0 m 81 ls [.int r_9]) rfl rfl rfl ?_
            refine lv_istore (lv' := [(6, .int r_9), (0, .ref (H0.size + v0)), (3, .int v3), (4, .ref (H0.size + v4)), (5, .ref (H0.size + v5)), (7, .int v7)]) hx hb dX9_most_81 hl (by decide) rfl (fun ls hl_10 => ?_)
            exact c_X9_most_83 E hret ih hI t_v0 t_v4 t_v5 (lv_sub hl_10 [1, 2, 3, 4, 0, 5] rfl) hw
set_option maxHeartbeats 4000000 in
set_option maxRecDepth 100000 in
theorem c_X9_most_24 {p : Program} {l : Launch} {e : Env} {s : State} {m : MethodId} {args : Array Value} {below : List Frame} {meth : Method} {c : Code} {G : pm_G} {H0 : Heap} {Post : Int32 → Prop} {M : pm_M} (E : pm_E G p s m args meth c cX9_most 8 RX9) (hret : meth.sig.returnType = (some .int)) {H : Heap} {locs : List Loc} {ls : Array Slot} (hI : pm_I G H0 M H locs) (hl : lv_has ls 8 []) (hw : w_X9_most_24 Post M) : W p l e rm_X9_most s m args below meth c H locs 0 0 (pm_Z G H0 M (pm_Pi (fun r9 M9 => M = M9 ∧ Post r9)) below args s rm_X9_most.cells rm_X9_most.slots) (F0 m 24 ls []) := by
  have hx := E.1
  have hb := E.2.1
  have hown := E.2.2.2.1
  have hts := E.2.2.2.2.1
  unfold w_X9_most_24 at hw
  refine lv_iconst (v := (-1 : Int32)) hx hb dX9_most_24 (by decide) ?_
  exact pm_iret E hret hI pm_X.rf ⟨_, rfl, rfl, hw⟩ (by decide) (by decide) dX9_most_25
set_option maxHeartbeats 4000000 in
set_option maxRecDepth 100000 in
theorem k_X9_most {l : Launch} {G : pm_G} {H0 : Heap} {th : Nat} {a1 : Int32} {a2 : Int32} {a3 : Int32} {M : pm_M} {Post : Int32 → Prop} (t_th : pm_is M th 8) (hw : w_X9_most th a1 a2 a3 M Post) : pm_C l G H0 yX9_most cX9_most 8 (some .int) rm_X9_most [.ref (H0.size + th), .int a1, .int a2, .int a3] M (pm_Pi (fun r9 M9 => M = M9 ∧ Post r9)) := by
  refine pm_start (by decide +kernel) (Nat.le_of_ble_eq_true rfl) ?_
  intro p e s m args below meth c H ls E hret hnm hI hl
  have hl : lv_has ls 8 [(0, .ref (H0.size + th)), (1, .int a1), (2, .int a2), (3, .int a3)] := hl
  have hx := E.1
  have hb := E.2.1
  have hown := E.2.2.2.1
  have hts := E.2.2.2.2.1
  unfold w_X9_most at hw
  refine lv_aload_n hx hb dX9_most_0 rfl (lv_at hl 0 rfl) ?_
  refine lv_iload_n hx hb dX9_most_1 rfl (lv_at hl 1 rfl) ?_
  refine pm_callV (As := [.int a1]) (rest := []) 1 E hI (k_X9_ruleAt t_th hw) t_th (by decide) rfl kc_X9_ruleAt kl_X9_158 km_X9_ruleAt ks_X9_ruleAt ki_X9 (by decide +kernel) ⟨by decide, by decide⟩ rfl hl.1 rfl (by first | exact Nat.le_of_ble_eq_true rfl | (simp only [List.map, pm_rf_cat]; exact Nat.le_of_ble_eq_true rfl)) dX9_most_2 ⟨by decide, by decide⟩ (fun r9 M9 H locs hp hX1 hI => ?_)
  clear hw
  obtain ⟨r_1, rfl, o_r_1, rfl, hw⟩ := hp
  refine pm_nrm (cells' := 0) (slots' := 0) (g2 := F0 m 5 ls [pm_rf H0.size r_1]) rfl rfl rfl ?_
  refine pm_astore (lv' := [(4, pm_rf H0.size r_1), (0, .ref (H0.size + th)), (1, .int a1), (2, .int a2), (3, .int a3)]) hx hb dX9_most_5 hl (by decide) (by first | rfl | simp [List.filter, pm_rf_cat]) (fun ls hl_2 => ?_)
  refine lv_aload_n hx hb dX9_most_7 rfl (lv_at hl_2 1 rfl) ?_
  refine lv_iload_n hx hb dX9_most_8 rfl (lv_at hl_2 3 rfl) ?_
  refine pm_callV (As := [.int a2]) (rest := []) 1 E hI (k_X9_ruleAt t_th hw) t_th (by decide) rfl kc_X9_ruleAt kl_X9_158 km_X9_ruleAt ks_X9_ruleAt ki_X9 (by decide +kernel) ⟨by decide, by decide⟩ rfl hl_2.1 rfl (by first | exact Nat.le_of_ble_eq_true rfl | (simp only [List.map, pm_rf_cat]; exact Nat.le_of_ble_eq_true rfl)) dX9_most_9 ⟨by decide, by decide⟩ (fun r9 M9 H locs hp hX1 hI => ?_)
  clear hw
  obtain ⟨r_3, rfl, o_r_3, rfl, hw⟩ := hp
  refine pm_nrm (cells' := 0) (slots' := 0) (g2 := F0 m 12 ls [pm_rf H0.size r_3]) rfl rfl rfl ?_
  refine pm_astore (lv' := [(5, pm_rf H0.size r_3), (4, pm_rf H0.size r_1), (0, .ref (H0.size + th)), (1, .int a1), (2, .int a2), (3, .int a3)]) hx hb dX9_most_12 hl_2 (by decide) (by first | rfl | simp [List.filter, pm_rf_cat]) (fun ls hl_4 => ?_)
  refine pm_aload hx hb dX9_most_14 (lv_at hl_4 1 rfl) ?_
  refine pm_ifnull (tgt := 24) hx hb dX9_most_16 (by decide) (fun hq => ?_) (fun q_5 hq => ?_)
  · replace hw := hw.1 hq
    subst hq
    replace hl_4 : lv_has ls 8 [(5, pm_rf H0.size r_3), (4, .null), (0, .ref (H0.size + th)), (1, .int a1), (2, .int a2), (3, .int a3)] := hl_4
    exact c_X9_most_24 E hret hI (lv_sub hl_4 [] rfl) hw
  · replace hw := hw.2 q_5 hq
    subst hq
    have t_q_5 := o_r_1 q_5 rfl
    replace hl_4 : lv_has ls 8 [(5, pm_rf H0.size r_3), (4, .ref (H0.size + q_5)), (0, .ref (H0.size + th)), (1, .int a1), (2, .int a2), (3, .int a3)] := hl_4
    refine pm_aload hx hb dX9_most_19 (lv_at hl_4 0 rfl) ?_
    refine pm_ifnonnull (tgt := 26) hx hb dX9_most_21 (by decide) (fun q_6 hq => ?_) (fun hq => ?_)
    · replace hw := hw.2 q_6 hq
      subst hq
      have t_q_6 := o_r_3 q_6 rfl
      replace hl_4 : lv_has ls 8 [(5, .ref (H0.size + q_6)), (4, .ref (H0.size + q_5)), (0, .ref (H0.size + th)), (1, .int a1), (2, .int a2), (3, .int a3)] := hl_4
      refine lv_iconst (v := (-1 : Int32)) hx hb dX9_most_26 (by decide) ?_
      refine lv_istore (lv' := [(6, .int (-1 : Int32)), (5, .ref (H0.size + q_6)), (4, .ref (H0.size + q_5)), (0, .ref (H0.size + th)), (1, .int a1), (2, .int a2), (3, .int a3)]) hx hb dX9_most_27 hl_4 (by decide) rfl (fun ls hl_7 => ?_)
      refine lv_iconst (v := (0 : Int32)) hx hb dX9_most_29 (by decide) ?_
      refine lv_istore (lv' := [(7, .int (0 : Int32)), (6, .int (-1 : Int32)), (5, .ref (H0.size + q_6)), (4, .ref (H0.size + q_5)), (0, .ref (H0.size + th)), (1, .int a1), (2, .int a2), (3, .int a3)]) hx hb dX9_most_30 hl_7 (by decide) rfl (fun ls hl_8 => ?_)
      obtain ⟨n_9, hw⟩ := hw
      exact c_X9_most_32 E hret n_9 _ _ _ _ _ hI t_th t_q_5 t_q_6 (lv_sub hl_8 [4, 7, 3, 2, 1, 0] rfl) hw
    · replace hw := hw.1 hq
      subst hq
      replace hl_4 : lv_has ls 8 [(5, .null), (4, .ref (H0.size + q_5)), (0, .ref (H0.size + th)), (1, .int a1), (2, .int a2), (3, .int a3)] := hl_4
      exact c_X9_most_24 E hret hI (lv_sub hl_4 [] rfl) hw
set_option maxHeartbeats 4000000 in
set_option maxRecDepth 100000 in
theorem c_X9_three_36 {p : Program} {l : Launch} {e : Env} {s : State} {m : MethodId} {args : Array Value} {below : List Frame} {meth : Method} {c : Code} {G : pm_G} {H0 : Heap} {Post : Int32 → Prop} {M : pm_M} (E : pm_E G p s m args meth c cX9_three 7 RX9) (hret : meth.sig.returnType = (some .int)) {H : Heap} {locs : List Loc} {ls : Array Slot} (hI : pm_I G H0 M H locs) (hl : lv_has ls 7 []) (hw : w_X9_three_36 Post M) : W p l e rm_X9_three s m args below meth c H locs 0 0 (pm_Z G H0 M (pm_Pi (fun r9 M9 => M = M9 ∧ Post r9)) below args s rm_X9_three.cells rm_X9_three.slots) (F0 m 36 ls []) := by
  have hx := E.1
  have hb := E.2.1
  have hown := E.2.2.2.1
  have hts := E.2.2.2.2.1
  unfold w_X9_three_36 at hw
  refine lv_iconst (v := (-1 : Int32)) hx hb dX9_three_36 (by decide) ?_
  exact pm_iret E hret hI pm_X.rf ⟨_, rfl, rfl, hw⟩ (by decide) (by decide) dX9_three_37
set_option maxHeartbeats 4000000 in
set_option maxRecDepth 100000 in
theorem k_X9_three {l : Launch} {G : pm_G} {H0 : Heap} {th : Nat} {a1 : Int32} {a2 : Int32} {a3 : Int32} {M : pm_M} {Post : Int32 → Prop} (t_th : pm_is M th 8) (hw : w_X9_three th a1 a2 a3 M Post) : pm_C l G H0 yX9_three cX9_three 7 (some .int) rm_X9_three [.ref (H0.size + th), .int a1, .int a2, .int a3] M (pm_Pi (fun r9 M9 => M = M9 ∧ Post r9)) := by
  refine pm_start (by decide +kernel) (Nat.le_of_ble_eq_true rfl) ?_
  intro p e s m args below meth c H ls E hret hnm hI hl
  have hl : lv_has ls 7 [(0, .ref (H0.size + th)), (1, .int a1), (2, .int a2), (3, .int a3)] := hl
  have hx := E.1
  have hb := E.2.1
  have hown := E.2.2.2.1
  have hts := E.2.2.2.2.1
  unfold w_X9_three at hw
  refine lv_aload_n hx hb dX9_three_0 rfl (lv_at hl 0 rfl) ?_
  refine lv_iload_n hx hb dX9_three_1 rfl (lv_at hl 1 rfl) ?_
  refine pm_callV (As := [.int a1]) (rest := []) 1 E hI (k_X9_ruleAt t_th hw) t_th (by decide) rfl kc_X9_ruleAt kl_X9_158 km_X9_ruleAt ks_X9_ruleAt ki_X9 (by decide +kernel) ⟨by decide, by decide⟩ rfl hl.1 rfl (by first | exact Nat.le_of_ble_eq_true rfl | (simp only [List.map, pm_rf_cat]; exact Nat.le_of_ble_eq_true rfl)) dX9_three_2 ⟨by decide, by decide⟩ (fun r9 M9 H locs hp hX1 hI => ?_)
  clear hw
  obtain ⟨r_1, rfl, o_r_1, rfl, hw⟩ := hp
  refine pm_nrm (cells' := 0) (slots' := 0) (g2 := F0 m 5 ls [pm_rf H0.size r_1]) rfl rfl rfl ?_
  refine pm_astore (lv' := [(4, pm_rf H0.size r_1), (0, .ref (H0.size + th)), (1, .int a1), (2, .int a2), (3, .int a3)]) hx hb dX9_three_5 hl (by decide) (by first | rfl | simp [List.filter, pm_rf_cat]) (fun ls hl_2 => ?_)
  refine lv_aload_n hx hb dX9_three_7 rfl (lv_at hl_2 1 rfl) ?_
  refine lv_iload_n hx hb dX9_three_8 rfl (lv_at hl_2 3 rfl) ?_
  refine pm_callV (As := [.int a2]) (rest := []) 1 E hI (k_X9_ruleAt t_th hw) t_th (by decide) rfl kc_X9_ruleAt kl_X9_158 km_X9_ruleAt ks_X9_ruleAt ki_X9 (by decide +kernel) ⟨by decide, by decide⟩ rfl hl_2.1 rfl (by first | exact Nat.le_of_ble_eq_true rfl | (simp only [List.map, pm_rf_cat]; exact Nat.le_of_ble_eq_true rfl)) dX9_three_9 ⟨by decide, by decide⟩ (fun r9 M9 H locs hp hX1 hI => ?_)
  clear hw
  obtain ⟨r_3, rfl, o_r_3, rfl, hw⟩ := hp
  refine pm_nrm (cells' := 0) (slots' := 0) (g2 := F0 m 12 ls [pm_rf H0.size r_3]) rfl rfl rfl ?_
  refine pm_astore (lv' := [(5, pm_rf H0.size r_3), (4, pm_rf H0.size r_1), (0, .ref (H0.size + th)), (1, .int a1), (2, .int a2), (3, .int a3)]) hx hb dX9_three_12 hl_2 (by decide) (by first | rfl | simp [List.filter, pm_rf_cat]) (fun ls hl_4 => ?_)
  refine lv_aload_n hx hb dX9_three_14 rfl (lv_at hl_4 2 rfl) ?_
  refine lv_iload_n hx hb dX9_three_15 rfl (lv_at hl_4 5 rfl) ?_
  refine pm_callV (As := [.int a3]) (rest := []) 1 E hI (k_X9_ruleAt t_th hw) t_th (by decide) rfl kc_X9_ruleAt kl_X9_158 km_X9_ruleAt ks_X9_ruleAt ki_X9 (by decide +kernel) ⟨by decide, by decide⟩ rfl hl_4.1 rfl (by first | exact Nat.le_of_ble_eq_true rfl | (simp only [List.map, pm_rf_cat]; exact Nat.le_of_ble_eq_true rfl)) dX9_three_16 ⟨by decide, by decide⟩ (fun r9 M9 H locs hp hX1 hI => ?_)
  clear hw
  obtain ⟨r_5, rfl, o_r_5, rfl, hw⟩ := hp
  refine pm_nrm (cells' := 0) (slots' := 0) (g2 := F0 m 19 ls [pm_rf H0.size r_5]) rfl rfl rfl ?_
  refine pm_astore (lv' := [(6, pm_rf H0.size r_5), (5, pm_rf H0.size r_3), (4, pm_rf H0.size r_1), (0, .ref (H0.size + th)), (1, .int a1), (2, .int a2), (3, .int a3)]) hx hb dX9_three_19 hl_4 (by decide) (by first | rfl | simp [List.filter, pm_rf_cat]) (fun ls hl_6 => ?_)
  refine pm_aload hx hb dX9_three_21 (lv_at hl_6 2 rfl) ?_
  refine pm_ifnull (tgt := 36) hx hb dX9_three_23 (by decide) (fun hq => ?_) (fun q_7 hq => ?_)
  · replace hw := hw.1 hq
    subst hq
    replace hl_6 : lv_has ls 7 [(6, pm_rf H0.size r_5), (5, pm_rf H0.size r_3), (4, .null), (0, .ref (H0.size + th)), (1, .int a1), (2, .int a2), (3, .int a3)] := hl_6
    exact c_X9_three_36 E hret hI (lv_sub hl_6 [] rfl) hw
  · replace hw := hw.2 q_7 hq
    subst hq
    have t_q_7 := o_r_1 q_7 rfl
    replace hl_6 : lv_has ls 7 [(6, pm_rf H0.size r_5), (5, pm_rf H0.size r_3), (4, .ref (H0.size + q_7)), (0, .ref (H0.size + th)), (1, .int a1), (2, .int a2), (3, .int a3)] := hl_6
    refine pm_aload hx hb dX9_three_26 (lv_at hl_6 1 rfl) ?_
    refine pm_ifnull (tgt := 36) hx hb dX9_three_28 (by decide) (fun hq => ?_) (fun q_8 hq => ?_)
    · replace hw := hw.1 hq
      subst hq
      replace hl_6 : lv_has ls 7 [(6, pm_rf H0.size r_5), (5, .null), (4, .ref (H0.size + q_7)), (0, .ref (H0.size + th)), (1, .int a1), (2, .int a2), (3, .int a3)] := hl_6
      exact c_X9_three_36 E hret hI (lv_sub hl_6 [] rfl) hw
    · replace hw := hw.2 q_8 hq
      subst hq
      have t_q_8 := o_r_3 q_8 rfl
      replace hl_6 : lv_has ls 7 [(6, pm_rf H0.size r_5), (5, .ref (H0.size + q_8)), (4, .ref (H0.size + q_7)), (0, .ref (H0.size + th)), (1, .int a1), (2, .int a2), (3, .int a3)] := hl_6
      refine pm_aload hx hb dX9_three_31 (lv_at hl_6 0 rfl) ?_
      refine pm_ifnonnull (tgt := 38) hx hb dX9_three_33 (by decide) (fun q_9 hq => ?_) (fun hq => ?_)
      · replace hw := hw.2 q_9 hq
        subst hq
        have t_q_9 := o_r_5 q_9 rfl
        replace hl_6 : lv_has ls 7 [(6, .ref (H0.size + q_9)), (5, .ref (H0.size + q_8)), (4, .ref (H0.size + q_7)), (0, .ref (H0.size + th)), (1, .int a1), (2, .int a2), (3, .int a3)] := hl_6
        refine lv_aload_n hx hb dX9_three_38 rfl (lv_at hl_6 3 rfl) ?_
        refine lv_aload hx hb dX9_three_39 (lv_at hl_6 2 rfl) ?_
        refine lv_aload hx hb dX9_three_41 (lv_at hl_6 1 rfl) ?_
        refine lv_aload hx hb dX9_three_43 (lv_at hl_6 0 rfl) ?_
        refine pm_callV (As := [.ref (H0.size + q_7), .ref (H0.size + q_8), .ref (H0.size + q_9)]) (rest := []) 3 E hI (k_X9_mostCommon t_th t_q_7 t_q_8 t_q_9 hw) t_th (by decide) rfl kc_X9_mostCommon kl_X9_198 km_X9_mostCommon ks_X9_mostCommon ki_X9 (by decide +kernel) ⟨by decide, by decide⟩ rfl hl_6.1 rfl (by first | exact Nat.le_of_ble_eq_true rfl | (simp only [List.map, pm_rf_cat]; exact Nat.le_of_ble_eq_true rfl)) dX9_three_45 ⟨by decide, by decide⟩ (fun r9 M9 H locs hp hX1 hI => ?_)
        clear hw
        obtain ⟨r_10, rfl, rfl, hw⟩ := hp
        refine pm_nrm (cells' := 0) (slots' := 0) (g2 := F0 m 48 ls [.int r_10]) rfl rfl rfl ?_
        refine pm_callS (As := [.int r_10]) (rest := []) 1 E hI (k_J6_bitCount_0f7a4 hw) kc_J6_bitCount_0f7a4 kl_X9_202 kt_J6_bitCount_0f7a4 ki_J6 (by decide +kernel) ⟨by decide, by decide⟩ rfl hl_6.1 rfl (by first | exact Nat.le_of_ble_eq_true rfl | (simp only [List.map, pm_rf_cat]; exact Nat.le_of_ble_eq_true rfl)) dX9_three_48 ⟨by decide, by decide⟩ (fun r9 M9 H locs hp hX1 hI => ?_)
        clear hw
        obtain ⟨r_11, rfl, rfl, hw⟩ := hp
        refine pm_nrm (cells' := 0) (slots' := 0) (g2 := F0 m 51 ls [.int r_11]) rfl rfl rfl ?_
        exact pm_iret E hret hI pm_X.rf ⟨_, rfl, rfl, hw⟩ (by decide) (by decide) dX9_three_51
      · replace hw := hw.1 hq
        subst hq
        replace hl_6 : lv_has ls 7 [(6, .null), (5, .ref (H0.size + q_8)), (4, .ref (H0.size + q_7)), (0, .ref (H0.size + th)), (1, .int a1), (2, .int a2), (3, .int a3)] := hl_6
        exact c_X9_three_36 E hret hI (lv_sub hl_6 [] rfl) hw
