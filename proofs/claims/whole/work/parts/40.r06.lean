set_option maxHeartbeats 4000000 in
set_option maxRecDepth 100000 in
theorem c_X10_fresh_11 {p : Program} {l : Launch} {e : Env} {s : State} {m : MethodId} {args : Array Value} {below : List Frame} {meth : Method} {c : Code} {G : pm_G} {H0 : Heap} {M0 : pm_M} {Post : Int32 → pm_M → Prop} {M : pm_M} (E : pm_E G p s m args meth c cX10_fresh 2 RX10) (hret : meth.sig.returnType = (some .boolean)) {H : Heap} {locs : List Loc} {ls : Array Slot} (hX : pm_X M0 M) (hI : pm_I G H0 M H locs) (hl : lv_has ls 2 []) (hw : w_X10_fresh_11 Post M) : W p l e rm_X10_fresh s m args below meth c H locs 0 0 (pm_Z G H0 M0 (pm_Pi Post) below args s rm_X10_fresh.cells rm_X10_fresh.slots) (F0 m 11 ls []) := by
  have hx := E.1
  have hb := E.2.1
  have hown := E.2.2.2.1
  have hts := E.2.2.2.2.1
  unfold w_X10_fresh_11 at hw
  refine lv_iconst (v := (0 : Int32)) hx hb dX10_fresh_11 (by decide) ?_
  exact pm_zret E hret hI hX rfl ⟨_, rfl, hw⟩ (by decide) (by decide) dX10_fresh_12
set_option maxHeartbeats 4000000 in
set_option maxRecDepth 100000 in
theorem k_X10_fresh {l : Launch} {G : pm_G} {H0 : Heap} {th : Nat} {a1 : Int32} {M : pm_M} {Post : Int32 → pm_M → Prop} (t_th : pm_is M th 9) (hw : w_X10_fresh th a1 M Post) : pm_C l G H0 yX10_fresh cX10_fresh 2 (some .boolean) rm_X10_fresh [.ref (H0.size + th), .int a1] M (pm_Pi Post) := by
  refine pm_start (by decide +kernel) (Nat.le_of_ble_eq_true rfl) ?_
  intro p e s m args below meth c H ls E hret hnm hI hl
  have hX : pm_X M M := pm_X.rf
  have hl : lv_has ls 2 [(0, .ref (H0.size + th)), (1, .int a1)] := hl
  have hx := E.1
  have hb := E.2.1
  have hown := E.2.2.2.1
  have hts := E.2.2.2.2.1
  unfold w_X10_fresh at hw
  refine lv_iload_n hx hb dX10_fresh_0 rfl (lv_at hl 1 rfl) ?_
  refine lv_iconst (v := (1 : Int32)) hx hb dX10_fresh_1 (by decide) ?_
  refine lv_icmp_lt (tgt := 11) hx hb dX10_fresh_2 (by decide) (fun h_1 => ?_) (fun h_1 => ?_)
  · replace hw := hw.1 h_1
    exact c_X10_fresh_11 E hret hX hI (lv_sub hl [] rfl) hw
  · replace hw := hw.2 h_1
    refine lv_iload_n hx hb dX10_fresh_5 rfl (lv_at hl 1 rfl) ?_
    refine lv_bipush (v := (12 : Int32)) hx hb dX10_fresh_6 (by decide) ?_
    refine lv_icmp_le (tgt := 13) hx hb dX10_fresh_8 (by decide) (fun h_2 => ?_) (fun h_2 => ?_)
    · replace hw := hw.1 h_2
      refine lv_aload_n hx hb dX10_fresh_13 rfl (lv_at hl 0 rfl) ?_
      refine lv_iload_n hx hb dX10_fresh_14 rfl (lv_at hl 1 rfl) ?_
      refine pm_callV (As := [.int a1]) (rest := []) 1 E hI (k_X10_anew t_th hw) t_th (by decide) rfl kc_X10_anew kl_X10_81 km_X10_anew ks_X10_anew ki_X10 (by decide +kernel) ⟨by decide, by decide⟩ rfl hl.1 rfl (by first | exact Nat.le_of_ble_eq_true rfl | (simp only [List.map, pm_rf_cat]; exact Nat.le_of_ble_eq_true rfl)) dX10_fresh_15 ⟨by decide, by decide⟩ (fun r9 M_3 H locs hp hX1 hI => ?_)
      clear hw
      obtain ⟨rfl, hw⟩ := hp
      replace t_th := t_th.x hX1
      replace hX := hX.tr hX1
      refine pm_nrm (cells' := 0) (slots' := 0) (g2 := F0 m 18 ls []) rfl rfl rfl ?_
      refine lv_iconst (v := (1 : Int32)) hx hb dX10_fresh_18 (by decide) ?_
      exact pm_zret E hret hI hX rfl ⟨_, rfl, hw⟩ (by decide) (by decide) dX10_fresh_19
    · replace hw := hw.2 h_2
      exact c_X10_fresh_11 E hret hX hI (lv_sub hl [] rfl) hw
set_option maxHeartbeats 4000000 in
set_option maxRecDepth 100000 in
theorem c_X10_isThing_17 {p : Program} {l : Launch} {e : Env} {s : State} {m : MethodId} {args : Array Value} {below : List Frame} {meth : Method} {c : Code} {G : pm_G} {H0 : Heap} {Post : Int32 → Prop} {s0 : Int32} {M : pm_M} (E : pm_E G p s m args meth c cX10_isThing 2 RX10) (hret : meth.sig.returnType = (some .boolean)) {H : Heap} {locs : List Loc} {ls : Array Slot} (hI : pm_I G H0 M H locs) (hl : lv_has ls 2 []) (hw : w_X10_isThing_17 Post s0 M) : W p l e rm_X10_isThing s m args below meth c H locs 0 0 (pm_Z G H0 M (pm_Pi (fun r9 M9 => M = M9 ∧ Post r9)) below args s rm_X10_isThing.cells rm_X10_isThing.slots) (F0 m 17 ls [.int s0]) := by
  have hx := E.1
  have hb := E.2.1
  have hown := E.2.2.2.1
  have hts := E.2.2.2.2.1
  unfold w_X10_isThing_17 at hw
  exact pm_zret E hret hI pm_X.rf (pm_nb hw.1) ⟨_, rfl, rfl, hw.2⟩ (by decide) (by decide) dX10_isThing_17
set_option maxHeartbeats 4000000 in
set_option maxRecDepth 100000 in
theorem c_X10_isThing_16 {p : Program} {l : Launch} {e : Env} {s : State} {m : MethodId} {args : Array Value} {below : List Frame} {meth : Method} {c : Code} {G : pm_G} {H0 : Heap} {Post : Int32 → Prop} {M : pm_M} (E : pm_E G p s m args meth c cX10_isThing 2 RX10) (hret : meth.sig.returnType = (some .boolean)) {H : Heap} {locs : List Loc} {ls : Array Slot} (hI : pm_I G H0 M H locs) (hl : lv_has ls 2 []) (hw : w_X10_isThing_16 Post M) : W p l e rm_X10_isThing s m args below meth c H locs 0 0 (pm_Z G H0 M (pm_Pi (fun r9 M9 => M = M9 ∧ Post r9)) below args s rm_X10_isThing.cells rm_X10_isThing.slots) (F0 m 16 ls []) := by
  have hx := E.1
  have hb := E.2.1
  have hown := E.2.2.2.1
  have hts := E.2.2.2.2.1
  unfold w_X10_isThing_16 at hw
  refine lv_iconst (v := (0 : Int32)) hx hb dX10_isThing_16 (by decide) ?_
  exact c_X10_isThing_17 E hret hI (lv_sub hl [] rfl) hw
set_option maxHeartbeats 4000000 in
set_option maxRecDepth 100000 in
theorem k_X10_isThing {l : Launch} {G : pm_G} {H0 : Heap} {th : Nat} {a1 : Int32} {M : pm_M} {Post : Int32 → Prop} (t_th : pm_is M th 9) (hw : w_X10_isThing th a1 M Post) : pm_C l G H0 yX10_isThing cX10_isThing 2 (some .boolean) rm_X10_isThing [.ref (H0.size + th), .int a1] M (pm_Pi (fun r9 M9 => M = M9 ∧ Post r9)) := by
  refine pm_start (by decide +kernel) (Nat.le_of_ble_eq_true rfl) ?_
  intro p e s m args below meth c H ls E hret hnm hI hl
  have hl : lv_has ls 2 [(0, .ref (H0.size + th)), (1, .int a1)] := hl
  have hx := E.1
  have hb := E.2.1
  have hown := E.2.2.2.1
  have hts := E.2.2.2.2.1
  unfold w_X10_isThing at hw
  refine lv_iload_n hx hb dX10_isThing_0 rfl (lv_at hl 1 rfl) ?_
  refine lv_if_lt (tgt := 16) hx hb dX10_isThing_1 (by decide) (fun h_1 => ?_) (fun h_1 => ?_)
  · replace hw := hw.1 h_1
    exact c_X10_isThing_16 E hret hI (lv_sub hl [] rfl) hw
  · replace hw := hw.2 h_1
    refine lv_iload_n hx hb dX10_isThing_4 rfl (lv_at hl 1 rfl) ?_
    refine lv_aload_n hx hb dX10_isThing_5 rfl (lv_at hl 0 rfl) ?_
    refine gf_X10_7 E hI t_th dX10_isThing_6 ?_
    refine lv_icmp_ge (tgt := 16) hx hb dX10_isThing_9 (by decide) (fun h_2 => ?_) (fun h_2 => ?_)
    · replace hw := hw.1 h_2
      exact c_X10_isThing_16 E hret hI (lv_sub hl [] rfl) hw
    · replace hw := hw.2 h_2
      refine lv_iconst (v := (1 : Int32)) hx hb dX10_isThing_12 (by decide) ?_
      refine lv_goto (tgt := 17) hx hb dX10_isThing_13 (by decide) ?_
      exact c_X10_isThing_17 E hret hI (lv_sub hl [] rfl) hw
set_option maxHeartbeats 4000000 in
set_option maxRecDepth 100000 in
theorem c_X10_isSet_17 {p : Program} {l : Launch} {e : Env} {s : State} {m : MethodId} {args : Array Value} {below : List Frame} {meth : Method} {c : Code} {G : pm_G} {H0 : Heap} {Post : Int32 → Prop} {s0 : Int32} {M : pm_M} (E : pm_E G p s m args meth c cX10_isSet 2 RX10) (hret : meth.sig.returnType = (some .boolean)) {H : Heap} {locs : List Loc} {ls : Array Slot} (hI : pm_I G H0 M H locs) (hl : lv_has ls 2 []) (hw : w_X10_isSet_17 Post s0 M) : W p l e rm_X10_isSet s m args below meth c H locs 0 0 (pm_Z G H0 M (pm_Pi (fun r9 M9 => M = M9 ∧ Post r9)) below args s rm_X10_isSet.cells rm_X10_isSet.slots) (F0 m 17 ls [.int s0]) := by
  have hx := E.1
  have hb := E.2.1
  have hown := E.2.2.2.1
  have hts := E.2.2.2.2.1
  unfold w_X10_isSet_17 at hw
  exact pm_zret E hret hI pm_X.rf (pm_nb hw.1) ⟨_, rfl, rfl, hw.2⟩ (by decide) (by decide) dX10_isSet_17
set_option maxHeartbeats 4000000 in
set_option maxRecDepth 100000 in
theorem c_X10_isSet_16 {p : Program} {l : Launch} {e : Env} {s : State} {m : MethodId} {args : Array Value} {below : List Frame} {meth : Method} {c : Code} {G : pm_G} {H0 : Heap} {Post : Int32 → Prop} {M : pm_M} (E : pm_E G p s m args meth c cX10_isSet 2 RX10) (hret : meth.sig.returnType = (some .boolean)) {H : Heap} {locs : List Loc} {ls : Array Slot} (hI : pm_I G H0 M H locs) (hl : lv_has ls 2 []) (hw : w_X10_isSet_16 Post M) : W p l e rm_X10_isSet s m args below meth c H locs 0 0 (pm_Z G H0 M (pm_Pi (fun r9 M9 => M = M9 ∧ Post r9)) below args s rm_X10_isSet.cells rm_X10_isSet.slots) (F0 m 16 ls []) := by
  have hx := E.1
  have hb := E.2.1
  have hown := E.2.2.2.1
  have hts := E.2.2.2.2.1
  unfold w_X10_isSet_16 at hw
  refine lv_iconst (v := (0 : Int32)) hx hb dX10_isSet_16 (by decide) ?_
  exact c_X10_isSet_17 E hret hI (lv_sub hl [] rfl) hw
set_option maxHeartbeats 4000000 in
set_option maxRecDepth 100000 in
theorem k_X10_isSet {l : Launch} {G : pm_G} {H0 : Heap} {th : Nat} {a1 : Int32} {M : pm_M} {Post : Int32 → Prop} (t_th : pm_is M th 9) (hw : w_X10_isSet th a1 M Post) : pm_C l G H0 yX10_isSet cX10_isSet 2 (some .boolean) rm_X10_isSet [.ref (H0.size + th), .int a1] M (pm_Pi (fun r9 M9 => M = M9 ∧ Post r9)) := by
  refine pm_start (by decide +kernel) (Nat.le_of_ble_eq_true rfl) ?_
  intro p e s m args below meth c H ls E hret hnm hI hl
  have hl : lv_has ls 2 [(0, .ref (H0.size + th)), (1, .int a1)] := hl
  have hx := E.1
  have hb := E.2.1
  have hown := E.2.2.2.1
  have hts := E.2.2.2.2.1
  unfold w_X10_isSet at hw
  refine lv_iload_n hx hb dX10_isSet_0 rfl (lv_at hl 1 rfl) ?_
  refine lv_if_lt (tgt := 16) hx hb dX10_isSet_1 (by decide) (fun h_1 => ?_) (fun h_1 => ?_)
  · replace hw := hw.1 h_1
    exact c_X10_isSet_16 E hret hI (lv_sub hl [] rfl) hw
  · replace hw := hw.2 h_1
    refine lv_iload_n hx hb dX10_isSet_4 rfl (lv_at hl 1 rfl) ?_
    refine lv_aload_n hx hb dX10_isSet_5 rfl (lv_at hl 0 rfl) ?_
    refine gf_X10_13 E hI t_th dX10_isSet_6 ?_
    refine lv_icmp_gt (tgt := 16) hx hb dX10_isSet_9 (by decide) (fun h_2 => ?_) (fun h_2 => ?_)
    · replace hw := hw.1 h_2
      exact c_X10_isSet_16 E hret hI (lv_sub hl [] rfl) hw
    · replace hw := hw.2 h_2
      refine lv_iconst (v := (1 : Int32)) hx hb dX10_isSet_12 (by decide) ?_
      refine lv_goto (tgt := 17) hx hb dX10_isSet_13 (by decide) ?_
      exact c_X10_isSet_17 E hret hI (lv_sub hl [] rfl) hw
set_option maxHeartbeats 4000000 in
set_option maxRecDepth 100000 in
theorem c_X10_isRule_17 {p : Program} {l : Launch} {e : Env} {s : State} {m : MethodId} {args : Array Value} {below : List Frame} {meth : Method} {c : Code} {G : pm_G} {H0 : Heap} {Post : Int32 → Prop} {s0 : Int32} {M : pm_M} (E : pm_E G p s m args meth c cX10_isRule 2 RX10) (hret : meth.sig.returnType = (some .boolean)) {H : Heap} {locs : List Loc} {ls : Array Slot} (hI : pm_I G H0 M H locs) (hl : lv_has ls 2 []) (hw : w_X10_isRule_17 Post s0 M) : W p l e rm_X10_isRule s m args below meth c H locs 0 0 (pm_Z G H0 M (pm_Pi (fun r9 M9 => M = M9 ∧ Post r9)) below args s rm_X10_isRule.cells rm_X10_isRule.slots) (F0 m 17 ls [.int s0]) := by
  have hx := E.1
  have hb := E.2.1
  have hown := E.2.2.2.1
  have hts := E.2.2.2.2.1
  unfold w_X10_isRule_17 at hw
  exact pm_zret E hret hI pm_X.rf (pm_nb hw.1) ⟨_, rfl, rfl, hw.2⟩ (by decide) (by decide) dX10_isRule_17
set_option maxHeartbeats 4000000 in
set_option maxRecDepth 100000 in
theorem c_X10_isRule_16 {p : Program} {l : Launch} {e : Env} {s : State} {m : MethodId} {args : Array Value} {below : List Frame} {meth : Method} {c : Code} {G : pm_G} {H0 : Heap} {Post : Int32 → Prop} {M : pm_M} (E : pm_E G p s m args meth c cX10_isRule 2 RX10) (hret : meth.sig.returnType = (some .boolean)) {H : Heap} {locs : List Loc} {ls : Array Slot} (hI : pm_I G H0 M H locs) (hl : lv_has ls 2 []) (hw : w_X10_isRule_16 Post M) : W p l e rm_X10_isRule s m args below meth c H locs 0 0 (pm_Z G H0 M (pm_Pi (fun r9 M9 => M = M9 ∧ Post r9)) below args s rm_X10_isRule.cells rm_X10_isRule.slots) (F0 m 16 ls []) := by
  have hx := E.1
  have hb := E.2.1
  have hown := E.2.2.2.1
  have hts := E.2.2.2.2.1
  unfold w_X10_isRule_16 at hw
  refine lv_iconst (v := (0 : Int32)) hx hb dX10_isRule_16 (by decide) ?_
  exact c_X10_isRule_17 E hret hI (lv_sub hl [] rfl) hw
set_option maxHeartbeats 4000000 in
set_option maxRecDepth 100000 in
theorem k_X10_isRule {l : Launch} {G : pm_G} {H0 : Heap} {th : Nat} {a1 : Int32} {M : pm_M} {Post : Int32 → Prop} (t_th : pm_is M th 9) (hw : w_X10_isRule th a1 M Post) : pm_C l G H0 yX10_isRule cX10_isRule 2 (some .boolean) rm_X10_isRule [.ref (H0.size + th), .int a1] M (pm_Pi (fun r9 M9 => M = M9 ∧ Post r9)) := by
  refine pm_start (by decide +kernel) (Nat.le_of_ble_eq_true rfl) ?_
  intro p e s m args below meth c H ls E hret hnm hI hl
  have hl : lv_has ls 2 [(0, .ref (H0.size + th)), (1, .int a1)] := hl
  have hx := E.1
  have hb := E.2.1
  have hown := E.2.2.2.1
  have hts := E.2.2.2.2.1
  unfold w_X10_isRule at hw
  refine lv_iload_n hx hb dX10_isRule_0 rfl (lv_at hl 1 rfl) ?_
  refine lv_if_lt (tgt := 16) hx hb dX10_isRule_1 (by decide) (fun h_1 => ?_) (fun h_1 => ?_)
  · replace hw := hw.1 h_1
    exact c_X10_isRule_16 E hret hI (lv_sub hl [] rfl) hw
  · replace hw := hw.2 h_1
    refine lv_iload_n hx hb dX10_isRule_4 rfl (lv_at hl 1 rfl) ?_
    refine lv_aload_n hx hb dX10_isRule_5 rfl (lv_at hl 0 rfl) ?_
    refine gf_X10_85 E hI t_th dX10_isRule_6 ?_
    refine lv_icmp_ge (tgt := 16) hx hb dX10_isRule_9 (by decide) (fun h_2 => ?_) (fun h_2 => ?_)
    · replace hw := hw.1 h_2
      exact c_X10_isRule_16 E hret hI (lv_sub hl [] rfl) hw
    · replace hw := hw.2 h_2
      refine lv_iconst (v := (1 : Int32)) hx hb dX10_isRule_12 (by decide) ?_
      refine lv_goto (tgt := 17) hx hb dX10_isRule_13 (by decide) ?_
      exact c_X10_isRule_17 E hret hI (lv_sub hl [] rfl) hw
set_option maxHeartbeats 4000000 in
set_option maxRecDepth 100000 in
theorem c_X10_weight_18 {p : Program} {l : Launch} {e : Env} {s : State} {m : MethodId} {args : Array Value} {below : List Frame} {meth : Method} {c : Code} {G : pm_G} {H0 : Heap} {M0 : pm_M} {Post : Int32 → pm_M → Prop} {M : pm_M} (E : pm_E G p s m args meth c cX10_weight 4 RX10) (hret : meth.sig.returnType = (some .int)) {H : Heap} {locs : List Loc} {ls : Array Slot} (hX : pm_X M0 M) (hI : pm_I G H0 M H locs) (hl : lv_has ls 4 []) (hw : w_X10_weight_18 Post M) : W p l e rm_X10_weight s m args below meth c H locs 0 0 (pm_Z G H0 M0 (pm_Pi Post) below args s rm_X10_weight.cells rm_X10_weight.slots) (F0 m 18 ls []) := by
  have hx := E.1
  have hb := E.2.1
  have hown := E.2.2.2.1
  have hts := E.2.2.2.2.1
  unfold w_X10_weight_18 at hw
  refine lv_iconst (v := (-1 : Int32)) hx hb dX10_weight_18 (by decide) ?_
  exact pm_iret E hret hI hX ⟨_, rfl, hw⟩ (by decide) (by decide) dX10_weight_19
set_option maxHeartbeats 4000000 in
set_option maxRecDepth 100000 in
theorem k_X10_weight {l : Launch} {G : pm_G} {H0 : Heap} {th : Nat} {a1 : Int32} {a2 : Int32} {M : pm_M} {Post : Int32 → pm_M → Prop} (t_th : pm_is M th 9) (hw : w_X10_weight th a1 a2 M Post) : pm_C l G H0 yX10_weight cX10_weight 4 (some .int) rm_X10_weight [.ref (H0.size + th), .int a1, .int a2] M (pm_Pi Post) := by
  refine pm_start (by decide +kernel) (Nat.le_of_ble_eq_true rfl) ?_
  intro p e s m args below meth c H ls E hret hnm hI hl
  have hX : pm_X M M := pm_X.rf
  have hl : lv_has ls 4 [(0, .ref (H0.size + th)), (1, .int a1), (2, .int a2)] := hl
  have hx := E.1
  have hb := E.2.1
  have hown := E.2.2.2.1
  have hts := E.2.2.2.2.1
  unfold w_X10_weight at hw
  refine lv_aload_n hx hb dX10_weight_0 rfl (lv_at hl 0 rfl) ?_
  refine lv_iload_n hx hb dX10_weight_1 rfl (lv_at hl 1 rfl) ?_
  refine pm_callV (As := [.int a1]) (rest := []) 1 E hI (k_X10_isThing t_th hw) t_th (by decide) rfl kc_X10_isThing kl_X10_88 km_X10_isThing ks_X10_isThing ki_X10 (by decide +kernel) ⟨by decide, by decide⟩ rfl hl.1 rfl (by first | exact Nat.le_of_ble_eq_true rfl | (simp only [List.map, pm_rf_cat]; exact Nat.le_of_ble_eq_true rfl)) dX10_weight_2 ⟨by decide, by decide⟩ (fun r9 M9 H locs hp hX1 hI => ?_)
  clear hw
  obtain ⟨r_1, rfl, rfl, hw⟩ := hp
  refine pm_nrm (cells' := 0) (slots' := 0) (g2 := F0 m 5 ls [.int r_1]) rfl rfl rfl ?_
  refine lv_if_eq (tgt := 18) hx hb dX10_weight_5 (by decide) (fun h_2 => ?_) (fun h_2 => ?_)
  · replace hw := hw.1 h_2
    exact c_X10_weight_18 E hret hX hI (lv_sub hl [] rfl) hw
  · replace hw := hw.2 h_2
    refine lv_iload_n hx hb dX10_weight_8 rfl (lv_at hl 2 rfl) ?_
    refine lv_if_lt (tgt := 18) hx hb dX10_weight_9 (by decide) (fun h_3 => ?_) (fun h_3 => ?_)
    · replace hw := hw.1 h_3
      exact c_X10_weight_18 E hret hX hI (lv_sub hl [] rfl) hw
    · replace hw := hw.2 h_3
      refine lv_iload_n hx hb dX10_weight_12 rfl (lv_at hl 2 rfl) ?_
      refine lv_ldc (v := (1000000 : Int32)) hx hb hown (hts _ kl_X10_92) dX10_weight_13 ?_
      refine lv_icmp_le (tgt := 20) hx hb dX10_weight_15 (by decide) (fun h_4 => ?_) (fun h_4 => ?_)
      · replace hw := hw.1 h_4
        refine lv_aload_n hx hb dX10_weight_20 rfl (lv_at hl 0 rfl) ?_
        obtain ⟨q_5, e_q_5, hw⟩ := hw
        refine gf_X10_16 E hI t_th dX10_weight_21 e_q_5 (fun t_q_5 => ?_)
        refine lv_iload_n hx hb dX10_weight_24 rfl (lv_at hl 1 rfl) ?_
        obtain ⟨h_6, hw⟩ := hw
        refine pm_iald E hI t_q_5 h_6 dX10_weight_25 ?_
        refine lv_topi (fun x_7 e_x_7 => ?_)
        replace hw := hw x_7 e_x_7
        refine lv_istore_n (lv' := [(3, .int x_7), (0, .ref (H0.size + th)), (1, .int a1), (2, .int a2)]) hx hb dX10_weight_26 rfl hl (by decide) rfl (fun ls hl_8 => ?_)
        refine lv_aload_n hx hb dX10_weight_27 rfl (lv_at hl_8 1 rfl) ?_
        refine gf_X10_16 E hI t_th dX10_weight_28 e_q_5 (fun _ => ?_)
        refine lv_iload_n hx hb dX10_weight_31 rfl (lv_at hl_8 2 rfl) ?_
        refine lv_iload_n hx hb dX10_weight_32 rfl (lv_at hl_8 3 rfl) ?_
        obtain ⟨h_9, hw⟩ := hw
        refine ps_iast E hI t_q_5 h_9 dX10_weight_33 (fun H locs M_10 e_M_10 hX1 hI => ?_)
        replace hw := hw M_10 e_M_10
        replace t_th := t_th.x hX1
        replace hX := hX.tr hX1
        refine lv_iload_n hx hb dX10_weight_34 rfl (lv_at hl_8 0 rfl) ?_
        exact pm_iret E hret hI hX ⟨_, rfl, hw⟩ (by decide) (by decide) dX10_weight_35
      · replace hw := hw.2 h_4
        exact c_X10_weight_18 E hret hX hI (lv_sub hl [] rfl) hw
set_option maxHeartbeats 4000000 in
set_option maxRecDepth 100000 in
theorem c_X10_isSlot_15 {p : Program} {l : Launch} {e : Env} {s : State} {m : MethodId} {args : Array Value} {below : List Frame} {meth : Method} {c : Code} {G : pm_G} {H0 : Heap} {Post : Int32 → Prop} {s0 : Int32} {M : pm_M} (E : pm_E G p s m args meth c cX10_isSlot 1 RX10) (hret : meth.sig.returnType = (some .boolean)) {H : Heap} {locs : List Loc} {ls : Array Slot} (hI : pm_I G H0 M H locs) (hl : lv_has ls 1 []) (hw : w_X10_isSlot_15 Post s0 M) : W p l e rm_X10_isSlot s m args below meth c H locs 0 0 (pm_Z G H0 M (pm_Pi (fun r9 M9 => M = M9 ∧ Post r9)) below args s rm_X10_isSlot.cells rm_X10_isSlot.slots) (F0 m 15 ls [.int s0]) := by
  have hx := E.1
  have hb := E.2.1
  have hown := E.2.2.2.1
  have hts := E.2.2.2.2.1
  unfold w_X10_isSlot_15 at hw
  exact pm_zret E hret hI pm_X.rf (pm_nb hw.1) ⟨_, rfl, rfl, hw.2⟩ (by decide) (by decide) dX10_isSlot_15
set_option maxHeartbeats 4000000 in
set_option maxRecDepth 100000 in
theorem c_X10_isSlot_14 {p : Program} {l : Launch} {e : Env} {s : State} {m : MethodId} {args : Array Value} {below : List Frame} {meth : Method} {c : Code} {G : pm_G} {H0 : Heap} {Post : Int32 → Prop} {M : pm_M} (E : pm_E G p s m args meth c cX10_isSlot 1 RX10) (hret : meth.sig.returnType = (some .boolean)) {H : Heap} {locs : List Loc} {ls : Array Slot} (hI : pm_I G H0 M H locs) (hl : lv_has ls 1 []) (hw : w_X10_isSlot_14 Post M) : W p l e rm_X10_isSlot s m args below meth c H locs 0 0 (pm_Z G H0 M (pm_Pi (fun r9 M9 => M = M9 ∧ Post r9)) below args s rm_X10_isSlot.cells rm_X10_isSlot.slots) (F0 m 14 ls []) := by
  have hx := E.1
  have hb := E.2.1
  have hown := E.2.2.2.1
  have hts := E.2.2.2.2.1
  unfold w_X10_isSlot_14 at hw
  refine lv_iconst (v := (0 : Int32)) hx hb dX10_isSlot_14 (by decide) ?_
  exact c_X10_isSlot_15 E hret hI (lv_sub hl [] rfl) hw
set_option maxHeartbeats 4000000 in
set_option maxRecDepth 100000 in
theorem k_X10_isSlot {l : Launch} {G : pm_G} {H0 : Heap} {a0 : Int32} {M : pm_M} {Post : Int32 → Prop} (hw : w_X10_isSlot a0 M Post) : pm_C l G H0 yX10_isSlot cX10_isSlot 1 (some .boolean) rm_X10_isSlot [.int a0] M (pm_Pi (fun r9 M9 => M = M9 ∧ Post r9)) := by
  refine pm_start (by decide +kernel) (Nat.le_of_ble_eq_true rfl) ?_
  intro p e s m args below meth c H ls E hret hnm hI hl
  have hl : lv_has ls 1 [(0, .int a0)] := hl
  have hx := E.1
  have hb := E.2.1
  have hown := E.2.2.2.1
  have hts := E.2.2.2.2.1
  unfold w_X10_isSlot at hw
  refine lv_iload_n hx hb dX10_isSlot_0 rfl (lv_at hl 0 rfl) ?_
  refine lv_if_lt (tgt := 14) hx hb dX10_isSlot_1 (by decide) (fun h_1 => ?_) (fun h_1 => ?_)
  · replace hw := hw.1 h_1
    exact c_X10_isSlot_14 E hret hI (lv_sub hl [] rfl) hw
  · replace hw := hw.2 h_1
    refine lv_iload_n hx hb dX10_isSlot_4 rfl (lv_at hl 0 rfl) ?_
    refine lv_bipush (v := (9 : Int32)) hx hb dX10_isSlot_5 (by decide) ?_
    refine lv_icmp_gt (tgt := 14) hx hb dX10_isSlot_7 (by decide) (fun h_2 => ?_) (fun h_2 => ?_)
    · replace hw := hw.1 h_2
      exact c_X10_isSlot_14 E hret hI (lv_sub hl [] rfl) hw
    · replace hw := hw.2 h_2
      refine lv_iconst (v := (1 : Int32)) hx hb dX10_isSlot_10 (by decide) ?_
      refine lv_goto (tgt := 15) hx hb dX10_isSlot_11 (by decide) ?_
      exact c_X10_isSlot_15 E hret hI (lv_sub hl [] rfl) hw
set_option maxHeartbeats 4000000 in
set_option maxRecDepth 100000 in
theorem c_X10_row_52 {p : Program} {l : Launch} {e : Env} {s : State} {m : MethodId} {args : Array Value} {below : List Frame} {meth : Method} {c : Code} {G : pm_G} {H0 : Heap} {M0 : pm_M} {Post : Int32 → pm_M → Prop} {v0 : Nat} {v1 : Int32} {v3 : Int32} (E : pm_E G p s m args meth c cX10_row 5 RX10) (hret : meth.sig.returnType = (some .int)) : ∀ (n : Nat) (v4 : Int32) (M : pm_M) (H : Heap) (locs : List Loc) (ls : Array Slot), pm_X M0 M → pm_I G H0 M H locs → (pm_is M v0 9) → lv_has ls 5 [(0, .ref (H0.size + v0)), (1, .int v1), (3, .int v3), (4, .int v4)] → w_X10_row_52 Post v0 v1 v3 n v4 M → W p l e rm_X10_row s m args below meth c H locs 0 0 (pm_Z G H0 M0 (pm_Pi Post) below args s rm_X10_row.cells rm_X10_row.slots) (F0 m 52 ls []) := by
  have hx := E.1
  have hb := E.2.1
  have hown := E.2.2.2.1
  have hts := E.2.2.2.2.1
  intro n
  induction n with
  | zero =>
    intro v4 M H locs ls hX hI t_v0 hl hw
    unfold w_X10_row_52 at hw
    exact hw.elim
  | succ n ih =>
    intro v4 M H locs ls hX hI t_v0 hl hw
    unfold w_X10_row_52 at hw
    refine lv_iload hx hb dX10_row_52 (lv_at hl 3 rfl) ?_
    refine lv_iload_n hx hb dX10_row_54 rfl (lv_at hl 2 rfl) ?_
    refine lv_icmp_ge (tgt := 78) hx hb dX10_row_55 (by decide) (fun h_1 => ?_) (fun h_1 => ?_)
    · replace hw := hw.1 h_1
      refine lv_iconst (v := (0 : Int32)) hx hb dX10_row_78 (by decide) ?_
      exact pm_iret E hret hI hX ⟨_, rfl, hw⟩ (by decide) (by decide) dX10_row_79
    · replace hw := hw.2 h_1
      refine lv_aload_n hx hb dX10_row_58 rfl (lv_at hl 0 rfl) ?_
      obtain ⟨q_2, e_q_2, hw⟩ := hw
      refine gf_X10_50 E hI t_v0 dX10_row_59 e_q_2 (fun t_q_2 => ?_)
      refine lv_sipush (v := (200 : Int32)) hx hb dX10_row_62 (by decide) ?_
      refine lv_iload_n hx hb dX10_row_65 rfl (lv_at hl 1 rfl) ?_
      refine lv_imul hx hb dX10_row_66 ?_
      refine lv_iload hx hb dX10_row_67 (lv_at hl 3 rfl) ?_
      refine lv_iadd hx hb dX10_row_69 ?_
      refine lv_lconst (v := (0 : Int64)) hx hb dX10_row_70 (by decide) ?_
      obtain ⟨h_3, hw⟩ := hw
      refine ps_last E hI t_q_2 h_3 dX10_row_71 (fun H locs M_4 e_M_4 hX1 hI => ?_)
      replace hw := hw M_4 e_M_4
      replace t_v0 := t_v0.x hX1
      replace hX := hX.tr hX1
      obtain ⟨x_5, e_x_5⟩ : ∃ z : Int32, z = v4 + (1 : Int32) := ⟨_, rfl⟩
      refine lv_iinc (v := x_5) (lv' := [(4, .int x_5), (0, .ref (H0.size + v0)), (1, .int v1), (3, .int v3)]) hx hb dX10_row_72 hl (k := 3) rfl (by rw [e_x_5]; rfl) (by decide) rfl (fun ls hl_6 => ?_)
      replace hw := hw x_5 e_x_5
      refine lv_goto (tgt := 52) hx hb dX10_row_75 (by decide) ?_
      exact ih _ _ _ _ _ hX hI t_v0 (lv_sub hl_6 [1, 2, 3, 0] rfl) hw
set_option maxHeartbeats 4000000 in
set_option maxRecDepth 100000 in
theorem c_X10_row_23 {p : Program} {l : Launch} {e : Env} {s : State} {m : MethodId} {args : Array Value} {below : List Frame} {meth : Method} {c : Code} {G : pm_G} {H0 : Heap} {M0 : pm_M} {Post : Int32 → pm_M → Prop} {M : pm_M} (E : pm_E G p s m args meth c cX10_row 5 RX10) (hret : meth.sig.returnType = (some .int)) {H : Heap} {locs : List Loc} {ls : Array Slot} (hX : pm_X M0 M) (hI : pm_I G H0 M H locs) (hl : lv_has ls 5 []) (hw : w_X10_row_23 Post M) : W p l e rm_X10_row s m args below meth c H locs 0 0 (pm_Z G H0 M0 (pm_Pi Post) below args s rm_X10_row.cells rm_X10_row.slots) (F0 m 23 ls []) := by
  have hx := E.1
  have hb := E.2.1
  have hown := E.2.2.2.1
  have hts := E.2.2.2.2.1
  unfold w_X10_row_23 at hw
  refine lv_bipush (v := (-2 : Int32)) hx hb dX10_row_23 (by decide) ?_
  exact pm_iret E hret hI hX ⟨_, rfl, hw⟩ (by decide) (by decide) dX10_row_25
set_option maxHeartbeats 4000000 in
set_option maxRecDepth 100000 in
theorem k_X10_row {l : Launch} {G : pm_G} {H0 : Heap} {th : Nat} {a1 : Int32} {a2 : Int32} {a3 : Int32} {M : pm_M} {Post : Int32 → pm_M → Prop} (t_th : pm_is M th 9) (hw : w_X10_row th a1 a2 a3 M Post) : pm_C l G H0 yX10_row cX10_row 5 (some .int) rm_X10_row [.ref (H0.size + th), .int a1, .int a2, .int a3] M (pm_Pi Post) := by
  refine pm_start (by decide +kernel) (Nat.le_of_ble_eq_true rfl) ?_
  intro p e s m args below meth c H ls E hret hnm hI hl
  have hX : pm_X M M := pm_X.rf
  have hl : lv_has ls 5 [(0, .ref (H0.size + th)), (1, .int a1), (2, .int a2), (3, .int a3)] := hl
  have hx := E.1
  have hb := E.2.1
  have hown := E.2.2.2.1
  have hts := E.2.2.2.2.1
  unfold w_X10_row at hw
  refine lv_iload_n hx hb dX10_row_0 rfl (lv_at hl 1 rfl) ?_
  refine pm_callS (As := [.int a1]) (rest := []) 1 E hI (k_X10_isSlot hw) kc_X10_isSlot kl_X10_93 kt_X10_isSlot ki_X10 (by decide +kernel) ⟨by decide, by decide⟩ rfl hl.1 rfl (by first | exact Nat.le_of_ble_eq_true rfl | (simp only [List.map, pm_rf_cat]; exact Nat.le_of_ble_eq_true rfl)) dX10_row_1 ⟨by decide, by decide⟩ (fun r9 M9 H locs hp hX1 hI => ?_)
  clear hw
  obtain ⟨r_1, rfl, rfl, hw⟩ := hp
  refine pm_nrm (cells' := 0) (slots' := 0) (g2 := F0 m 4 ls [.int r_1]) rfl rfl rfl ?_
  refine lv_if_eq (tgt := 23) hx hb dX10_row_4 (by decide) (fun h_2 => ?_) (fun h_2 => ?_)
  · replace hw := hw.1 h_2
    exact c_X10_row_23 E hret hX hI (lv_sub hl [] rfl) hw
  · replace hw := hw.2 h_2
    refine lv_iload_n hx hb dX10_row_7 rfl (lv_at hl 2 rfl) ?_
    refine lv_if_lt (tgt := 23) hx hb dX10_row_8 (by decide) (fun h_3 => ?_) (fun h_3 => ?_)
    · replace hw := hw.1 h_3
      exact c_X10_row_23 E hret hX hI (lv_sub hl [] rfl) hw
    · replace hw := hw.2 h_3
      refine lv_iload_n hx hb dX10_row_11 rfl (lv_at hl 2 rfl) ?_
      refine lv_iconst (v := (3 : Int32)) hx hb dX10_row_12 (by decide) ?_
      refine lv_icmp_gt (tgt := 23) hx hb dX10_row_13 (by decide) (fun h_4 => ?_) (fun h_4 => ?_)
      · replace hw := hw.1 h_4
        exact c_X10_row_23 E hret hX hI (lv_sub hl [] rfl) hw
      · replace hw := hw.2 h_4
        refine lv_iload_n hx hb dX10_row_16 rfl (lv_at hl 3 rfl) ?_
        refine lv_sipush (v := (200 : Int32)) hx hb dX10_row_17 (by decide) ?_
        refine lv_icmp_le (tgt := 26) hx hb dX10_row_20 (by decide) (fun h_5 => ?_) (fun h_5 => ?_)
        · replace hw := hw.1 h_5
          refine lv_iload_n hx hb dX10_row_26 rfl (lv_at hl 3 rfl) ?_
          refine lv_if_ge (tgt := 33) hx hb dX10_row_27 (by decide) (fun h_6 => ?_) (fun h_6 => ?_)
          · replace hw := hw.1 h_6
            refine lv_aload_n hx hb dX10_row_33 rfl (lv_at hl 0 rfl) ?_
            obtain ⟨q_7, e_q_7, hw⟩ := hw
            refine gf_X10_44 E hI t_th dX10_row_34 e_q_7 (fun t_q_7 => ?_)
            refine lv_iload_n hx hb dX10_row_37 rfl (lv_at hl 1 rfl) ?_
            refine lv_iload_n hx hb dX10_row_38 rfl (lv_at hl 3 rfl) ?_
            refine lv_iconst (v := (1 : Int32)) hx hb dX10_row_39 (by decide) ?_
            refine lv_iadd hx hb dX10_row_40 ?_
            obtain ⟨h_8, hw⟩ := hw
            refine ps_iast E hI t_q_7 h_8 dX10_row_41 (fun H locs M_9 e_M_9 hX1 hI => ?_)
            replace hw := hw M_9 e_M_9
            replace t_th := t_th.x hX1
            replace hX := hX.tr hX1
            refine lv_aload_n hx hb dX10_row_42 rfl (lv_at hl 0 rfl) ?_
            obtain ⟨q_10, e_q_10, hw⟩ := hw
            refine gf_X10_47 E hI t_th dX10_row_43 e_q_10 (fun t_q_10 => ?_)
            refine lv_iload_n hx hb dX10_row_46 rfl (lv_at hl 1 rfl) ?_
            refine lv_iload_n hx hb dX10_row_47 rfl (lv_at hl 2 rfl) ?_
            obtain ⟨h_11, hw⟩ := hw
            refine ps_iast E hI t_q_10 h_11 dX10_row_48 (fun H locs M_12 e_M_12 hX1 hI => ?_)
            replace hw := hw M_12 e_M_12
            replace t_th := t_th.x hX1
            replace hX := hX.tr hX1
            refine lv_iconst (v := (0 : Int32)) hx hb dX10_row_49 (by decide) ?_
            refine lv_istore (lv' := [(4, .int (0 : Int32)), (0, .ref (H0.size + th)), (1, .int a1), (2, .int a2), (3, .int a3)]) hx hb dX10_row_50 hl (by decide) rfl (fun ls hl_13 => ?_)
            obtain ⟨n_14, hw⟩ := hw
            exact c_X10_row_52 E hret n_14 _ _ _ _ _ hX hI t_th (lv_sub hl_13 [1, 2, 4, 0] rfl) hw
          · replace hw := hw.2 h_6
            refine lv_bipush (v := (-3 : Int32)) hx hb dX10_row_30 (by decide) ?_
            exact pm_iret E hret hI hX ⟨_, rfl, hw⟩ (by decide) (by decide) dX10_row_32
        · replace hw := hw.2 h_5
          exact c_X10_row_23 E hret hX hI (lv_sub hl [] rfl) hw
set_option maxHeartbeats 4000000 in
set_option maxRecDepth 100000 in
theorem c_X10_tear_16 {p : Program} {l : Launch} {e : Env} {s : State} {m : MethodId} {args : Array Value} {below : List Frame} {meth : Method} {c : Code} {G : pm_G} {H0 : Heap} {M0 : pm_M} {Post : Int32 → pm_M → Prop} {M : pm_M} (E : pm_E G p s m args meth c cX10_tear 2 RX10) (hret : meth.sig.returnType = (some .boolean)) {H : Heap} {locs : List Loc} {ls : Array Slot} (hX : pm_X M0 M) (hI : pm_I G H0 M H locs) (hl : lv_has ls 2 []) (hw : w_X10_tear_16 Post M) : W p l e rm_X10_tear s m args below meth c H locs 0 0 (pm_Z G H0 M0 (pm_Pi Post) below args s rm_X10_tear.cells rm_X10_tear.slots) (F0 m 16 ls []) := by
  have hx := E.1
  have hb := E.2.1
  have hown := E.2.2.2.1
  have hts := E.2.2.2.2.1
  unfold w_X10_tear_16 at hw
  refine lv_iconst (v := (0 : Int32)) hx hb dX10_tear_16 (by decide) ?_
  exact pm_zret E hret hI hX rfl ⟨_, rfl, hw⟩ (by decide) (by decide) dX10_tear_17
set_option maxHeartbeats 4000000 in
set_option maxRecDepth 100000 in
theorem k_X10_tear {l : Launch} {G : pm_G} {H0 : Heap} {th : Nat} {a1 : Int32} {M : pm_M} {Post : Int32 → pm_M → Prop} (t_th : pm_is M th 9) (hw : w_X10_tear th a1 M Post) : pm_C l G H0 yX10_tear cX10_tear 2 (some .boolean) rm_X10_tear [.ref (H0.size + th), .int a1] M (pm_Pi Post) := by
  refine pm_start (by decide +kernel) (Nat.le_of_ble_eq_true rfl) ?_
  intro p e s m args below meth c H ls E hret hnm hI hl
  have hX : pm_X M M := pm_X.rf
  have hl : lv_has ls 2 [(0, .ref (H0.size + th)), (1, .int a1)] := hl
  have hx := E.1
  have hb := E.2.1
  have hown := E.2.2.2.1
  have hts := E.2.2.2.2.1
  unfold w_X10_tear at hw
  refine lv_iload_n hx hb dX10_tear_0 rfl (lv_at hl 1 rfl) ?_
  refine pm_callS (As := [.int a1]) (rest := []) 1 E hI (k_X10_isSlot hw) kc_X10_isSlot kl_X10_93 kt_X10_isSlot ki_X10 (by decide +kernel) ⟨by decide, by decide⟩ rfl hl.1 rfl (by first | exact Nat.le_of_ble_eq_true rfl | (simp only [List.map, pm_rf_cat]; exact Nat.le_of_ble_eq_true rfl)) dX10_tear_1 ⟨by decide, by decide⟩ (fun r9 M9 H locs hp hX1 hI => ?_)
  clear hw
  obtain ⟨r_1, rfl, rfl, hw⟩ := hp
  refine pm_nrm (cells' := 0) (slots' := 0) (g2 := F0 m 4 ls [.int r_1]) rfl rfl rfl ?_
  refine lv_if_eq (tgt := 16) hx hb dX10_tear_4 (by decide) (fun h_2 => ?_) (fun h_2 => ?_)
  · replace hw := hw.1 h_2
    exact c_X10_tear_16 E hret hX hI (lv_sub hl [] rfl) hw
  · replace hw := hw.2 h_2
    refine lv_aload_n hx hb dX10_tear_7 rfl (lv_at hl 0 rfl) ?_
    obtain ⟨q_3, e_q_3, hw⟩ := hw
    refine gf_X10_44 E hI t_th dX10_tear_8 e_q_3 (fun t_q_3 => ?_)
    refine lv_iload_n hx hb dX10_tear_11 rfl (lv_at hl 1 rfl) ?_
    obtain ⟨h_4, hw⟩ := hw
    refine pm_iald E hI t_q_3 h_4 dX10_tear_12 ?_
    refine lv_if_ne (tgt := 18) hx hb dX10_tear_13 (by decide) (fun h_5 => ?_) (fun h_5 => ?_)
    · replace hw := hw.1 h_5
      refine lv_aload_n hx hb dX10_tear_18 rfl (lv_at hl 0 rfl) ?_
      refine gf_X10_44 E hI t_th dX10_tear_19 e_q_3 (fun _ => ?_)
      refine lv_iload_n hx hb dX10_tear_22 rfl (lv_at hl 1 rfl) ?_
      refine lv_iconst (v := (0 : Int32)) hx hb dX10_tear_23 (by decide) ?_
      obtain ⟨h_6, hw⟩ := hw
      refine ps_iast E hI t_q_3 h_6 dX10_tear_24 (fun H locs M_7 e_M_7 hX1 hI => ?_)
      replace hw := hw M_7 e_M_7
      replace t_th := t_th.x hX1
      replace hX := hX.tr hX1
      refine lv_iconst (v := (1 : Int32)) hx hb dX10_tear_25 (by decide) ?_
      exact pm_zret E hret hI hX rfl ⟨_, rfl, hw⟩ (by decide) (by decide) dX10_tear_26
    · replace hw := hw.2 h_5
      exact c_X10_tear_16 E hret hX hI (lv_sub hl [] rfl) hw
set_option maxHeartbeats 4000000 in
set_option maxRecDepth 100000 in
theorem c_X10_wrong_46 {p : Program} {l : Launch} {e : Env} {s : State} {m : MethodId} {args : Array Value} {below : List Frame} {meth : Method} {c : Code} {G : pm_G} {H0 : Heap} {Post : Int32 → Prop} {s0 : Int32} {M : pm_M} (E : pm_E G p s m args meth c cX10_wrong 3 RX10) (hret : meth.sig.returnType = (some .int)) {H : Heap} {locs : List Loc} {ls : Array Slot} (hI : pm_I G H0 M H locs) (hl : lv_has ls 3 []) (hw : w_X10_wrong_46 Post s0 M) : W p l e rm_X10_wrong s m args below meth c H locs 0 0 (pm_Z G H0 M (pm_Pi (fun r9 M9 => M = M9 ∧ Post r9)) below args s rm_X10_wrong.cells rm_X10_wrong.slots) (F0 m 46 ls [.int s0]) := by
  have hx := E.1
  have hb := E.2.1
  have hown := E.2.2.2.1
  have hts := E.2.2.2.2.1
  unfold w_X10_wrong_46 at hw
  exact pm_iret E hret hI pm_X.rf ⟨_, rfl, rfl, hw⟩ (by decide) (by decide) dX10_wrong_46
set_option maxHeartbeats 4000000 in
set_option maxRecDepth 100000 in
theorem c_X10_wrong_40 {p : Program} {l : Launch} {e : Env} {s : State} {m : MethodId} {args : Array Value} {below : List Frame} {meth : Method} {c : Code} {G : pm_G} {H0 : Heap} {Post : Int32 → Prop} {M : pm_M} (E : pm_E G p s m args meth c cX10_wrong 3 RX10) (hret : meth.sig.returnType = (some .int)) {H : Heap} {locs : List Loc} {ls : Array Slot} (hI : pm_I G H0 M H locs) (hl : lv_has ls 3 []) (hw : w_X10_wrong_40 Post M) : W p l e rm_X10_wrong s m args below meth c H locs 0 0 (pm_Z G H0 M (pm_Pi (fun r9 M9 => M = M9 ∧ Post r9)) below args s rm_X10_wrong.cells rm_X10_wrong.slots) (F0 m 40 ls []) := by
  have hx := E.1
  have hb := E.2.1
  have hown := E.2.2.2.1
  have hts := E.2.2.2.2.1
  unfold w_X10_wrong_40 at hw
  refine lv_bipush (v := (-6 : Int32)) hx hb dX10_wrong_40 (by decide) ?_
  refine lv_goto (tgt := 46) hx hb dX10_wrong_42 (by decide) ?_
  exact c_X10_wrong_46 E hret hI (lv_sub hl [] rfl) hw
set_option maxHeartbeats 4000000 in
set_option maxRecDepth 100000 in
theorem k_X10_wrong {l : Launch} {G : pm_G} {H0 : Heap} {th : Nat} {a1 : Int32} {a2 : Int32} {M : pm_M} {Post : Int32 → Prop} (t_th : pm_is M th 9) (hw : w_X10_wrong th a1 a2 M Post) : pm_C l G H0 yX10_wrong cX10_wrong 3 (some .int) rm_X10_wrong [.ref (H0.size + th), .int a1, .int a2] M (pm_Pi (fun r9 M9 => M = M9 ∧ Post r9)) := by
  refine pm_start (by decide +kernel) (Nat.le_of_ble_eq_true rfl) ?_
  intro p e s m args below meth c H ls E hret hnm hI hl
  have hl : lv_has ls 3 [(0, .ref (H0.size + th)), (1, .int a1), (2, .int a2)] := hl
  have hx := E.1
  have hb := E.2.1
  have hown := E.2.2.2.1
  have hts := E.2.2.2.2.1
  unfold w_X10_wrong at hw
  refine lv_iload_n hx hb dX10_wrong_0 rfl (lv_at hl 1 rfl) ?_
  refine pm_callS (As := [.int a1]) (rest := []) 1 E hI (k_X10_isSlot hw) kc_X10_isSlot kl_X10_93 kt_X10_isSlot ki_X10 (by decide +kernel) ⟨by decide, by decide⟩ rfl hl.1 rfl (by first | exact Nat.le_of_ble_eq_true rfl | (simp only [List.map, pm_rf_cat]; exact Nat.le_of_ble_eq_true rfl)) dX10_wrong_1 ⟨by decide, by decide⟩ (fun r9 M9 H locs hp hX1 hI => ?_)
  clear hw
  obtain ⟨r_1, rfl, rfl, hw⟩ := hp
  refine pm_nrm (cells' := 0) (slots' := 0) (g2 := F0 m 4 ls [.int r_1]) rfl rfl rfl ?_
  refine lv_if_ne (tgt := 10) hx hb dX10_wrong_4 (by decide) (fun h_2 => ?_) (fun h_2 => ?_)
  · replace hw := hw.1 h_2
    refine lv_aload_n hx hb dX10_wrong_10 rfl (lv_at hl 0 rfl) ?_
    obtain ⟨q_3, e_q_3, hw⟩ := hw
    refine gf_X10_44 E hI t_th dX10_wrong_11 e_q_3 (fun t_q_3 => ?_)
    refine lv_iload_n hx hb dX10_wrong_14 rfl (lv_at hl 1 rfl) ?_
    obtain ⟨h_4, hw⟩ := hw
    refine pm_iald E hI t_q_3 h_4 dX10_wrong_15 ?_
    refine lv_if_ne (tgt := 24) hx hb dX10_wrong_16 (by decide) (fun h_5 => ?_) (fun h_5 => ?_)
    · replace hw := hw.1 h_5
      refine lv_iload_n hx hb dX10_wrong_24 rfl (lv_at hl 2 rfl) ?_
      refine lv_if_lt (tgt := 40) hx hb dX10_wrong_25 (by decide) (fun h_6 => ?_) (fun h_6 => ?_)
      · replace hw := hw.1 h_6
        exact c_X10_wrong_40 E hret hI (lv_sub hl [] rfl) hw
      · replace hw := hw.2 h_6
        refine lv_iload_n hx hb dX10_wrong_28 rfl (lv_at hl 2 rfl) ?_
        refine lv_aload_n hx hb dX10_wrong_29 rfl (lv_at hl 0 rfl) ?_
        refine gf_X10_44 E hI t_th dX10_wrong_30 e_q_3 (fun _ => ?_)
        refine lv_iload_n hx hb dX10_wrong_33 rfl (lv_at hl 1 rfl) ?_
        obtain ⟨h_7, hw⟩ := hw
        refine pm_iald E hI t_q_3 h_7 dX10_wrong_34 ?_
        refine lv_iconst (v := (1 : Int32)) hx hb dX10_wrong_35 (by decide) ?_
        refine lv_isub hx hb dX10_wrong_36 ?_
        refine lv_icmp_lt (tgt := 45) hx hb dX10_wrong_37 (by decide) (fun h_8 => ?_) (fun h_8 => ?_)
        · replace hw := hw.1 h_8
          refine lv_iconst (v := (0 : Int32)) hx hb dX10_wrong_45 (by decide) ?_
          exact c_X10_wrong_46 E hret hI (lv_sub hl [] rfl) hw
        · replace hw := hw.2 h_8
          exact c_X10_wrong_40 E hret hI (lv_sub hl [] rfl) hw
    · replace hw := hw.2 h_5
      refine lv_bipush (v := (-5 : Int32)) hx hb dX10_wrong_19 (by decide) ?_
      refine lv_goto (tgt := 46) hx hb dX10_wrong_21 (by decide) ?_
      exact c_X10_wrong_46 E hret hI (lv_sub hl [] rfl) hw
  · replace hw := hw.2 h_2
    refine lv_bipush (v := (-2 : Int32)) hx hb dX10_wrong_7 (by decide) ?_
    exact pm_iret E hret hI pm_X.rf ⟨_, rfl, rfl, hw⟩ (by decide) (by decide) dX10_wrong_9
set_option maxHeartbeats 4000000 in
set_option maxRecDepth 100000 in
theorem c_X10_write_71 {p : Program} {l : Launch} {e : Env} {s : State} {m : MethodId} {args : Array Value} {below : List Frame} {meth : Method} {c : Code} {G : pm_G} {H0 : Heap} {M0 : pm_M} {Post : Int32 → pm_M → Prop} {v5 : Int32} {M : pm_M} (E : pm_E G p s m args meth c cX10_write 7 RX10) (hret : meth.sig.returnType = (some .int)) {H : Heap} {locs : List Loc} {ls : Array Slot} (hX : pm_X M0 M) (hI : pm_I G H0 M H locs) (hl : lv_has ls 7 [(5, .int v5)]) (hw : w_X10_write_71 Post v5 M) : W p l e rm_X10_write s m args below meth c H locs 0 0 (pm_Z G H0 M0 (pm_Pi Post) below args s rm_X10_write.cells rm_X10_write.slots) (F0 m 71 ls []) := by
  have hx := E.1
  have hb := E.2.1
  have hown := E.2.2.2.1
  have hts := E.2.2.2.2.1
  unfold w_X10_write_71 at hw
  refine lv_iload hx hb dX10_write_71 (lv_at hl 0 rfl) ?_
  exact pm_iret E hret hI hX ⟨_, rfl, hw⟩ (by decide) (by decide) dX10_write_73
set_option maxHeartbeats 4000000 in
set_option maxRecDepth 100000 in
theorem c_X10_write_70 {p : Program} {l : Launch} {e : Env} {s : State} {m : MethodId} {args : Array Value} {below : List Frame} {meth : Method} {c : Code} {G : pm_G} {H0 : Heap} {M0 : pm_M} {Post : Int32 → pm_M → Prop} {v5 : Int32} {s0 : Nat} {s1 : Int32} {s2 : Int64} {M : pm_M} (E : pm_E G p s m args meth c cX10_write 7 RX10) (hret : meth.sig.returnType = (some .int)) {H : Heap} {locs : List Loc} {ls : Array Slot} (hX : pm_X M0 M) (hI : pm_I G H0 M H locs) (t_s0 : pm_is M s0 12) (hl : lv_has ls 7 [(5, .int v5)]) (hw : w_X10_write_70 Post v5 s0 s1 s2 M) : W p l e rm_X10_write s m args below meth c H locs 0 0 (pm_Z G H0 M0 (pm_Pi Post) below args s rm_X10_write.cells rm_X10_write.slots) (F0 m 70 ls [.long s2, .int s1, .ref (H0.size + s0)]) := by
  have hx := E.1
  have hb := E.2.1
  have hown := E.2.2.2.1
  have hts := E.2.2.2.2.1
  unfold w_X10_write_70 at hw
  obtain ⟨h_1, hw⟩ := hw
  refine ps_last E hI t_s0 h_1 dX10_write_70 (fun H locs M_2 e_M_2 hX1 hI => ?_)
  replace hw := hw M_2 e_M_2
  replace hX := hX.tr hX1
  exact c_X10_write_71 E hret hX hI (lv_sub hl [0] rfl) hw
set_option maxHeartbeats 4000000 in
set_option maxRecDepth 100000 in
theorem k_X10_write {l : Launch} {G : pm_G} {H0 : Heap} {th : Nat} {a1 : Int32} {a2 : Int32} {a3 : Int64} {M : pm_M} {Post : Int32 → pm_M → Prop} (t_th : pm_is M th 9) (hw : w_X10_write th a1 a2 a3 M Post) : pm_C l G H0 yX10_write cX10_write 7 (some .int) rm_X10_write [.ref (H0.size + th), .int a1, .int a2, .long a3] M (pm_Pi Post) := by
  refine pm_start (by decide +kernel) (Nat.le_of_ble_eq_true rfl) ?_
  intro p e s m args below meth c H ls E hret hnm hI hl
  have hX : pm_X M M := pm_X.rf
  have hl : lv_has ls 7 [(0, .ref (H0.size + th)), (1, .int a1), (2, .int a2), (3, .long a3)] := hl
  have hx := E.1
  have hb := E.2.1
  have hown := E.2.2.2.1
  have hts := E.2.2.2.2.1
  unfold w_X10_write at hw
  refine lv_aload_n hx hb dX10_write_0 rfl (lv_at hl 0 rfl) ?_
  refine lv_iload_n hx hb dX10_write_1 rfl (lv_at hl 1 rfl) ?_
  refine lv_iload_n hx hb dX10_write_2 rfl (lv_at hl 2 rfl) ?_
  refine pm_callV (As := [.int a1, .int a2]) (rest := []) 2 E hI (k_X10_wrong t_th hw) t_th (by decide) rfl kc_X10_wrong kl_X10_96 km_X10_wrong ks_X10_wrong ki_X10 (by decide +kernel) ⟨by decide, by decide⟩ rfl hl.1 rfl (by first | exact Nat.le_of_ble_eq_true rfl | (simp only [List.map, pm_rf_cat]; exact Nat.le_of_ble_eq_true rfl)) dX10_write_3 ⟨by decide, by decide⟩ (fun r9 M9 H locs hp hX1 hI => ?_)
  clear hw
  obtain ⟨r_1, rfl, rfl, hw⟩ := hp
  refine pm_nrm (cells' := 0) (slots' := 0) (g2 := F0 m 6 ls [.int r_1]) rfl rfl rfl ?_
  refine lv_istore (lv' := [(5, .int r_1), (0, .ref (H0.size + th)), (1, .int a1), (2, .int a2), (3, .long a3)]) hx hb dX10_write_6 hl (by decide) rfl (fun ls hl_2 => ?_)
  refine lv_iload hx hb dX10_write_8 (lv_at hl_2 0 rfl) ?_
  refine lv_if_ne (tgt := 71) hx hb dX10_write_10 (by decide) (fun h_3 => ?_) (fun h_3 => ?_)
  · replace hw := hw.1 h_3
    exact c_X10_write_71 E hret hX hI (lv_sub hl_2 [0] rfl) hw
  · replace hw := hw.2 h_3
    refine lv_aload_n hx hb dX10_write_13 rfl (lv_at hl_2 1 rfl) ?_
    obtain ⟨q_4, e_q_4, hw⟩ := hw
    refine gf_X10_47 E hI t_th dX10_write_14 e_q_4 (fun t_q_4 => ?_)
    refine lv_iload_n hx hb dX10_write_17 rfl (lv_at hl_2 2 rfl) ?_
    obtain ⟨h_5, hw⟩ := hw
    refine pm_iald E hI t_q_4 h_5 dX10_write_18 ?_
    refine lv_topi (fun x_6 e_x_6 => ?_)
    replace hw := hw x_6 e_x_6
    refine lv_istore (lv' := [(6, .int x_6), (5, .int r_1), (0, .ref (H0.size + th)), (1, .int a1), (2, .int a2), (3, .long a3)]) hx hb dX10_write_19 hl_2 (by decide) rfl (fun ls hl_7 => ?_)
    refine lv_aload_n hx hb dX10_write_21 rfl (lv_at hl_7 2 rfl) ?_
    obtain ⟨q_8, e_q_8, hw⟩ := hw
    refine gf_X10_50 E hI t_th dX10_write_22 e_q_8 (fun t_q_8 => ?_)
    refine lv_sipush (v := (200 : Int32)) hx hb dX10_write_25 (by decide) ?_
    refine lv_iload_n hx hb dX10_write_28 rfl (lv_at hl_7 3 rfl) ?_
    refine lv_imul hx hb dX10_write_29 ?_
    refine lv_iload_n hx hb dX10_write_30 rfl (lv_at hl_7 4 rfl) ?_
    refine lv_iadd hx hb dX10_write_31 ?_
    refine lv_iload hx hb dX10_write_32 (lv_at hl_7 0 rfl) ?_
    refine lv_if_ne (tgt := 44) hx hb dX10_write_34 (by decide) (fun h_9 => ?_) (fun h_9 => ?_)
    · replace hw := hw.1 h_9
      refine lv_iload hx hb dX10_write_44 (lv_at hl_7 0 rfl) ?_
      refine lv_iconst (v := (1 : Int32)) hx hb dX10_write_46 (by decide) ?_
      refine lv_icmp_ne (tgt := 57) hx hb dX10_write_47 (by decide) (fun h_10 => ?_) (fun h_10 => ?_)
      · replace hw := hw.1 h_10
        refine lv_iload hx hb dX10_write_57 (lv_at hl_7 0 rfl) ?_
        refine lv_iconst (v := (2 : Int32)) hx hb dX10_write_59 (by decide) ?_
        refine lv_icmp_ne (tgt := 69) hx hb dX10_write_60 (by decide) (fun h_11 => ?_) (fun h_11 => ?_)
        · replace hw := hw.1 h_11
          refine lv_lload_n hx hb dX10_write_69 rfl (lv_at hl_7 5 rfl) ?_
          exact c_X10_write_70 E hret hX hI t_q_8 (lv_sub hl_7 [1] rfl) hw
        · replace hw := hw.2 h_11
          refine lv_lload_n hx hb dX10_write_63 rfl (lv_at hl_7 5 rfl) ?_
          refine lv_l2i hx hb dX10_write_64 rfl ?_
          refine lv_i2l hx hb dX10_write_65 rfl ?_
          refine lv_goto (tgt := 70) hx hb dX10_write_66 (by decide) ?_
          exact c_X10_write_70 E hret hX hI t_q_8 (lv_sub hl_7 [1] rfl) hw
      · replace hw := hw.2 h_10
        refine lv_lload_n hx hb dX10_write_50 rfl (lv_at hl_7 5 rfl) ?_
        refine lv_l2i hx hb dX10_write_51 rfl ?_
        refine lv_i2s hx hb dX10_write_52 rfl ?_
        refine lv_i2l hx hb dX10_write_53 rfl ?_
        refine lv_goto (tgt := 70) hx hb dX10_write_54 (by decide) ?_
        exact c_X10_write_70 E hret hX hI t_q_8 (lv_sub hl_7 [1] rfl) hw
    · replace hw := hw.2 h_9
      refine lv_lload_n hx hb dX10_write_37 rfl (lv_at hl_7 5 rfl) ?_
      refine lv_l2i hx hb dX10_write_38 rfl ?_
      refine lv_i2b hx hb dX10_write_39 rfl ?_
      refine lv_i2l hx hb dX10_write_40 rfl ?_
      refine lv_goto (tgt := 70) hx hb dX10_write_41 (by decide) ?_
      exact c_X10_write_70 E hret hX hI t_q_8 (lv_sub hl_7 [1] rfl) hw
set_option maxHeartbeats 4000000 in
set_option maxRecDepth 100000 in
theorem c_X10_read_25 {p : Program} {l : Launch} {e : Env} {s : State} {m : MethodId} {args : Array Value} {below : List Frame} {meth : Method} {c : Code} {G : pm_G} {H0 : Heap} {Post : Int64 → Prop} {s0 : Int64} {M : pm_M} (E : pm_E G p s m args meth c cX10_read 3 RX10) (hret : meth.sig.returnType = (some .long)) {H : Heap} {locs : List Loc} {ls : Array Slot} (hI : pm_I G H0 M H locs) (hl : lv_has ls 3 []) (hw : w_X10_read_25 Post s0 M) : W p l e rm_X10_read s m args below meth c H locs 0 0 (pm_Z G H0 M (pm_Pl (fun r9 M9 => M = M9 ∧ Post r9)) below args s rm_X10_read.cells rm_X10_read.slots) (F0 m 25 ls [.long s0]) := by
  have hx := E.1
  have hb := E.2.1
  have hown := E.2.2.2.1
  have hts := E.2.2.2.2.1
  unfold w_X10_read_25 at hw
  exact pm_lret E hret hI pm_X.rf ⟨_, rfl, rfl, hw⟩ (by decide) (by decide) dX10_read_25
set_option maxHeartbeats 4000000 in
set_option maxRecDepth 100000 in
theorem k_X10_read {l : Launch} {G : pm_G} {H0 : Heap} {th : Nat} {a1 : Int32} {a2 : Int32} {M : pm_M} {Post : Int64 → Prop} (t_th : pm_is M th 9) (hw : w_X10_read th a1 a2 M Post) : pm_C l G H0 yX10_read cX10_read 3 (some .long) rm_X10_read [.ref (H0.size + th), .int a1, .int a2] M (pm_Pl (fun r9 M9 => M = M9 ∧ Post r9)) := by
  refine pm_start (by decide +kernel) (Nat.le_of_ble_eq_true rfl) ?_
  intro p e s m args below meth c H ls E hret hnm hI hl
  have hl : lv_has ls 3 [(0, .ref (H0.size + th)), (1, .int a1), (2, .int a2)] := hl
  have hx := E.1
  have hb := E.2.1
  have hown := E.2.2.2.1
  have hts := E.2.2.2.2.1
  unfold w_X10_read at hw
  refine lv_aload_n hx hb dX10_read_0 rfl (lv_at hl 0 rfl) ?_
  refine lv_iload_n hx hb dX10_read_1 rfl (lv_at hl 1 rfl) ?_
  refine lv_iload_n hx hb dX10_read_2 rfl (lv_at hl 2 rfl) ?_
  refine pm_callV (As := [.int a1, .int a2]) (rest := []) 2 E hI (k_X10_wrong t_th hw) t_th (by decide) rfl kc_X10_wrong kl_X10_96 km_X10_wrong ks_X10_wrong ki_X10 (by decide +kernel) ⟨by decide, by decide⟩ rfl hl.1 rfl (by first | exact Nat.le_of_ble_eq_true rfl | (simp only [List.map, pm_rf_cat]; exact Nat.le_of_ble_eq_true rfl)) dX10_read_3 ⟨by decide, by decide⟩ (fun r9 M9 H locs hp hX1 hI => ?_)
  clear hw
  obtain ⟨r_1, rfl, rfl, hw⟩ := hp
  refine pm_nrm (cells' := 0) (slots' := 0) (g2 := F0 m 6 ls [.int r_1]) rfl rfl rfl ?_
  refine lv_if_ne (tgt := 24) hx hb dX10_read_6 (by decide) (fun h_2 => ?_) (fun h_2 => ?_)
  · replace hw := hw.1 h_2
    refine lv_lconst (v := (0 : Int64)) hx hb dX10_read_24 (by decide) ?_
    exact c_X10_read_25 E hret hI (lv_sub hl [] rfl) hw
  · replace hw := hw.2 h_2
    refine lv_aload_n hx hb dX10_read_9 rfl (lv_at hl 0 rfl) ?_
    obtain ⟨q_3, e_q_3, hw⟩ := hw
    refine gf_X10_50 E hI t_th dX10_read_10 e_q_3 (fun t_q_3 => ?_)
    refine lv_sipush (v := (200 : Int32)) hx hb dX10_read_13 (by decide) ?_
    refine lv_iload_n hx hb dX10_read_16 rfl (lv_at hl 1 rfl) ?_
    refine lv_imul hx hb dX10_read_17 ?_
    refine lv_iload_n hx hb dX10_read_18 rfl (lv_at hl 2 rfl) ?_
    refine lv_iadd hx hb dX10_read_19 ?_
    obtain ⟨h_4, hw⟩ := hw
    refine pm_lald E hI t_q_3 h_4 dX10_read_20 ?_
    refine lv_goto (tgt := 25) hx hb dX10_read_21 (by decide) ?_
    exact c_X10_read_25 E hret hI (lv_sub hl [] rfl) hw
set_option maxHeartbeats 4000000 in
set_option maxRecDepth 100000 in
theorem c_X10_copy_153 {p : Program} {l : Launch} {e : Env} {s : State} {m : MethodId} {args : Array Value} {below : List Frame} {meth : Method} {c : Code} {G : pm_G} {H0 : Heap} {M0 : pm_M} {Post : Int32 → pm_M → Prop} {v0 : Nat} {v3 : Int32} {v4 : Int32} {v5 : Int32} (E : pm_E G p s m args meth c cX10_copy 7 RX10) (hret : meth.sig.returnType = (some .int)) : ∀ (n : Nat) (v6 : Int32) (M : pm_M) (H : Heap) (locs : List Loc) (ls : Array Slot), pm_X M0 M → pm_I G H0 M H locs → (pm_is M v0 9) → lv_has ls 7 [(0, .ref (H0.size + v0)), (3, .int v3), (4, .int v4), (5, .int v5), (6, .int v6)] → w_X10_copy_153 Post v0 v3 v4 v5 n v6 M → W p l e rm_X10_copy s m args below meth c H locs 0 0 (pm_Z G H0 M0 (pm_Pi Post) below args s rm_X10_copy.cells rm_X10_copy.slots) (F0 m 153 ls []) := by
  have hx := E.1
  have hb := E.2.1
  have hown := E.2.2.2.1
  have hts := E.2.2.2.2.1
  intro n
  induction n with
  | zero =>
    intro v6 M H locs ls hX hI t_v0 hl hw
    unfold w_X10_copy_153 at hw
    exact hw.elim
  | succ n ih =>
    intro v6 M H locs ls hX hI t_v0 hl hw
    unfold w_X10_copy_153 at hw
    refine lv_iload hx hb dX10_copy_153 (lv_at hl 4 rfl) ?_
    refine lv_iload hx hb dX10_copy_155 (lv_at hl 3 rfl) ?_
    refine lv_icmp_ge (tgt := 189) hx hb dX10_copy_157 (by decide) (fun h_1 => ?_) (fun h_1 => ?_)
    · replace hw := hw.1 h_1
      refine lv_iconst (v := (0 : Int32)) hx hb dX10_copy_189 (by decide) ?_
      exact pm_iret E hret hI hX ⟨_, rfl, hw⟩ (by decide) (by decide) dX10_copy_190
    · replace hw := hw.2 h_1
      refine lv_aload_n hx hb dX10_copy_160 rfl (lv_at hl 0 rfl) ?_
      obtain ⟨q_2, e_q_2, hw⟩ := hw
      refine gf_X10_50 E hI t_v0 dX10_copy_161 e_q_2 (fun t_q_2 => ?_)
      refine lv_sipush (v := (200 : Int32)) hx hb dX10_copy_164 (by decide) ?_
      refine lv_iload_n hx hb dX10_copy_167 rfl (lv_at hl 1 rfl) ?_
      refine lv_imul hx hb dX10_copy_168 ?_
      refine lv_iload hx hb dX10_copy_169 (lv_at hl 2 rfl) ?_
      refine lv_iadd hx hb dX10_copy_171 ?_
      refine lv_iload hx hb dX10_copy_172 (lv_at hl 4 rfl) ?_
      refine lv_iadd hx hb dX10_copy_174 ?_
      refine lv_aload_n hx hb dX10_copy_175 rfl (lv_at hl 0 rfl) ?_
      obtain ⟨q_3, e_q_3, hw⟩ := hw
      refine gf_X10_54 E hI t_v0 dX10_copy_176 e_q_3 (fun t_q_3 => ?_)
      refine lv_iload hx hb dX10_copy_179 (lv_at hl 4 rfl) ?_
      obtain ⟨h_4, hw⟩ := hw
      refine pm_lald E hI t_q_3 h_4 dX10_copy_181 ?_
      obtain ⟨h_5, hw⟩ := hw
      refine ps_last E hI t_q_2 h_5 dX10_copy_182 (fun H locs M_6 e_M_6 hX1 hI => ?_)
      replace hw := hw M_6 e_M_6
      replace t_v0 := t_v0.x hX1
      replace hX := hX.tr hX1
      obtain ⟨x_7, e_x_7⟩ : ∃ z : Int32, z = v6 + (1 : Int32) := ⟨_, rfl⟩
      refine lv_iinc (v := x_7) (lv' := [(6, .int x_7), (0, .ref (H0.size + v0)), (3, .int v3), (4, .int v4), (5, .int v5)]) hx hb dX10_copy_183 hl (k := 4) rfl (by rw [e_x_7]; rfl) (by decide) rfl (fun ls hl_8 => ?_)
      replace hw := hw x_7 e_x_7
      refine lv_goto (tgt := 153) hx hb dX10_copy_186 (by decide) ?_
      exact ih _ _ _ _ _ hX hI t_v0 (lv_sub hl_8 [1, 2, 3, 4, 0] rfl) hw
set_option maxHeartbeats 4000000 in
set_option maxRecDepth 100000 in
theorem c_X10_copy_115 {p : Program} {l : Launch} {e : Env} {s : State} {m : MethodId} {args : Array Value} {below : List Frame} {meth : Method} {c : Code} {G : pm_G} {H0 : Heap} {M0 : pm_M} {Post : Int32 → pm_M → Prop} {v0 : Nat} {v1 : Int32} {v2 : Int32} {v3 : Int32} {v4 : Int32} {v5 : Int32} (E : pm_E G p s m args meth c cX10_copy 7 RX10) (hret : meth.sig.returnType = (some .int)) : ∀ (n : Nat) (v6 : Int32) (M : pm_M) (H : Heap) (locs : List Loc) (ls : Array Slot), pm_X M0 M → pm_I G H0 M H locs → (pm_is M v0 9) → lv_has ls 7 [(0, .ref (H0.size + v0)), (1, .int v1), (2, .int v2), (3, .int v3), (4, .int v4), (5, .int v5), (6, .int v6)] → w_X10_copy_115 Post v0 v1 v2 v3 v4 v5 n v6 M → W p l e rm_X10_copy s m args below meth c H locs 0 0 (pm_Z G H0 M0 (pm_Pi Post) below args s rm_X10_copy.cells rm_X10_copy.slots) (F0 m 115 ls []) := by
  have hx := E.1
  have hb := E.2.1
  have hown := E.2.2.2.1
  have hts := E.2.2.2.2.1
  intro n
  induction n with
  | zero =>
    intro v6 M H locs ls hX hI t_v0 hl hw
    unfold w_X10_copy_115 at hw
    exact hw.elim
  | succ n ih =>
    intro v6 M H locs ls hX hI t_v0 hl hw
    unfold w_X10_copy_115 at hw
    refine lv_iload hx hb dX10_copy_115 (lv_at hl 6 rfl) ?_
    refine lv_iload hx hb dX10_copy_117 (lv_at hl 5 rfl) ?_
    refine lv_icmp_ge (tgt := 150) hx hb dX10_copy_119 (by decide) (fun h_1 => ?_) (fun h_1 => ?_)
    · replace hw := hw.1 h_1
      refine lv_iconst (v := (0 : Int32)) hx hb dX10_copy_150 (by decide) ?_
      refine lv_istore (lv' := [(6, .int (0 : Int32)), (0, .ref (H0.size + v0)), (1, .int v1), (2, .int v2), (3, .int v3), (4, .int v4), (5, .int v5)]) hx hb dX10_copy_151 hl (by decide) rfl (fun ls hl_2 => ?_)
      obtain ⟨n_3, hw⟩ := hw
      exact c_X10_copy_153 E hret n_3 _ _ _ _ _ hX hI t_v0 (lv_sub hl_2 [1, 4, 5, 6, 0] rfl) hw
    · replace hw := hw.2 h_1
      refine lv_aload_n hx hb dX10_copy_122 rfl (lv_at hl 0 rfl) ?_
      obtain ⟨q_4, e_q_4, hw⟩ := hw
      refine gf_X10_54 E hI t_v0 dX10_copy_123 e_q_4 (fun t_q_4 => ?_)
      refine lv_iload hx hb dX10_copy_126 (lv_at hl 6 rfl) ?_
      refine lv_aload_n hx hb dX10_copy_128 rfl (lv_at hl 0 rfl) ?_
      obtain ⟨q_5, e_q_5, hw⟩ := hw
      refine gf_X10_50 E hI t_v0 dX10_copy_129 e_q_5 (fun t_q_5 => ?_)
      refine lv_sipush (v := (200 : Int32)) hx hb dX10_copy_132 (by decide) ?_
      refine lv_iload_n hx hb dX10_copy_135 rfl (lv_at hl 1 rfl) ?_
      refine lv_imul hx hb dX10_copy_136 ?_
      refine lv_iload_n hx hb dX10_copy_137 rfl (lv_at hl 2 rfl) ?_
      refine lv_iadd hx hb dX10_copy_138 ?_
      refine lv_iload hx hb dX10_copy_139 (lv_at hl 6 rfl) ?_
      refine lv_iadd hx hb dX10_copy_141 ?_
      obtain ⟨h_6, hw⟩ := hw
      refine pm_lald E hI t_q_5 h_6 dX10_copy_142 ?_
      obtain ⟨h_7, hw⟩ := hw
      refine ps_last E hI t_q_4 h_7 dX10_copy_143 (fun H locs M_8 e_M_8 hX1 hI => ?_)
      replace hw := hw M_8 e_M_8
      replace t_v0 := t_v0.x hX1
      replace hX := hX.tr hX1
      obtain ⟨x_9, e_x_9⟩ : ∃ z : Int32, z = v6 + (1 : Int32) := ⟨_, rfl⟩
      refine lv_iinc (v := x_9) (lv' := [(6, .int x_9), (0, .ref (H0.size + v0)), (1, .int v1), (2, .int v2), (3, .int v3), (4, .int v4), (5, .int v5)]) hx hb dX10_copy_144 hl (k := 6) rfl (by rw [e_x_9]; rfl) (by decide) rfl (fun ls hl_10 => ?_)
      replace hw := hw x_9 e_x_9
      refine lv_goto (tgt := 115) hx hb dX10_copy_147 (by decide) ?_
      exact ih _ _ _ _ _ hX hI t_v0 (lv_sub hl_10 [1, 2, 3, 4, 5, 6, 0] rfl) hw
set_option maxHeartbeats 4000000 in
set_option maxRecDepth 100000 in
theorem c_X10_copy_109 {p : Program} {l : Launch} {e : Env} {s : State} {m : MethodId} {args : Array Value} {below : List Frame} {meth : Method} {c : Code} {G : pm_G} {H0 : Heap} {M0 : pm_M} {Post : Int32 → pm_M → Prop} {M : pm_M} (E : pm_E G p s m args meth c cX10_copy 7 RX10) (hret : meth.sig.returnType = (some .int)) {H : Heap} {locs : List Loc} {ls : Array Slot} (hX : pm_X M0 M) (hI : pm_I G H0 M H locs) (hl : lv_has ls 7 []) (hw : w_X10_copy_109 Post M) : W p l e rm_X10_copy s m args below meth c H locs 0 0 (pm_Z G H0 M0 (pm_Pi Post) below args s rm_X10_copy.cells rm_X10_copy.slots) (F0 m 109 ls []) := by
  have hx := E.1
  have hb := E.2.1
  have hown := E.2.2.2.1
  have hts := E.2.2.2.2.1
  unfold w_X10_copy_109 at hw
  refine lv_bipush (v := (-6 : Int32)) hx hb dX10_copy_109 (by decide) ?_
  exact pm_iret E hret hI hX ⟨_, rfl, hw⟩ (by decide) (by decide) dX10_copy_111
set_option maxHeartbeats 4000000 in
set_option maxRecDepth 100000 in
theorem c_X10_copy_35 {p : Program} {l : Launch} {e : Env} {s : State} {m : MethodId} {args : Array Value} {below : List Frame} {meth : Method} {c : Code} {G : pm_G} {H0 : Heap} {M0 : pm_M} {Post : Int32 → pm_M → Prop} {M : pm_M} (E : pm_E G p s m args meth c cX10_copy 7 RX10) (hret : meth.sig.returnType = (some .int)) {H : Heap} {locs : List Loc} {ls : Array Slot} (hX : pm_X M0 M) (hI : pm_I G H0 M H locs) (hl : lv_has ls 7 []) (hw : w_X10_copy_35 Post M) : W p l e rm_X10_copy s m args below meth c H locs 0 0 (pm_Z G H0 M0 (pm_Pi Post) below args s rm_X10_copy.cells rm_X10_copy.slots) (F0 m 35 ls []) := by
  have hx := E.1
  have hb := E.2.1
  have hown := E.2.2.2.1
  have hts := E.2.2.2.2.1
  unfold w_X10_copy_35 at hw
  refine lv_bipush (v := (-5 : Int32)) hx hb dX10_copy_35 (by decide) ?_
  exact pm_iret E hret hI hX ⟨_, rfl, hw⟩ (by decide) (by decide) dX10_copy_37
set_option maxHeartbeats 4000000 in
set_option maxRecDepth 100000 in
theorem c_X10_copy_14 {p : Program} {l : Launch} {e : Env} {s : State} {m : MethodId} {args : Array Value} {below : List Frame} {meth : Method} {c : Code} {G : pm_G} {H0 : Heap} {M0 : pm_M} {Post : Int32 → pm_M → Prop} {M : pm_M} (E : pm_E G p s m args meth c cX10_copy 7 RX10) (hret : meth.sig.returnType = (some .int)) {H : Heap} {locs : List Loc} {ls : Array Slot} (hX : pm_X M0 M) (hI : pm_I G H0 M H locs) (hl : lv_has ls 7 []) (hw : w_X10_copy_14 Post M) : W p l e rm_X10_copy s m args below meth c H locs 0 0 (pm_Z G H0 M0 (pm_Pi Post) below args s rm_X10_copy.cells rm_X10_copy.slots) (F0 m 14 ls []) := by
  have hx := E.1
  have hb := E.2.1
  have hown := E.2.2.2.1
  have hts := E.2.2.2.2.1
  unfold w_X10_copy_14 at hw
  refine lv_bipush (v := (-2 : Int32)) hx hb dX10_copy_14 (by decide) ?_
  exact pm_iret E hret hI hX ⟨_, rfl, hw⟩ (by decide) (by decide) dX10_copy_16
set_option maxHeartbeats 4000000 in
set_option maxRecDepth 100000 in
theorem k_X10_copy {l : Launch} {G : pm_G} {H0 : Heap} {th : Nat} {a1 : Int32} {a2 : Int32} {a3 : Int32} {a4 : Int32} {a5 : Int32} {M : pm_M} {Post : Int32 → pm_M → Prop} (t_th : pm_is M th 9) (hw : w_X10_copy th a1 a2 a3 a4 a5 M Post) : pm_C l G H0 yX10_copy cX10_copy 7 (some .int) rm_X10_copy [.ref (H0.size + th), .int a1, .int a2, .int a3, .int a4, .int a5] M (pm_Pi Post) := by
  refine pm_start (by decide +kernel) (Nat.le_of_ble_eq_true rfl) ?_
  intro p e s m args below meth c H ls E hret hnm hI hl
  have hX : pm_X M M := pm_X.rf
  have hl : lv_has ls 7 [(0, .ref (H0.size + th)), (1, .int a1), (2, .int a2), (3, .int a3), (4, .int a4), (5, .int a5)] := hl
  have hx := E.1
  have hb := E.2.1
  have hown := E.2.2.2.1
  have hts := E.2.2.2.2.1
  unfold w_X10_copy at hw
  refine lv_iload_n hx hb dX10_copy_0 rfl (lv_at hl 1 rfl) ?_
  refine pm_callS (As := [.int a1]) (rest := []) 1 E hI (k_X10_isSlot hw) kc_X10_isSlot kl_X10_93 kt_X10_isSlot ki_X10 (by decide +kernel) ⟨by decide, by decide⟩ rfl hl.1 rfl (by first | exact Nat.le_of_ble_eq_true rfl | (simp only [List.map, pm_rf_cat]; exact Nat.le_of_ble_eq_true rfl)) dX10_copy_1 ⟨by decide, by decide⟩ (fun r9 M9 H locs hp hX1 hI => ?_)
  clear hw
  obtain ⟨r_1, rfl, rfl, hw⟩ := hp
  refine pm_nrm (cells' := 0) (slots' := 0) (g2 := F0 m 4 ls [.int r_1]) rfl rfl rfl ?_
  refine lv_if_eq (tgt := 14) hx hb dX10_copy_4 (by decide) (fun h_2 => ?_) (fun h_2 => ?_)
  · replace hw := hw.1 h_2
    exact c_X10_copy_14 E hret hX hI (lv_sub hl [] rfl) hw
  · replace hw := hw.2 h_2
    refine lv_iload_n hx hb dX10_copy_7 rfl (lv_at hl 3 rfl) ?_
    refine pm_callS (As := [.int a3]) (rest := []) 1 E hI (k_X10_isSlot hw) kc_X10_isSlot kl_X10_93 kt_X10_isSlot ki_X10 (by decide +kernel) ⟨by decide, by decide⟩ rfl hl.1 rfl (by first | exact Nat.le_of_ble_eq_true rfl | (simp only [List.map, pm_rf_cat]; exact Nat.le_of_ble_eq_true rfl)) dX10_copy_8 ⟨by decide, by decide⟩ (fun r9 M9 H locs hp hX1 hI => ?_)
    clear hw
    obtain ⟨r_3, rfl, rfl, hw⟩ := hp
    refine pm_nrm (cells' := 0) (slots' := 0) (g2 := F0 m 11 ls [.int r_3]) rfl rfl rfl ?_
    refine lv_if_ne (tgt := 17) hx hb dX10_copy_11 (by decide) (fun h_4 => ?_) (fun h_4 => ?_)
    · replace hw := hw.1 h_4
      refine lv_aload_n hx hb dX10_copy_17 rfl (lv_at hl 0 rfl) ?_
      obtain ⟨q_5, e_q_5, hw⟩ := hw
      refine gf_X10_44 E hI t_th dX10_copy_18 e_q_5 (fun t_q_5 => ?_)
      refine lv_iload_n hx hb dX10_copy_21 rfl (lv_at hl 1 rfl) ?_
      obtain ⟨h_6, hw⟩ := hw
      refine pm_iald E hI t_q_5 h_6 dX10_copy_22 ?_
      refine lv_if_eq (tgt := 35) hx hb dX10_copy_23 (by decide) (fun h_7 => ?_) (fun h_7 => ?_)
      · replace hw := hw.1 h_7
        exact c_X10_copy_35 E hret hX hI (lv_sub hl [] rfl) hw
      · replace hw := hw.2 h_7
        refine lv_aload_n hx hb dX10_copy_26 rfl (lv_at hl 0 rfl) ?_
        refine gf_X10_44 E hI t_th dX10_copy_27 e_q_5 (fun _ => ?_)
        refine lv_iload_n hx hb dX10_copy_30 rfl (lv_at hl 3 rfl) ?_
        obtain ⟨h_8, hw⟩ := hw
        refine pm_iald E hI t_q_5 h_8 dX10_copy_31 ?_
        refine lv_if_ne (tgt := 38) hx hb dX10_copy_32 (by decide) (fun h_9 => ?_) (fun h_9 => ?_)
        · replace hw := hw.1 h_9
          refine lv_aload_n hx hb dX10_copy_38 rfl (lv_at hl 0 rfl) ?_
          obtain ⟨q_10, e_q_10, hw⟩ := hw
          refine gf_X10_47 E hI t_th dX10_copy_39 e_q_10 (fun t_q_10 => ?_)
          refine lv_iload_n hx hb dX10_copy_42 rfl (lv_at hl 1 rfl) ?_
          obtain ⟨h_11, hw⟩ := hw
          refine pm_iald E hI t_q_10 h_11 dX10_copy_43 ?_
          refine lv_aload_n hx hb dX10_copy_44 rfl (lv_at hl 0 rfl) ?_
          refine gf_X10_47 E hI t_th dX10_copy_45 e_q_10 (fun _ => ?_)
          refine lv_iload_n hx hb dX10_copy_48 rfl (lv_at hl 3 rfl) ?_
          obtain ⟨h_12, hw⟩ := hw
          refine pm_iald E hI t_q_10 h_12 dX10_copy_49 ?_
          refine lv_icmp_eq (tgt := 56) hx hb dX10_copy_50 (by decide) (fun h_13 => ?_) (fun h_13 => ?_)
          · replace hw := hw.1 h_13
            refine lv_iload_n hx hb dX10_copy_56 rfl (lv_at hl 2 rfl) ?_
            refine lv_if_lt (tgt := 109) hx hb dX10_copy_57 (by decide) (fun h_14 => ?_) (fun h_14 => ?_)
            · replace hw := hw.1 h_14
              exact c_X10_copy_109 E hret hX hI (lv_sub hl [] rfl) hw
            · replace hw := hw.2 h_14
              refine lv_iload hx hb dX10_copy_60 (lv_at hl 4 rfl) ?_
              refine lv_if_lt (tgt := 109) hx hb dX10_copy_62 (by decide) (fun h_15 => ?_) (fun h_15 => ?_)
              · replace hw := hw.1 h_15
                exact c_X10_copy_109 E hret hX hI (lv_sub hl [] rfl) hw
              · replace hw := hw.2 h_15
                refine lv_iload hx hb dX10_copy_65 (lv_at hl 5 rfl) ?_
                refine lv_if_lt (tgt := 109) hx hb dX10_copy_67 (by decide) (fun h_16 => ?_) (fun h_16 => ?_)
                · replace hw := hw.1 h_16
                  exact c_X10_copy_109 E hret hX hI (lv_sub hl [] rfl) hw
                · replace hw := hw.2 h_16
                  refine lv_iload_n hx hb dX10_copy_70 rfl (lv_at hl 2 rfl) ?_
                  refine lv_i2l hx hb dX10_copy_71 rfl ?_
                  refine lv_iload hx hb dX10_copy_72 (lv_at hl 5 rfl) ?_
                  refine lv_i2l hx hb dX10_copy_74 rfl ?_
                  refine lv_ladd hx hb dX10_copy_75 ?_
                  refine lv_aload_n hx hb dX10_copy_76 rfl (lv_at hl 0 rfl) ?_
                  refine gf_X10_44 E hI t_th dX10_copy_77 e_q_5 (fun _ => ?_)
                  refine lv_iload_n hx hb dX10_copy_80 rfl (lv_at hl 1 rfl) ?_
                  obtain ⟨h_17, hw⟩ := hw
                  refine pm_iald E hI t_q_5 h_17 dX10_copy_81 ?_
                  refine lv_iconst (v := (1 : Int32)) hx hb dX10_copy_82 (by decide) ?_
                  refine lv_isub hx hb dX10_copy_83 ?_
                  refine lv_i2l hx hb dX10_copy_84 rfl ?_
                  refine W.lcmp hx hb dX10_copy_85 ?_
                  refine lv_if_gt (tgt := 109) hx hb dX10_copy_86 (by decide) (fun h_18 => ?_) (fun h_18 => ?_)
                  · replace hw := hw.1 h_18
                    exact c_X10_copy_109 E hret hX hI (lv_sub hl [] rfl) hw
                  · replace hw := hw.2 h_18
                    refine lv_iload hx hb dX10_copy_89 (lv_at hl 4 rfl) ?_
                    refine lv_i2l hx hb dX10_copy_91 rfl ?_
                    refine lv_iload hx hb dX10_copy_92 (lv_at hl 5 rfl) ?_
                    refine lv_i2l hx hb dX10_copy_94 rfl ?_
                    refine lv_ladd hx hb dX10_copy_95 ?_
                    refine lv_aload_n hx hb dX10_copy_96 rfl (lv_at hl 0 rfl) ?_
                    refine gf_X10_44 E hI t_th dX10_copy_97 e_q_5 (fun _ => ?_)
                    refine lv_iload_n hx hb dX10_copy_100 rfl (lv_at hl 3 rfl) ?_
                    obtain ⟨h_19, hw⟩ := hw
                    refine pm_iald E hI t_q_5 h_19 dX10_copy_101 ?_
                    refine lv_iconst (v := (1 : Int32)) hx hb dX10_copy_102 (by decide) ?_
                    refine lv_isub hx hb dX10_copy_103 ?_
                    refine lv_i2l hx hb dX10_copy_104 rfl ?_
                    refine W.lcmp hx hb dX10_copy_105 ?_
                    refine lv_if_le (tgt := 112) hx hb dX10_copy_106 (by decide) (fun h_20 => ?_) (fun h_20 => ?_)
                    · replace hw := hw.1 h_20
                      refine lv_iconst (v := (0 : Int32)) hx hb dX10_copy_112 (by decide) ?_
                      refine lv_istore (lv' := [(6, .int (0 : Int32)), (0, .ref (H0.size + th)), (1, .int a1), (2, .int a2), (3, .int a3), (4, .int a4), (5, .int a5)]) hx hb dX10_copy_113 hl (by decide) rfl (fun ls hl_21 => ?_)
                      obtain ⟨n_22, hw⟩ := hw
                      exact c_X10_copy_115 E hret n_22 _ _ _ _ _ hX hI t_th (lv_sub hl_21 [1, 2, 3, 4, 5, 6, 0] rfl) hw
                    · replace hw := hw.2 h_20
                      exact c_X10_copy_109 E hret hX hI (lv_sub hl [] rfl) hw
          · replace hw := hw.2 h_13
            refine lv_bipush (v := (-7 : Int32)) hx hb dX10_copy_53 (by decide) ?_
            exact pm_iret E hret hI hX ⟨_, rfl, hw⟩ (by decide) (by decide) dX10_copy_55
        · replace hw := hw.2 h_9
          exact c_X10_copy_35 E hret hX hI (lv_sub hl [] rfl) hw
    · replace hw := hw.2 h_4
      exact c_X10_copy_14 E hret hX hI (lv_sub hl [] rfl) hw
set_option maxHeartbeats 4000000 in
set_option maxRecDepth 100000 in
theorem c_X10_bitsOf_4 {p : Program} {l : Launch} {e : Env} {s : State} {m : MethodId} {args : Array Value} {below : List Frame} {meth : Method} {c : Code} {G : pm_G} {H0 : Heap} {Post : Int32 → Prop} {v0 : Int32} {M : pm_M} (E : pm_E G p s m args meth c cX10_bitsOf 3 RX10) (hret : meth.sig.returnType = (some .int)) : ∀ (n : Nat) (v1 : Int32) (v2 : Int32) (H : Heap) (locs : List Loc) (ls : Array Slot), pm_I G H0 M H locs → lv_has ls 3 [(0, .int v0), (1, .int v1), (2, .int v2)] → w_X10_bitsOf_4 Post v0 M n v1 v2 → W p l e rm_X10_bitsOf s m args below meth c H locs 0 0 (pm_Z G H0 M (pm_Pi (fun r9 M9 => M = M9 ∧ Post r9)) below args s rm_X10_bitsOf.cells rm_X10_bitsOf.slots) (F0 m 4 ls []) := by
  have hx := E.1
  have hb := E.2.1
  have hown := E.2.2.2.1
  have hts := E.2.2.2.2.1
  intro n
  induction n with
  | zero =>
    intro v1 v2 H locs ls hI hl hw
    unfold w_X10_bitsOf_4 at hw
    exact hw.elim
  | succ n ih =>
    intro v1 v2 H locs ls hI hl hw
    unfold w_X10_bitsOf_4 at hw
    refine lv_iload_n hx hb dX10_bitsOf_4 rfl (lv_at hl 2 rfl) ?_
    refine lv_bipush (v := (12 : Int32)) hx hb dX10_bitsOf_5 (by decide) ?_
    refine lv_icmp_ge (tgt := 24) hx hb dX10_bitsOf_7 (by decide) (fun h_1 => ?_) (fun h_1 => ?_)
    · replace hw := hw.1 h_1
      refine lv_iload_n hx hb dX10_bitsOf_24 rfl (lv_at hl 1 rfl) ?_
      exact pm_iret E hret hI pm_X.rf ⟨_, rfl, rfl, hw⟩ (by decide) (by decide) dX10_bitsOf_25
    · replace hw := hw.2 h_1
      refine lv_iload_n hx hb dX10_bitsOf_10 rfl (lv_at hl 1 rfl) ?_
      refine lv_iload_n hx hb dX10_bitsOf_11 rfl (lv_at hl 0 rfl) ?_
      refine lv_iload_n hx hb dX10_bitsOf_12 rfl (lv_at hl 2 rfl) ?_
      refine lv_ishr hx hb dX10_bitsOf_13 ?_
      refine lv_iconst (v := (1 : Int32)) hx hb dX10_bitsOf_14 (by decide) ?_
      refine lv_iand hx hb dX10_bitsOf_15 ?_
      refine lv_iadd hx hb dX10_bitsOf_16 ?_
      refine lv_topi (fun x_2 e_x_2 => ?_)
      replace hw := hw x_2 e_x_2
      refine lv_istore_n (lv' := [(1, .int x_2), (0, .int v0), (2, .int v2)]) hx hb dX10_bitsOf_17 rfl hl (by decide) rfl (fun ls hl_3 => ?_)
      obtain ⟨x_4, e_x_4⟩ : ∃ z : Int32, z = v2 + (1 : Int32) := ⟨_, rfl⟩
      refine lv_iinc (v := x_4) (lv' := [(2, .int x_4), (1, .int x_2), (0, .int v0)]) hx hb dX10_bitsOf_18 hl_3 (k := 2) rfl (by rw [e_x_4]; rfl) (by decide) rfl (fun ls hl_5 => ?_)
      replace hw := hw x_4 e_x_4
      refine lv_goto (tgt := 4) hx hb dX10_bitsOf_21 (by decide) ?_
      exact ih _ _ _ _ _ hI (lv_sub hl_5 [2, 1, 0] rfl) hw
set_option maxHeartbeats 4000000 in
set_option maxRecDepth 100000 in
theorem k_X10_bitsOf {l : Launch} {G : pm_G} {H0 : Heap} {a0 : Int32} {M : pm_M} {Post : Int32 → Prop} (hw : w_X10_bitsOf a0 M Post) : pm_C l G H0 yX10_bitsOf cX10_bitsOf 3 (some .int) rm_X10_bitsOf [.int a0] M (pm_Pi (fun r9 M9 => M = M9 ∧ Post r9)) := by
  refine pm_start (by decide +kernel) (Nat.le_of_ble_eq_true rfl) ?_
  intro p e s m args below meth c H ls E hret hnm hI hl
  have hl : lv_has ls 3 [(0, .int a0)] := hl
  have hx := E.1
  have hb := E.2.1
  have hown := E.2.2.2.1
  have hts := E.2.2.2.2.1
  unfold w_X10_bitsOf at hw
  refine lv_iconst (v := (0 : Int32)) hx hb dX10_bitsOf_0 (by decide) ?_
  refine lv_istore_n (lv' := [(1, .int (0 : Int32)), (0, .int a0)]) hx hb dX10_bitsOf_1 rfl hl (by decide) rfl (fun ls hl_1 => ?_)
  refine lv_iconst (v := (0 : Int32)) hx hb dX10_bitsOf_2 (by decide) ?_
  refine lv_istore_n (lv' := [(2, .int (0 : Int32)), (1, .int (0 : Int32)), (0, .int a0)]) hx hb dX10_bitsOf_3 rfl hl_1 (by decide) rfl (fun ls hl_2 => ?_)
  obtain ⟨n_3, hw⟩ := hw
  exact c_X10_bitsOf_4 E hret n_3 _ _ _ _ _ hI (lv_sub hl_2 [2, 1, 0] rfl) hw
set_option maxHeartbeats 4000000 in
set_option maxRecDepth 100000 in
theorem k_X10_isAllowed {l : Launch} {G : pm_G} {H0 : Heap} {th : Nat} {a1 : Int32} {a2 : Int32} {M : pm_M} {Post : Int32 → Prop} (t_th : pm_is M th 9) (hw : w_X10_isAllowed th a1 a2 M Post) : pm_C l G H0 yX10_isAllowed cX10_isAllowed 3 (some .boolean) rm_X10_isAllowed [.ref (H0.size + th), .int a1, .int a2] M (pm_Pi (fun r9 M9 => M = M9 ∧ Post r9)) := by
  refine pm_start (by decide +kernel) (Nat.le_of_ble_eq_true rfl) ?_
  intro p e s m args below meth c H ls E hret hnm hI hl
  have hl : lv_has ls 3 [(0, .ref (H0.size + th)), (1, .int a1), (2, .int a2)] := hl
  have hx := E.1
  have hb := E.2.1
  have hown := E.2.2.2.1
  have hts := E.2.2.2.2.1
  unfold w_X10_isAllowed at hw
  refine lv_aload_n hx hb dX10_isAllowed_0 rfl (lv_at hl 0 rfl) ?_
  obtain ⟨q_1, e_q_1, hw⟩ := hw
  refine gf_X10_21 E hI t_th dX10_isAllowed_1 e_q_1 (fun t_q_1 => ?_)
  refine lv_sipush (v := (4096 : Int32)) hx hb dX10_isAllowed_4 (by decide) ?_
  refine lv_iload_n hx hb dX10_isAllowed_7 rfl (lv_at hl 1 rfl) ?_
  refine lv_imul hx hb dX10_isAllowed_8 ?_
  refine lv_iload_n hx hb dX10_isAllowed_9 rfl (lv_at hl 2 rfl) ?_
  refine lv_iadd hx hb dX10_isAllowed_10 ?_
  obtain ⟨h_2, hw⟩ := hw
  refine pm_zald E hI t_q_1 h_2 dX10_isAllowed_11 ?_
  exact pm_zret E hret hI pm_X.rf (pm_nb hw.1) ⟨_, rfl, rfl, hw.2⟩ (by decide) (by decide) dX10_isAllowed_12
set_option maxHeartbeats 4000000 in
set_option maxRecDepth 100000 in
theorem k_X10_rankOf {l : Launch} {G : pm_G} {H0 : Heap} {th : Nat} {a1 : Int32} {a2 : Int32} {M : pm_M} {Post : Int32 → Prop} (t_th : pm_is M th 9) (hw : w_X10_rankOf th a1 a2 M Post) : pm_C l G H0 yX10_rankOf cX10_rankOf 3 (some .int) rm_X10_rankOf [.ref (H0.size + th), .int a1, .int a2] M (pm_Pi (fun r9 M9 => M = M9 ∧ Post r9)) := by
  refine pm_start (by decide +kernel) (Nat.le_of_ble_eq_true rfl) ?_
  intro p e s m args below meth c H ls E hret hnm hI hl
  have hl : lv_has ls 3 [(0, .ref (H0.size + th)), (1, .int a1), (2, .int a2)] := hl
  have hx := E.1
  have hb := E.2.1
  have hown := E.2.2.2.1
  have hts := E.2.2.2.2.1
  unfold w_X10_rankOf at hw
  refine lv_aload_n hx hb dX10_rankOf_0 rfl (lv_at hl 0 rfl) ?_
  obtain ⟨q_1, e_q_1, hw⟩ := hw
  refine gf_X10_25 E hI t_th dX10_rankOf_1 e_q_1 (fun t_q_1 => ?_)
  refine lv_sipush (v := (4096 : Int32)) hx hb dX10_rankOf_4 (by decide) ?_
  refine lv_iload_n hx hb dX10_rankOf_7 rfl (lv_at hl 1 rfl) ?_
  refine lv_imul hx hb dX10_rankOf_8 ?_
  refine lv_iload_n hx hb dX10_rankOf_9 rfl (lv_at hl 2 rfl) ?_
  refine lv_iadd hx hb dX10_rankOf_10 ?_
  obtain ⟨h_2, hw⟩ := hw
  refine pm_bald E hI t_q_1 h_2 dX10_rankOf_11 ?_
  exact pm_iret E hret hI pm_X.rf ⟨_, rfl, rfl, hw⟩ (by decide) (by decide) dX10_rankOf_12
set_option maxHeartbeats 4000000 in
set_option maxRecDepth 100000 in
theorem c_X10_made_85 {p : Program} {l : Launch} {e : Env} {s : State} {m : MethodId} {args : Array Value} {below : List Frame} {meth : Method} {c : Code} {G : pm_G} {H0 : Heap} {M0 : pm_M} {Post : Int32 → pm_M → Prop} {v0 : Nat} {v1 : Int32} {v2 : Int32} {v3 : Int32} {v4 : Int32} {v5 : Int32} {v6 : Int32} {v7 : Int32} {v8 : Int32} {M : pm_M} {k_9 : Int32 → pm_M → Prop} {k_43 : Int32 → Int32 → Prop} (E : pm_E G p s m args meth c cX10_made 9 RX10) (hret : meth.sig.returnType = (some .int)) (hk_9 : ∀ (v6 : Int32) (M : pm_M) (H : Heap) (locs : List Loc) (ls : Array Slot), pm_X M0 M → pm_I G H0 M H locs → (pm_is M v0 9) → lv_has ls 9 [(0, .ref (H0.size + v0)), (1, .int v1), (2, .int v2), (3, .int v3), (4, .int v4), (5, .int v5), (6, .int v6)] → k_9 v6 M → W p l e rm_X10_made s m args below meth c H locs 0 0 (pm_Z G H0 M0 (pm_Pi Post) below args s rm_X10_made.cells rm_X10_made.slots) (F0 m 9 ls [])) (hk_43 : ∀ (v7 : Int32) (v8 : Int32) (H : Heap) (locs : List Loc) (ls : Array Slot), pm_X M0 M → pm_I G H0 M H locs → (pm_is M v0 9) → lv_has ls 9 [(0, .ref (H0.size + v0)), (1, .int v1), (2, .int v2), (3, .int v3), (4, .int v4), (5, .int v5), (6, .int v6), (7, .int v7), (8, .int v8)] → k_43 v7 v8 → W p l e rm_X10_made s m args below meth c H locs 0 0 (pm_Z G H0 M0 (pm_Pi Post) below args s rm_X10_made.cells rm_X10_made.slots) (F0 m 43 ls [])) {H : Heap} {locs : List Loc} {ls : Array Slot} (hX : pm_X M0 M) (hI : pm_I G H0 M H locs) (t_v0 : pm_is M v0 9) (hl : lv_has ls 9 [(0, .ref (H0.size + v0)), (1, .int v1), (2, .int v2), (3, .int v3), (4, .int v4), (5, .int v5), (6, .int v6), (7, .int v7), (8, .int v8)]) (hw : w_X10_made_85 Post k_9 k_43 v0 v1 v2 v3 v4 v5 v6 v7 v8 M) : W p l e rm_X10_made s m args below meth c H locs 0 0 (pm_Z G H0 M0 (pm_Pi Post) below args s rm_X10_made.cells rm_X10_made.slots) (F0 m 85 ls []) := by
  have hx := E.1
  have hb := E.2.1
  have hown := E.2.2.2.1
  have hts := E.2.2.2.2.1
  unfold w_X10_made_85 at hw
  obtain ⟨x_1, e_x_1⟩ : ∃ z : Int32, z = v8 + (1 : Int32) := ⟨_, rfl⟩
  refine lv_iinc (v := x_1) (lv' := [(8, .int x_1), (0, .ref (H0.size + v0)), (1, .int v1), (2, .int v2), (3, .int v3), (4, .int v4), (5, .int v5), (6, .int v6), (7, .int v7)]) hx hb dX10_made_85 hl (k := 8) rfl (by rw [e_x_1]; rfl) (by decide) rfl (fun ls hl_2 => ?_)
  replace hw := hw x_1 e_x_1
  refine lv_goto (tgt := 43) hx hb dX10_made_88 (by decide) ?_
  exact hk_43 _ _ _ _ _ hX hI t_v0 (lv_sub hl_2 [1, 2, 3, 4, 5, 6, 7, 8, 0] rfl) hw
set_option maxHeartbeats 4000000 in
set_option maxRecDepth 100000 in
theorem c_X10_made_43 {p : Program} {l : Launch} {e : Env} {s : State} {m : MethodId} {args : Array Value} {below : List Frame} {meth : Method} {c : Code} {G : pm_G} {H0 : Heap} {M0 : pm_M} {Post : Int32 → pm_M → Prop} {v0 : Nat} {v1 : Int32} {v2 : Int32} {v3 : Int32} {v4 : Int32} {v5 : Int32} {v6 : Int32} {M : pm_M} {k_9 : Int32 → pm_M → Prop} (E : pm_E G p s m args meth c cX10_made 9 RX10) (hret : meth.sig.returnType = (some .int)) (hk_9 : ∀ (v6 : Int32) (M : pm_M) (H : Heap) (locs : List Loc) (ls : Array Slot), pm_X M0 M → pm_I G H0 M H locs → (pm_is M v0 9) → lv_has ls 9 [(0, .ref (H0.size + v0)), (1, .int v1), (2, .int v2), (3, .int v3), (4, .int v4), (5, .int v5), (6, .int v6)] → k_9 v6 M → W p l e rm_X10_made s m args below meth c H locs 0 0 (pm_Z G H0 M0 (pm_Pi Post) below args s rm_X10_made.cells rm_X10_made.slots) (F0 m 9 ls [])) : ∀ (n : Nat) (v7 : Int32) (v8 : Int32) (H : Heap) (locs : List Loc) (ls : Array Slot), pm_X M0 M → pm_I G H0 M H locs → (pm_is M v0 9) → lv_has ls 9 [(0, .ref (H0.size + v0)), (1, .int v1), (2, .int v2), (3, .int v3), (4, .int v4), (5, .int v5), (6, .int v6), (7, .int v7), (8, .int v8)] → w_X10_made_43 Post k_9 v0 v1 v2 v3 v4 v5 v6 M n v7 v8 → W p l e rm_X10_made s m args below meth c H locs 0 0 (pm_Z G H0 M0 (pm_Pi Post) below args s rm_X10_made.cells rm_X10_made.slots) (F0 m 43 ls []) := by
  have hx := E.1
  have hb := E.2.1
  have hown := E.2.2.2.1
  have hts := E.2.2.2.2.1
  intro n
  induction n with
  | zero =>
    intro v7 v8 H locs ls hX hI t_v0 hl hw
    unfold w_X10_made_43 at hw
    exact hw.elim
  | succ n ih =>
    intro v7 v8 H locs ls hX hI t_v0 hl hw
    unfold w_X10_made_43 at hw
    refine lv_iload hx hb dX10_made_43 (lv_at hl 8 rfl) ?_
    refine lv_aload_n hx hb dX10_made_45 rfl (lv_at hl 0 rfl) ?_
    refine gf_X10_7 E hI t_v0 dX10_made_46 ?_
    refine lv_icmp_ge (tgt := 91) hx hb dX10_made_49 (by decide) (fun h_1 => ?_) (fun h_1 => ?_)
    · replace hw := hw.1 h_1
      refine lv_aload_n hx hb dX10_made_91 rfl (lv_at hl 0 rfl) ?_
      obtain ⟨q_2, e_q_2, hw⟩ := hw
      refine gf_X10_25 E hI t_v0 dX10_made_92 e_q_2 (fun t_q_2 => ?_)
      refine lv_sipush (v := (4096 : Int32)) hx hb dX10_made_95 (by decide) ?_
      refine lv_iload hx hb dX10_made_98 (lv_at hl 5 rfl) ?_
      refine lv_imul hx hb dX10_made_100 ?_
      refine lv_iload hx hb dX10_made_101 (lv_at hl 6 rfl) ?_
      refine lv_iadd hx hb dX10_made_103 ?_
      refine lv_iload hx hb dX10_made_104 (lv_at hl 7 rfl) ?_
      refine lv_i2b hx hb dX10_made_106 rfl ?_
      obtain ⟨h_3, hw⟩ := hw
      refine ps_bast E hI t_q_2 h_3 dX10_made_107 (fun H locs M_4 e_M_4 hX1 hI => ?_)
      replace hw := hw M_4 e_M_4
      replace t_v0 := t_v0.x hX1
      replace hX := hX.tr hX1
      obtain ⟨x_5, e_x_5⟩ : ∃ z : Int32, z = v6 + (1 : Int32) := ⟨_, rfl⟩
      refine lv_iinc (v := x_5) (lv' := [(6, .int x_5), (0, .ref (H0.size + v0)), (1, .int v1), (2, .int v2), (3, .int v3), (4, .int v4), (5, .int v5), (7, .int v7), (8, .int v8)]) hx hb dX10_made_108 hl (k := 6) rfl (by rw [e_x_5]; rfl) (by decide) rfl (fun ls hl_6 => ?_)
      replace hw := hw x_5 e_x_5
      refine lv_goto (tgt := 9) hx hb dX10_made_111 (by decide) ?_
      exact hk_9 _ _ _ _ _ hX hI t_v0 (lv_sub hl_6 [1, 2, 3, 4, 5, 6, 0] rfl) hw
    · replace hw := hw.2 h_1
      refine lv_iload hx hb dX10_made_52 (lv_at hl 6 rfl) ?_
      refine lv_iload hx hb dX10_made_54 (lv_at hl 8 rfl) ?_
      refine lv_ishr hx hb dX10_made_56 ?_
      refine lv_iconst (v := (1 : Int32)) hx hb dX10_made_57 (by decide) ?_
      refine lv_iand hx hb dX10_made_58 ?_
      refine lv_iconst (v := (1 : Int32)) hx hb dX10_made_59 (by decide) ?_
      refine lv_icmp_ne (tgt := 85) hx hb dX10_made_60 (by decide) (fun h_7 => ?_) (fun h_7 => ?_)
      · replace hw := hw.1 h_7
        exact c_X10_made_85 E hret hk_9 ih hX hI t_v0 (lv_sub hl [0, 1, 2, 3, 4, 5, 6, 7, 8] rfl) hw
      · replace hw := hw.2 h_7
        refine lv_iload hx hb dX10_made_63 (lv_at hl 7 rfl) ?_
        refine lv_aload_n hx hb dX10_made_65 rfl (lv_at hl 0 rfl) ?_
        refine lv_iload hx hb dX10_made_66 (lv_at hl 5 rfl) ?_
        refine lv_iload hx hb dX10_made_68 (lv_at hl 6 rfl) ?_
        refine lv_iconst (v := (1 : Int32)) hx hb dX10_made_70 (by decide) ?_
        refine lv_iload hx hb dX10_made_71 (lv_at hl 8 rfl) ?_
        refine lv_ishl hx hb dX10_made_73 ?_
        refine lv_iconst (v := (-1 : Int32)) hx hb dX10_made_74 (by decide) ?_
        refine lv_ixor hx hb dX10_made_75 ?_
        refine lv_iand hx hb dX10_made_76 ?_
        refine pm_callV (As := [.int v5, .int (v6 &&& (((1 : Int32) <<< (v8 &&& 31)) ^^^ (-1 : Int32)))]) (rest := [.int v7]) 2 E hI (k_X10_rankOf t_v0 hw) t_v0 (by decide) rfl kc_X10_rankOf kl_X10_108 km_X10_rankOf ks_X10_rankOf ki_X10 (by decide +kernel) ⟨by decide, by decide⟩ rfl hl.1 rfl (by first | exact Nat.le_of_ble_eq_true rfl | (simp only [List.map, pm_rf_cat]; exact Nat.le_of_ble_eq_true rfl)) dX10_made_77 ⟨by decide, by decide⟩ (fun r9 M9 H locs hp hX1 hI => ?_)
        clear hw
        obtain ⟨r_8, rfl, rfl, hw⟩ := hp
        refine pm_nrm (cells' := 0) (slots' := 0) (g2 := F0 m 80 ls [.int r_8, .int v7]) rfl rfl rfl ?_
        refine pm_callS (As := [.int v7, .int r_8]) (rest := []) 2 E hI (k_J9_max_7cf53 hw) kc_J9_max_7cf53 kl_X10_111 kt_J9_max_7cf53 ki_J9 (by decide +kernel) ⟨by decide, by decide⟩ rfl hl.1 rfl (by first | exact Nat.le_of_ble_eq_true rfl | (simp only [List.map, pm_rf_cat]; exact Nat.le_of_ble_eq_true rfl)) dX10_made_80 ⟨by decide, by decide⟩ (fun r9 M9 H locs hp hX1 hI => ?_)
        clear hw
        obtain ⟨r_9, rfl, rfl, hw⟩ := hp
        refine pm_nrm (cells' := 0) (slots' := 0) (g2 := F0 m 83 ls [.int r_9]) rfl rfl rfl ?_
        refine lv_istore (lv' := [(7, .int r_9), (0, .ref (H0.size + v0)), (1, .int v1), (2, .int v2), (3, .int v3), (4, .int v4), (5, .int v5), (6, .int v6), (8, .int v8)]) hx hb dX10_made_83 hl (by decide) rfl (fun ls hl_10 => ?_)
        exact c_X10_made_85 E hret hk_9 ih hX hI t_v0 (lv_sub hl_10 [1, 2, 3, 4, 5, 6, 7, 0, 8] rfl) hw
set_option maxHeartbeats 4000000 in
set_option maxRecDepth 100000 in
theorem c_X10_made_38 {p : Program} {l : Launch} {e : Env} {s : State} {m : MethodId} {args : Array Value} {below : List Frame} {meth : Method} {c : Code} {G : pm_G} {H0 : Heap} {M0 : pm_M} {Post : Int32 → pm_M → Prop} {v0 : Nat} {v1 : Int32} {v2 : Int32} {v3 : Int32} {v4 : Int32} {v5 : Int32} {v6 : Int32} {s0 : Int32} {M : pm_M} {k_9 : Int32 → pm_M → Prop} (E : pm_E G p s m args meth c cX10_made 9 RX10) (hret : meth.sig.returnType = (some .int)) (hk_9 : ∀ (v6 : Int32) (M : pm_M) (H : Heap) (locs : List Loc) (ls : Array Slot), pm_X M0 M → pm_I G H0 M H locs → (pm_is M v0 9) → lv_has ls 9 [(0, .ref (H0.size + v0)), (1, .int v1), (2, .int v2), (3, .int v3), (4, .int v4), (5, .int v5), (6, .int v6)] → k_9 v6 M → W p l e rm_X10_made s m args below meth c H locs 0 0 (pm_Z G H0 M0 (pm_Pi Post) below args s rm_X10_made.cells rm_X10_made.slots) (F0 m 9 ls [])) {H : Heap} {locs : List Loc} {ls : Array Slot} (hX : pm_X M0 M) (hI : pm_I G H0 M H locs) (t_v0 : pm_is M v0 9) (hl : lv_has ls 9 [(0, .ref (H0.size + v0)), (1, .int v1), (2, .int v2), (3, .int v3), (4, .int v4), (5, .int v5), (6, .int v6)]) (hw : w_X10_made_38 Post k_9 v0 v1 v2 v3 v4 v5 v6 s0 M) : W p l e rm_X10_made s m args below meth c H locs 0 0 (pm_Z G H0 M0 (pm_Pi Post) below args s rm_X10_made.cells rm_X10_made.slots) (F0 m 38 ls [.int s0]) := by
  have hx := E.1
  have hb := E.2.1
  have hown := E.2.2.2.1
  have hts := E.2.2.2.2.1
  unfold w_X10_made_38 at hw
  refine lv_istore (lv' := [(7, .int s0), (0, .ref (H0.size + v0)), (1, .int v1), (2, .int v2), (3, .int v3), (4, .int v4), (5, .int v5), (6, .int v6)]) hx hb dX10_made_38 hl (by decide) rfl (fun ls hl_1 => ?_)
  refine lv_iconst (v := (0 : Int32)) hx hb dX10_made_40 (by decide) ?_
  refine lv_istore (lv' := [(8, .int (0 : Int32)), (7, .int s0), (0, .ref (H0.size + v0)), (1, .int v1), (2, .int v2), (3, .int v3), (4, .int v4), (5, .int v5), (6, .int v6)]) hx hb dX10_made_41 hl_1 (by decide) rfl (fun ls hl_2 => ?_)
  obtain ⟨n_3, hw⟩ := hw
  exact c_X10_made_43 E hret hk_9 n_3 _ _ _ _ _ hX hI t_v0 (lv_sub hl_2 [2, 3, 4, 5, 6, 7, 8, 1, 0] rfl) hw
set_option maxHeartbeats 4000000 in
set_option maxRecDepth 100000 in
theorem c_X10_made_9 {p : Program} {l : Launch} {e : Env} {s : State} {m : MethodId} {args : Array Value} {below : List Frame} {meth : Method} {c : Code} {G : pm_G} {H0 : Heap} {M0 : pm_M} {Post : Int32 → pm_M → Prop} {v0 : Nat} {v1 : Int32} {v2 : Int32} {v3 : Int32} {v4 : Int32} {v5 : Int32} (E : pm_E G p s m args meth c cX10_made 9 RX10) (hret : meth.sig.returnType = (some .int)) : ∀ (n : Nat) (v6 : Int32) (M : pm_M) (H : Heap) (locs : List Loc) (ls : Array Slot), pm_X M0 M → pm_I G H0 M H locs → (pm_is M v0 9) → lv_has ls 9 [(0, .ref (H0.size + v0)), (1, .int v1), (2, .int v2), (3, .int v3), (4, .int v4), (5, .int v5), (6, .int v6)] → w_X10_made_9 Post v0 v1 v2 v3 v4 v5 n v6 M → W p l e rm_X10_made s m args below meth c H locs 0 0 (pm_Z G H0 M0 (pm_Pi Post) below args s rm_X10_made.cells rm_X10_made.slots) (F0 m 9 ls []) := by
  have hx := E.1
  have hb := E.2.1
  have hown := E.2.2.2.1
  have hts := E.2.2.2.2.1
  intro n
  induction n with
  | zero =>
    intro v6 M H locs ls hX hI t_v0 hl hw
    unfold w_X10_made_9 at hw
    exact hw.elim
  | succ n ih =>
    intro v6 M H locs ls hX hI t_v0 hl hw
    unfold w_X10_made_9 at hw
    refine lv_iload hx hb dX10_made_9 (lv_at hl 6 rfl) ?_
    refine lv_aload_n hx hb dX10_made_11 rfl (lv_at hl 0 rfl) ?_
    refine gf_X10_13 E hI t_v0 dX10_made_12 ?_
    refine lv_icmp_gt (tgt := 114) hx hb dX10_made_15 (by decide) (fun h_1 => ?_) (fun h_1 => ?_)
    · replace hw := hw.1 h_1
      refine lv_aload_n hx hb dX10_made_114 rfl (lv_at hl 0 rfl) ?_
      obtain ⟨q_2, e_q_2, hw⟩ := hw
      refine gf_X10_29 E hI t_v0 dX10_made_115 e_q_2 (fun t_q_2 => ?_)
      refine lv_iload hx hb dX10_made_118 (lv_at hl 5 rfl) ?_
      refine lv_iload_n hx hb dX10_made_120 rfl (lv_at hl 1 rfl) ?_
      obtain ⟨h_3, hw⟩ := hw
      refine ps_iast E hI t_q_2 h_3 dX10_made_121 (fun H locs M_4 e_M_4 hX1 hI => ?_)
      replace hw := hw M_4 e_M_4
      replace t_v0 := t_v0.x hX1
      replace hX := hX.tr hX1
      refine lv_aload_n hx hb dX10_made_122 rfl (lv_at hl 0 rfl) ?_
      obtain ⟨q_5, e_q_5, hw⟩ := hw
      refine gf_X10_32 E hI t_v0 dX10_made_123 e_q_5 (fun t_q_5 => ?_)
      refine lv_iload hx hb dX10_made_126 (lv_at hl 5 rfl) ?_
      refine lv_iload_n hx hb dX10_made_128 rfl (lv_at hl 2 rfl) ?_
      obtain ⟨h_6, hw⟩ := hw
      refine ps_iast E hI t_q_5 h_6 dX10_made_129 (fun H locs M_7 e_M_7 hX1 hI => ?_)
      replace hw := hw M_7 e_M_7
      replace t_v0 := t_v0.x hX1
      replace hX := hX.tr hX1
      refine lv_aload_n hx hb dX10_made_130 rfl (lv_at hl 0 rfl) ?_
      obtain ⟨q_8, e_q_8, hw⟩ := hw
      refine gf_X10_35 E hI t_v0 dX10_made_131 e_q_8 (fun t_q_8 => ?_)
      refine lv_iload hx hb dX10_made_134 (lv_at hl 5 rfl) ?_
      refine lv_iload_n hx hb dX10_made_136 rfl (lv_at hl 3 rfl) ?_
      obtain ⟨h_9, hw⟩ := hw
      refine ps_iast E hI t_q_8 h_9 dX10_made_137 (fun H locs M_10 e_M_10 hX1 hI => ?_)
      replace hw := hw M_10 e_M_10
      replace t_v0 := t_v0.x hX1
      replace hX := hX.tr hX1
      refine lv_aload_n hx hb dX10_made_138 rfl (lv_at hl 0 rfl) ?_
      obtain ⟨q_11, e_q_11, hw⟩ := hw
      refine gf_X10_38 E hI t_v0 dX10_made_139 e_q_11 (fun t_q_11 => ?_)
      refine lv_iload hx hb dX10_made_142 (lv_at hl 5 rfl) ?_
      refine lv_iload hx hb dX10_made_144 (lv_at hl 4 rfl) ?_
      obtain ⟨h_12, hw⟩ := hw
      refine ps_iast E hI t_q_11 h_12 dX10_made_146 (fun H locs M_13 e_M_13 hX1 hI => ?_)
      replace hw := hw M_13 e_M_13
      replace t_v0 := t_v0.x hX1
      replace hX := hX.tr hX1
      refine lv_aload_n hx hb dX10_made_147 rfl (lv_at hl 0 rfl) ?_
      refine lv_dup hx hb dX10_made_148 rfl ?_
      refine gf_X10_85 E hI t_v0 dX10_made_149 ?_
      refine lv_iconst (v := (1 : Int32)) hx hb dX10_made_152 (by decide) ?_
      refine lv_iadd hx hb dX10_made_153 ?_
      refine pf_X10_85 E hI t_v0 dX10_made_154 (fun H locs M_14 e_M_14 hX1 hI => ?_)
      replace hw := hw M_14 e_M_14
      replace t_v0 := t_v0.x hX1
      replace hX := hX.tr hX1
      refine lv_iload hx hb dX10_made_157 (lv_at hl 5 rfl) ?_
      exact pm_iret E hret hI hX ⟨_, rfl, hw⟩ (by decide) (by decide) dX10_made_159
    · replace hw := hw.2 h_1
      refine lv_aload_n hx hb dX10_made_18 rfl (lv_at hl 0 rfl) ?_
      refine lv_iload hx hb dX10_made_19 (lv_at hl 5 rfl) ?_
      refine lv_iload hx hb dX10_made_21 (lv_at hl 6 rfl) ?_
      refine pm_callV (As := [.int v5, .int v6]) (rest := []) 2 E hI (k_X10_isAllowed t_v0 hw) t_v0 (by decide) rfl kc_X10_isAllowed kl_X10_100 km_X10_isAllowed ks_X10_isAllowed ki_X10 (by decide +kernel) ⟨by decide, by decide⟩ rfl hl.1 rfl (by first | exact Nat.le_of_ble_eq_true rfl | (simp only [List.map, pm_rf_cat]; exact Nat.le_of_ble_eq_true rfl)) dX10_made_23 ⟨by decide, by decide⟩ (fun r9 M9 H locs hp hX1 hI => ?_)
      clear hw
      obtain ⟨r_15, rfl, rfl, hw⟩ := hp
      refine pm_nrm (cells' := 0) (slots' := 0) (g2 := F0 m 26 ls [.int r_15]) rfl rfl rfl ?_
      refine lv_if_eq (tgt := 37) hx hb dX10_made_26 (by decide) (fun h_16 => ?_) (fun h_16 => ?_)
      · replace hw := hw.1 h_16
        refine lv_iconst (v := (0 : Int32)) hx hb dX10_made_37 (by decide) ?_
        exact c_X10_made_38 E hret ih hX hI t_v0 (lv_sub hl [0, 1, 2, 3, 4, 5, 6] rfl) hw
      · replace hw := hw.2 h_16
        refine lv_iload hx hb dX10_made_29 (lv_at hl 6 rfl) ?_
        refine pm_callS (As := [.int v6]) (rest := []) 1 E hI (k_X10_bitsOf hw) kc_X10_bitsOf kl_X10_104 kt_X10_bitsOf ki_X10 (by decide +kernel) ⟨by decide, by decide⟩ rfl hl.1 rfl (by first | exact Nat.le_of_ble_eq_true rfl | (simp only [List.map, pm_rf_cat]; exact Nat.le_of_ble_eq_true rfl)) dX10_made_31 ⟨by decide, by decide⟩ (fun r9 M9 H locs hp hX1 hI => ?_)
        clear hw
        obtain ⟨r_17, rfl, rfl, hw⟩ := hp
        refine pm_nrm (cells' := 0) (slots' := 0) (g2 := F0 m 34 ls [.int r_17]) rfl rfl rfl ?_
        refine lv_goto (tgt := 38) hx hb dX10_made_34 (by decide) ?_
        exact c_X10_made_38 E hret ih hX hI t_v0 (lv_sub hl [0, 1, 2, 3, 4, 5, 6] rfl) hw
set_option maxHeartbeats 4000000 in
set_option maxRecDepth 100000 in
theorem k_X10_made {l : Launch} {G : pm_G} {H0 : Heap} {th : Nat} {a1 : Int32} {a2 : Int32} {a3 : Int32} {a4 : Int32} {M : pm_M} {Post : Int32 → pm_M → Prop} (t_th : pm_is M th 9) (hw : w_X10_made th a1 a2 a3 a4 M Post) : pm_C l G H0 yX10_made cX10_made 9 (some .int) rm_X10_made [.ref (H0.size + th), .int a1, .int a2, .int a3, .int a4] M (pm_Pi Post) := by
  refine pm_start (by decide +kernel) (Nat.le_of_ble_eq_true rfl) ?_
  intro p e s m args below meth c H ls E hret hnm hI hl
  have hX : pm_X M M := pm_X.rf
  have hl : lv_has ls 9 [(0, .ref (H0.size + th)), (1, .int a1), (2, .int a2), (3, .int a3), (4, .int a4)] := hl
  have hx := E.1
  have hb := E.2.1
  have hown := E.2.2.2.1
  have hts := E.2.2.2.2.1
  unfold w_X10_made at hw
  refine lv_aload_n hx hb dX10_made_0 rfl (lv_at hl 0 rfl) ?_
  refine gf_X10_85 E hI t_th dX10_made_1 ?_
  refine lv_topi (fun x_1 e_x_1 => ?_)
  replace hw := hw x_1 e_x_1
  refine lv_istore (lv' := [(5, .int x_1), (0, .ref (H0.size + th)), (1, .int a1), (2, .int a2), (3, .int a3), (4, .int a4)]) hx hb dX10_made_4 hl (by decide) rfl (fun ls hl_2 => ?_)
  refine lv_iconst (v := (0 : Int32)) hx hb dX10_made_6 (by decide) ?_
  refine lv_istore (lv' := [(6, .int (0 : Int32)), (5, .int x_1), (0, .ref (H0.size + th)), (1, .int a1), (2, .int a2), (3, .int a3), (4, .int a4)]) hx hb dX10_made_7 hl_2 (by decide) rfl (fun ls hl_3 => ?_)
  obtain ⟨n_4, hw⟩ := hw
  exact c_X10_made_9 E hret n_4 _ _ _ _ _ hX hI t_th (lv_sub hl_3 [2, 3, 4, 5, 6, 1, 0] rfl) hw
set_option maxHeartbeats 4000000 in
set_option maxRecDepth 100000 in
theorem c_X10_next_79 {p : Program} {l : Launch} {e : Env} {s : State} {m : MethodId} {args : Array Value} {below : List Frame} {meth : Method} {c : Code} {G : pm_G} {H0 : Heap} {M0 : pm_M} {Post : Int32 → pm_M → Prop} {v0 : Nat} {M : pm_M} (E : pm_E G p s m args meth c cX10_next 7 RX10) (hret : meth.sig.returnType = (some .int)) {H : Heap} {locs : List Loc} {ls : Array Slot} (hX : pm_X M0 M) (hI : pm_I G H0 M H locs) (t_v0 : pm_is M v0 9) (hl : lv_has ls 7 [(0, .ref (H0.size + v0))]) (hw : w_X10_next_79 Post v0 M) : W p l e rm_X10_next s m args below meth c H locs 0 0 (pm_Z G H0 M0 (pm_Pi Post) below args s rm_X10_next.cells rm_X10_next.slots) (F0 m 79 ls []) := by
  have hx := E.1
  have hb := E.2.1
  have hown := E.2.2.2.1
  have hts := E.2.2.2.2.1
  unfold w_X10_next_79 at hw
  refine lv_aload_n hx hb dX10_next_79 rfl (lv_at hl 0 rfl) ?_
  refine lv_bipush (v := (-4 : Int32)) hx hb dX10_next_80 (by decide) ?_
  refine pf_X10_116 E hI t_v0 dX10_next_82 (fun H locs M_1 e_M_1 hX1 hI => ?_)
  replace hw := hw M_1 e_M_1
  replace t_v0 := t_v0.x hX1
  replace hX := hX.tr hX1
  refine lv_iconst (v := (0 : Int32)) hx hb dX10_next_85 (by decide) ?_
  exact pm_iret E hret hI hX ⟨_, rfl, hw⟩ (by decide) (by decide) dX10_next_86
set_option maxHeartbeats 4000000 in
set_option maxRecDepth 100000 in
theorem k_X10_next {l : Launch} {G : pm_G} {H0 : Heap} {th : Nat} {a1 : Int64} {a3 : Int64} {M : pm_M} {Post : Int32 → pm_M → Prop} (t_th : pm_is M th 9) (hw : w_X10_next th a1 a3 M Post) : pm_C l G H0 yX10_next cX10_next 7 (some .int) rm_X10_next [.ref (H0.size + th), .long a1, .long a3] M (pm_Pi Post) := by
  refine pm_start (by decide +kernel) (Nat.le_of_ble_eq_true rfl) ?_
  intro p e s m args below meth c H ls E hret hnm hI hl
  have hX : pm_X M M := pm_X.rf
  have hl : lv_has ls 7 [(0, .ref (H0.size + th)), (1, .long a1), (3, .long a3)] := hl
  have hx := E.1
  have hb := E.2.1
  have hown := E.2.2.2.1
  have hts := E.2.2.2.2.1
  unfold w_X10_next at hw
  refine lv_aload_n hx hb dX10_next_0 rfl (lv_at hl 0 rfl) ?_
  refine gf_X10_116 E hI t_th dX10_next_1 ?_
  refine lv_if_eq (tgt := 9) hx hb dX10_next_4 (by decide) (fun h_1 => ?_) (fun h_1 => ?_)
  · replace hw := hw.1 h_1
    refine lv_aload_n hx hb dX10_next_9 rfl (lv_at hl 0 rfl) ?_
    refine gf_X10_119 E hI t_th dX10_next_10 ?_
    refine lv_aload_n hx hb dX10_next_13 rfl (lv_at hl 0 rfl) ?_
    obtain ⟨q_2, e_q_2, hw⟩ := hw
    refine gf_X10_44 E hI t_th dX10_next_14 e_q_2 (fun t_q_2 => ?_)
    refine lv_aload_n hx hb dX10_next_17 rfl (lv_at hl 0 rfl) ?_
    refine gf_X10_122 E hI t_th dX10_next_18 ?_
    obtain ⟨h_3, hw⟩ := hw
    refine pm_iald E hI t_q_2 h_3 dX10_next_21 ?_
    refine lv_iconst (v := (1 : Int32)) hx hb dX10_next_22 (by decide) ?_
    refine lv_isub hx hb dX10_next_23 ?_
    refine lv_icmp_lt (tgt := 35) hx hb dX10_next_24 (by decide) (fun h_4 => ?_) (fun h_4 => ?_)
    · replace hw := hw.1 h_4
      refine lv_aload_n hx hb dX10_next_35 rfl (lv_at hl 0 rfl) ?_
      obtain ⟨q_5, e_q_5, hw⟩ := hw
      refine gf_X10_50 E hI t_th dX10_next_36 e_q_5 (fun t_q_5 => ?_)
      refine lv_sipush (v := (200 : Int32)) hx hb dX10_next_39 (by decide) ?_
      refine lv_aload_n hx hb dX10_next_42 rfl (lv_at hl 0 rfl) ?_
      refine gf_X10_122 E hI t_th dX10_next_43 ?_
      refine lv_imul hx hb dX10_next_46 ?_
      refine lv_aload_n hx hb dX10_next_47 rfl (lv_at hl 0 rfl) ?_
      refine gf_X10_119 E hI t_th dX10_next_48 ?_
      refine lv_iadd hx hb dX10_next_51 ?_
      obtain ⟨h_6, hw⟩ := hw
      refine pm_lald E hI t_q_5 h_6 dX10_next_52 ?_
      refine lv_topl (fun x_7 e_x_7 => ?_)
      replace hw := hw x_7 e_x_7
      refine lv_lstore (lv' := [(5, .long x_7), (0, .ref (H0.size + th)), (1, .long a1), (3, .long a3)]) hx hb dX10_next_53 hl (by decide) rfl (fun ls hl_8 => ?_)
      refine lv_aload_n hx hb dX10_next_55 rfl (lv_at hl_8 1 rfl) ?_
      refine lv_dup hx hb dX10_next_56 rfl ?_
      refine gf_X10_119 E hI t_th dX10_next_57 ?_
      refine lv_iconst (v := (1 : Int32)) hx hb dX10_next_60 (by decide) ?_
      refine lv_iadd hx hb dX10_next_61 ?_
      refine pf_X10_119 E hI t_th dX10_next_62 (fun H locs M_9 e_M_9 hX1 hI => ?_)
      replace hw := hw M_9 e_M_9
      replace t_th := t_th.x hX1
      replace hX := hX.tr hX1
      refine lv_lload hx hb dX10_next_65 (lv_at hl_8 0 rfl) ?_
      refine lv_lload_n hx hb dX10_next_67 rfl (lv_at hl_8 2 rfl) ?_
      refine W.lcmp hx hb dX10_next_68 ?_
      refine lv_if_lt (tgt := 79) hx hb dX10_next_69 (by decide) (fun h_10 => ?_) (fun h_10 => ?_)
      · replace hw := hw.1 h_10
        exact c_X10_next_79 E hret hX hI t_th (lv_sub hl_8 [1] rfl) hw
      · replace hw := hw.2 h_10
        refine lv_lload hx hb dX10_next_72 (lv_at hl_8 0 rfl) ?_
        refine lv_lload_n hx hb dX10_next_74 rfl (lv_at hl_8 3 rfl) ?_
        refine W.lcmp hx hb dX10_next_75 ?_
        refine lv_if_le (tgt := 87) hx hb dX10_next_76 (by decide) (fun h_11 => ?_) (fun h_11 => ?_)
        · replace hw := hw.1 h_11
          refine lv_lload hx hb dX10_next_87 (lv_at hl_8 0 rfl) ?_
          refine lv_l2i hx hb dX10_next_89 rfl ?_
          exact pm_iret E hret hI hX ⟨_, rfl, hw⟩ (by decide) (by decide) dX10_next_90
        · replace hw := hw.2 h_11
          exact c_X10_next_79 E hret hX hI t_th (lv_sub hl_8 [1] rfl) hw
    · replace hw := hw.2 h_4
      refine lv_aload_n hx hb dX10_next_27 rfl (lv_at hl 0 rfl) ?_
      refine lv_bipush (v := (-6 : Int32)) hx hb dX10_next_28 (by decide) ?_
      refine pf_X10_116 E hI t_th dX10_next_30 (fun H locs M_12 e_M_12 hX1 hI => ?_)
      replace hw := hw M_12 e_M_12
      replace t_th := t_th.x hX1
      replace hX := hX.tr hX1
      refine lv_iconst (v := (0 : Int32)) hx hb dX10_next_33 (by decide) ?_
      exact pm_iret E hret hI hX ⟨_, rfl, hw⟩ (by decide) (by decide) dX10_next_34
  · replace hw := hw.2 h_1
    refine lv_iconst (v := (0 : Int32)) hx hb dX10_next_7 (by decide) ?_
    exact pm_iret E hret hI hX ⟨_, rfl, hw⟩ (by decide) (by decide) dX10_next_8
set_option maxHeartbeats 4000000 in
set_option maxRecDepth 100000 in
theorem k_X10_allow {l : Launch} {G : pm_G} {H0 : Heap} {th : Nat} {a1 : Int32} {M : pm_M} {Post : pm_M → Prop} (t_th : pm_is M th 9) (hw : w_X10_allow th a1 M Post) : pm_C l G H0 yX10_allow cX10_allow 2 none rm_X10_allow [.ref (H0.size + th), .int a1] M (pm_Pv Post) := by
  refine pm_start (by decide +kernel) (Nat.le_of_ble_eq_true rfl) ?_
  intro p e s m args below meth c H ls E hret hnm hI hl
  have hX : pm_X M M := pm_X.rf
  have hl : lv_has ls 2 [(0, .ref (H0.size + th)), (1, .int a1)] := hl
  have hx := E.1
  have hb := E.2.1
  have hown := E.2.2.2.1
  have hts := E.2.2.2.2.1
  unfold w_X10_allow at hw
  refine lv_aload_n hx hb dX10_allow_0 rfl (lv_at hl 0 rfl) ?_
  obtain ⟨q_1, e_q_1, hw⟩ := hw
  refine gf_X10_21 E hI t_th dX10_allow_1 e_q_1 (fun t_q_1 => ?_)
  refine lv_sipush (v := (4096 : Int32)) hx hb dX10_allow_4 (by decide) ?_
  refine lv_aload_n hx hb dX10_allow_7 rfl (lv_at hl 0 rfl) ?_
  refine gf_X10_85 E hI t_th dX10_allow_8 ?_
  refine lv_imul hx hb dX10_allow_11 ?_
  refine lv_iload_n hx hb dX10_allow_12 rfl (lv_at hl 1 rfl) ?_
  refine lv_iadd hx hb dX10_allow_13 ?_
  refine lv_iconst (v := (1 : Int32)) hx hb dX10_allow_14 (by decide) ?_
  obtain ⟨h_2, hw⟩ := hw
  refine ps_zast E hI t_q_1 h_2 dX10_allow_15 (fun H locs M_3 e_M_3 hX1 hI => ?_)
  replace hw := hw M_3 e_M_3
  replace t_th := t_th.x hX1
  replace hX := hX.tr hX1
  exact pm_vret E hret hI hX ⟨rfl, hw⟩ (by decide) (by decide) dX10_allow_16
set_option maxHeartbeats 4000000 in
set_option maxRecDepth 100000 in
theorem k_X10_breaks {l : Launch} {G : pm_G} {H0 : Heap} {th : Nat} {a1 : Int32} {a2 : Int32} {a3 : Int32} {M : pm_M} {Post : Int32 → pm_M → Prop} (t_th : pm_is M th 9) (hw : w_X10_breaks th a1 a2 a3 M Post) : pm_C l G H0 yX10_breaks cX10_breaks 4 (some .boolean) rm_X10_breaks [.ref (H0.size + th), .int a1, .int a2, .int a3] M (pm_Pi Post) := by
  refine pm_start (by decide +kernel) (Nat.le_of_ble_eq_true rfl) ?_
  intro p e s m args below meth c H ls E hret hnm hI hl
  have hX : pm_X M M := pm_X.rf
  have hl : lv_has ls 4 [(0, .ref (H0.size + th)), (1, .int a1), (2, .int a2), (3, .int a3)] := hl
  have hx := E.1
  have hb := E.2.1
  have hown := E.2.2.2.1
  have hts := E.2.2.2.2.1
  unfold w_X10_breaks at hw
  refine lv_aload_n hx hb dX10_breaks_0 rfl (lv_at hl 0 rfl) ?_
  obtain ⟨q_1, e_q_1, hw⟩ := hw
  refine gf_X10_41 E hI t_th dX10_breaks_1 e_q_1 (fun t_q_1 => ?_)
  refine lv_iconst (v := (0 : Int32)) hx hb dX10_breaks_4 (by decide) ?_
  refine lv_iload_n hx hb dX10_breaks_5 rfl (lv_at hl 1 rfl) ?_
  obtain ⟨h_2, hw⟩ := hw
  refine ps_iast E hI t_q_1 h_2 dX10_breaks_6 (fun H locs M_3 e_M_3 hX1 hI => ?_)
  replace hw := hw M_3 e_M_3
  replace t_th := t_th.x hX1
  replace hX := hX.tr hX1
  refine lv_aload_n hx hb dX10_breaks_7 rfl (lv_at hl 0 rfl) ?_
  obtain ⟨q_4, e_q_4, hw⟩ := hw
  refine gf_X10_41 E hI t_th dX10_breaks_8 e_q_4 (fun t_q_4 => ?_)
  refine lv_iconst (v := (1 : Int32)) hx hb dX10_breaks_11 (by decide) ?_
  refine lv_iload_n hx hb dX10_breaks_12 rfl (lv_at hl 2 rfl) ?_
  obtain ⟨h_5, hw⟩ := hw
  refine ps_iast E hI t_q_4 h_5 dX10_breaks_13 (fun H locs M_6 e_M_6 hX1 hI => ?_)
  replace hw := hw M_6 e_M_6
  replace t_th := t_th.x hX1
  replace hX := hX.tr hX1
  refine lv_aload_n hx hb dX10_breaks_14 rfl (lv_at hl 0 rfl) ?_
  obtain ⟨q_7, e_q_7, hw⟩ := hw
  refine gf_X10_41 E hI t_th dX10_breaks_15 e_q_7 (fun t_q_7 => ?_)
  refine lv_iconst (v := (2 : Int32)) hx hb dX10_breaks_18 (by decide) ?_
  refine lv_iload_n hx hb dX10_breaks_19 rfl (lv_at hl 3 rfl) ?_
  obtain ⟨h_8, hw⟩ := hw
  refine ps_iast E hI t_q_7 h_8 dX10_breaks_20 (fun H locs M_9 e_M_9 hX1 hI => ?_)
  replace hw := hw M_9 e_M_9
  replace t_th := t_th.x hX1
  replace hX := hX.tr hX1
  refine lv_iconst (v := (1 : Int32)) hx hb dX10_breaks_21 (by decide) ?_
  exact pm_zret E hret hI hX rfl ⟨_, rfl, hw⟩ (by decide) (by decide) dX10_breaks_22
set_option maxHeartbeats 4000000 in
set_option maxRecDepth 100000 in
theorem c_X10_breaks__216 {p : Program} {l : Launch} {e : Env} {s : State} {m : MethodId} {args : Array Value} {below : List Frame} {meth : Method} {c : Code} {G : pm_G} {H0 : Heap} {M0 : pm_M} {Post : Int32 → pm_M → Prop} {v0 : Nat} {v1 : Int32} {v2 : Int32} {M : pm_M} {k_87 : Int32 → pm_M → Prop} (E : pm_E G p s m args meth c cX10_breaks_ 6 RX10) (hret : meth.sig.returnType = (some .boolean)) (hk_87 : ∀ (v2 : Int32) (M : pm_M) (H : Heap) (locs : List Loc) (ls : Array Slot), pm_X M0 M → pm_I G H0 M H locs → (pm_is M v0 9) → lv_has ls 6 [(0, .ref (H0.size + v0)), (1, .int v1), (2, .int v2)] → k_87 v2 M → W p l e rm_X10_breaks_ s m args below meth c H locs 0 0 (pm_Z G H0 M0 (pm_Pi Post) below args s rm_X10_breaks_.cells rm_X10_breaks_.slots) (F0 m 87 ls [])) {H : Heap} {locs : List Loc} {ls : Array Slot} (hX : pm_X M0 M) (hI : pm_I G H0 M H locs) (t_v0 : pm_is M v0 9) (hl : lv_has ls 6 [(0, .ref (H0.size + v0)), (1, .int v1), (2, .int v2)]) (hw : w_X10_breaks__216 Post k_87 v0 v1 v2 M) : W p l e rm_X10_breaks_ s m args below meth c H locs 0 0 (pm_Z G H0 M0 (pm_Pi Post) below args s rm_X10_breaks_.cells rm_X10_breaks_.slots) (F0 m 216 ls []) := by
  have hx := E.1
  have hb := E.2.1
  have hown := E.2.2.2.1
  have hts := E.2.2.2.2.1
  unfold w_X10_breaks__216 at hw
  obtain ⟨x_1, e_x_1⟩ : ∃ z : Int32, z = v2 + (1 : Int32) := ⟨_, rfl⟩
  refine lv_iinc (v := x_1) (lv' := [(2, .int x_1), (0, .ref (H0.size + v0)), (1, .int v1)]) hx hb dX10_breaks__216 hl (k := 2) rfl (by rw [e_x_1]; rfl) (by decide) rfl (fun ls hl_2 => ?_)
  replace hw := hw x_1 e_x_1
  refine lv_goto (tgt := 87) hx hb dX10_breaks__219 (by decide) ?_
  exact hk_87 _ _ _ _ _ hX hI t_v0 (lv_sub hl_2 [1, 2, 0] rfl) hw
set_option maxHeartbeats 4000000 in
set_option maxRecDepth 100000 in
theorem c_X10_breaks__210 {p : Program} {l : Launch} {e : Env} {s : State} {m : MethodId} {args : Array Value} {below : List Frame} {meth : Method} {c : Code} {G : pm_G} {H0 : Heap} {M0 : pm_M} {Post : Int32 → pm_M → Prop} {v0 : Nat} {v1 : Int32} {v2 : Int32} {v3 : Int32} {M : pm_M} {k_87 : Int32 → pm_M → Prop} {k_97 : Int32 → pm_M → Prop} (E : pm_E G p s m args meth c cX10_breaks_ 6 RX10) (hret : meth.sig.returnType = (some .boolean)) (hk_87 : ∀ (v2 : Int32) (M : pm_M) (H : Heap) (locs : List Loc) (ls : Array Slot), pm_X M0 M → pm_I G H0 M H locs → (pm_is M v0 9) → lv_has ls 6 [(0, .ref (H0.size + v0)), (1, .int v1), (2, .int v2)] → k_87 v2 M → W p l e rm_X10_breaks_ s m args below meth c H locs 0 0 (pm_Z G H0 M0 (pm_Pi Post) below args s rm_X10_breaks_.cells rm_X10_breaks_.slots) (F0 m 87 ls [])) (hk_97 : ∀ (v3 : Int32) (M : pm_M) (H : Heap) (locs : List Loc) (ls : Array Slot), pm_X M0 M → pm_I G H0 M H locs → (pm_is M v0 9) → lv_has ls 6 [(0, .ref (H0.size + v0)), (1, .int v1), (2, .int v2), (3, .int v3)] → k_97 v3 M → W p l e rm_X10_breaks_ s m args below meth c H locs 0 0 (pm_Z G H0 M0 (pm_Pi Post) below args s rm_X10_breaks_.cells rm_X10_breaks_.slots) (F0 m 97 ls [])) {H : Heap} {locs : List Loc} {ls : Array Slot} (hX : pm_X M0 M) (hI : pm_I G H0 M H locs) (t_v0 : pm_is M v0 9) (hl : lv_has ls 6 [(0, .ref (H0.size + v0)), (1, .int v1), (2, .int v2), (3, .int v3)]) (hw : w_X10_breaks__210 Post k_87 k_97 v0 v1 v2 v3 M) : W p l e rm_X10_breaks_ s m args below meth c H locs 0 0 (pm_Z G H0 M0 (pm_Pi Post) below args s rm_X10_breaks_.cells rm_X10_breaks_.slots) (F0 m 210 ls []) := by
  have hx := E.1
  have hb := E.2.1
  have hown := E.2.2.2.1
  have hts := E.2.2.2.2.1
  unfold w_X10_breaks__210 at hw
  obtain ⟨x_1, e_x_1⟩ : ∃ z : Int32, z = v3 + (1 : Int32) := ⟨_, rfl⟩
  refine lv_iinc (v := x_1) (lv' := [(3, .int x_1), (0, .ref (H0.size + v0)), (1, .int v1), (2, .int v2)]) hx hb dX10_breaks__210 hl (k := 3) rfl (by rw [e_x_1]; rfl) (by decide) rfl (fun ls hl_2 => ?_)
  replace hw := hw x_1 e_x_1
  refine lv_goto (tgt := 97) hx hb dX10_breaks__213 (by decide) ?_
  exact hk_97 _ _ _ _ _ hX hI t_v0 (lv_sub hl_2 [1, 2, 3, 0] rfl) hw
set_option maxHeartbeats 4000000 in
set_option maxRecDepth 100000 in
theorem c_X10_breaks__189 {p : Program} {l : Launch} {e : Env} {s : State} {m : MethodId} {args : Array Value} {below : List Frame} {meth : Method} {c : Code} {G : pm_G} {H0 : Heap} {M0 : pm_M} {Post : Int32 → pm_M → Prop} {v0 : Nat} {v1 : Int32} {v2 : Int32} {v3 : Int32} {v5 : Int32} {s0 : Int32} {M : pm_M} {k_87 : Int32 → pm_M → Prop} {k_97 : Int32 → pm_M → Prop} {k_143 : Int32 → Int32 → Prop} (E : pm_E G p s m args meth c cX10_breaks_ 6 RX10) (hret : meth.sig.returnType = (some .boolean)) (hk_87 : ∀ (v2 : Int32) (M : pm_M) (H : Heap) (locs : List Loc) (ls : Array Slot), pm_X M0 M → pm_I G H0 M H locs → (pm_is M v0 9) → lv_has ls 6 [(0, .ref (H0.size + v0)), (1, .int v1), (2, .int v2)] → k_87 v2 M → W p l e rm_X10_breaks_ s m args below meth c H locs 0 0 (pm_Z G H0 M0 (pm_Pi Post) below args s rm_X10_breaks_.cells rm_X10_breaks_.slots) (F0 m 87 ls [])) (hk_97 : ∀ (v3 : Int32) (M : pm_M) (H : Heap) (locs : List Loc) (ls : Array Slot), pm_X M0 M → pm_I G H0 M H locs → (pm_is M v0 9) → lv_has ls 6 [(0, .ref (H0.size + v0)), (1, .int v1), (2, .int v2), (3, .int v3)] → k_97 v3 M → W p l e rm_X10_breaks_ s m args below meth c H locs 0 0 (pm_Z G H0 M0 (pm_Pi Post) below args s rm_X10_breaks_.cells rm_X10_breaks_.slots) (F0 m 97 ls [])) (hk_143 : ∀ (v4 : Int32) (v5 : Int32) (H : Heap) (locs : List Loc) (ls : Array Slot), pm_X M0 M → pm_I G H0 M H locs → (pm_is M v0 9) → lv_has ls 6 [(0, .ref (H0.size + v0)), (1, .int v1), (2, .int v2), (3, .int v3), (4, .int v4), (5, .int v5)] → k_143 v4 v5 → W p l e rm_X10_breaks_ s m args below meth c H locs 0 0 (pm_Z G H0 M0 (pm_Pi Post) below args s rm_X10_breaks_.cells rm_X10_breaks_.slots) (F0 m 143 ls [])) {H : Heap} {locs : List Loc} {ls : Array Slot} (hX : pm_X M0 M) (hI : pm_I G H0 M H locs) (t_v0 : pm_is M v0 9) (hl : lv_has ls 6 [(0, .ref (H0.size + v0)), (1, .int v1), (2, .int v2), (3, .int v3), (5, .int v5)]) (hw : w_X10_breaks__189 Post k_87 k_97 k_143 v0 v1 v2 v3 v5 s0 M) : W p l e rm_X10_breaks_ s m args below meth c H locs 0 0 (pm_Z G H0 M0 (pm_Pi Post) below args s rm_X10_breaks_.cells rm_X10_breaks_.slots) (F0 m 189 ls [.int s0]) := by
  have hx := E.1
  have hb := E.2.1
  have hown := E.2.2.2.1
  have hts := E.2.2.2.2.1
  unfold w_X10_breaks__189 at hw
  refine lv_istore (lv' := [(4, .int s0), (0, .ref (H0.size + v0)), (1, .int v1), (2, .int v2), (3, .int v3), (5, .int v5)]) hx hb dX10_breaks__189 hl (by decide) rfl (fun ls hl_1 => ?_)
  obtain ⟨x_2, e_x_2⟩ : ∃ z : Int32, z = v5 + (1 : Int32) := ⟨_, rfl⟩
  refine lv_iinc (v := x_2) (lv' := [(5, .int x_2), (4, .int s0), (0, .ref (H0.size + v0)), (1, .int v1), (2, .int v2), (3, .int v3)]) hx hb dX10_breaks__191 hl_1 (k := 5) rfl (by rw [e_x_2]; rfl) (by decide) rfl (fun ls hl_3 => ?_)
  replace hw := hw x_2 e_x_2
  refine lv_goto (tgt := 143) hx hb dX10_breaks__194 (by decide) ?_
  exact hk_143 _ _ _ _ _ hX hI t_v0 (lv_sub hl_3 [2, 3, 4, 5, 1, 0] rfl) hw
set_option maxHeartbeats 4000000 in
set_option maxRecDepth 100000 in
theorem c_X10_breaks__188 {p : Program} {l : Launch} {e : Env} {s : State} {m : MethodId} {args : Array Value} {below : List Frame} {meth : Method} {c : Code} {G : pm_G} {H0 : Heap} {M0 : pm_M} {Post : Int32 → pm_M → Prop} {v0 : Nat} {v1 : Int32} {v2 : Int32} {v3 : Int32} {v5 : Int32} {M : pm_M} {k_87 : Int32 → pm_M → Prop} {k_97 : Int32 → pm_M → Prop} {k_143 : Int32 → Int32 → Prop} (E : pm_E G p s m args meth c cX10_breaks_ 6 RX10) (hret : meth.sig.returnType = (some .boolean)) (hk_87 : ∀ (v2 : Int32) (M : pm_M) (H : Heap) (locs : List Loc) (ls : Array Slot), pm_X M0 M → pm_I G H0 M H locs → (pm_is M v0 9) → lv_has ls 6 [(0, .ref (H0.size + v0)), (1, .int v1), (2, .int v2)] → k_87 v2 M → W p l e rm_X10_breaks_ s m args below meth c H locs 0 0 (pm_Z G H0 M0 (pm_Pi Post) below args s rm_X10_breaks_.cells rm_X10_breaks_.slots) (F0 m 87 ls [])) (hk_97 : ∀ (v3 : Int32) (M : pm_M) (H : Heap) (locs : List Loc) (ls : Array Slot), pm_X M0 M → pm_I G H0 M H locs → (pm_is M v0 9) → lv_has ls 6 [(0, .ref (H0.size + v0)), (1, .int v1), (2, .int v2), (3, .int v3)] → k_97 v3 M → W p l e rm_X10_breaks_ s m args below meth c H locs 0 0 (pm_Z G H0 M0 (pm_Pi Post) below args s rm_X10_breaks_.cells rm_X10_breaks_.slots) (F0 m 97 ls [])) (hk_143 : ∀ (v4 : Int32) (v5 : Int32) (H : Heap) (locs : List Loc) (ls : Array Slot), pm_X M0 M → pm_I G H0 M H locs → (pm_is M v0 9) → lv_has ls 6 [(0, .ref (H0.size + v0)), (1, .int v1), (2, .int v2), (3, .int v3), (4, .int v4), (5, .int v5)] → k_143 v4 v5 → W p l e rm_X10_breaks_ s m args below meth c H locs 0 0 (pm_Z G H0 M0 (pm_Pi Post) below args s rm_X10_breaks_.cells rm_X10_breaks_.slots) (F0 m 143 ls [])) {H : Heap} {locs : List Loc} {ls : Array Slot} (hX : pm_X M0 M) (hI : pm_I G H0 M H locs) (t_v0 : pm_is M v0 9) (hl : lv_has ls 6 [(0, .ref (H0.size + v0)), (1, .int v1), (2, .int v2), (3, .int v3), (5, .int v5)]) (hw : w_X10_breaks__188 Post k_87 k_97 k_143 v0 v1 v2 v3 v5 M) : W p l e rm_X10_breaks_ s m args below meth c H locs 0 0 (pm_Z G H0 M0 (pm_Pi Post) below args s rm_X10_breaks_.cells rm_X10_breaks_.slots) (F0 m 188 ls []) := by
  have hx := E.1
  have hb := E.2.1
  have hown := E.2.2.2.1
  have hts := E.2.2.2.2.1
  unfold w_X10_breaks__188 at hw
  refine lv_iconst (v := (0 : Int32)) hx hb dX10_breaks__188 (by decide) ?_
  exact c_X10_breaks__189 E hret hk_87 hk_97 hk_143 hX hI t_v0 (lv_sub hl [0, 1, 2, 3, 4] rfl) hw
set_option maxHeartbeats 4000000 in
set_option maxRecDepth 100000 in
theorem c_X10_breaks__184 {p : Program} {l : Launch} {e : Env} {s : State} {m : MethodId} {args : Array Value} {below : List Frame} {meth : Method} {c : Code} {G : pm_G} {H0 : Heap} {M0 : pm_M} {Post : Int32 → pm_M → Prop} {v0 : Nat} {v1 : Int32} {v2 : Int32} {v3 : Int32} {v5 : Int32} {M : pm_M} {k_87 : Int32 → pm_M → Prop} {k_97 : Int32 → pm_M → Prop} {k_143 : Int32 → Int32 → Prop} (E : pm_E G p s m args meth c cX10_breaks_ 6 RX10) (hret : meth.sig.returnType = (some .boolean)) (hk_87 : ∀ (v2 : Int32) (M : pm_M) (H : Heap) (locs : List Loc) (ls : Array Slot), pm_X M0 M → pm_I G H0 M H locs → (pm_is M v0 9) → lv_has ls 6 [(0, .ref (H0.size + v0)), (1, .int v1), (2, .int v2)] → k_87 v2 M → W p l e rm_X10_breaks_ s m args below meth c H locs 0 0 (pm_Z G H0 M0 (pm_Pi Post) below args s rm_X10_breaks_.cells rm_X10_breaks_.slots) (F0 m 87 ls [])) (hk_97 : ∀ (v3 : Int32) (M : pm_M) (H : Heap) (locs : List Loc) (ls : Array Slot), pm_X M0 M → pm_I G H0 M H locs → (pm_is M v0 9) → lv_has ls 6 [(0, .ref (H0.size + v0)), (1, .int v1), (2, .int v2), (3, .int v3)] → k_97 v3 M → W p l e rm_X10_breaks_ s m args below meth c H locs 0 0 (pm_Z G H0 M0 (pm_Pi Post) below args s rm_X10_breaks_.cells rm_X10_breaks_.slots) (F0 m 97 ls [])) (hk_143 : ∀ (v4 : Int32) (v5 : Int32) (H : Heap) (locs : List Loc) (ls : Array Slot), pm_X M0 M → pm_I G H0 M H locs → (pm_is M v0 9) → lv_has ls 6 [(0, .ref (H0.size + v0)), (1, .int v1), (2, .int v2), (3, .int v3), (4, .int v4), (5, .int v5)] → k_143 v4 v5 → W p l e rm_X10_breaks_ s m args below meth c H locs 0 0 (pm_Z G H0 M0 (pm_Pi Post) below args s rm_X10_breaks_.cells rm_X10_breaks_.slots) (F0 m 143 ls [])) {H : Heap} {locs : List Loc} {ls : Array Slot} (hX : pm_X M0 M) (hI : pm_I G H0 M H locs) (t_v0 : pm_is M v0 9) (hl : lv_has ls 6 [(0, .ref (H0.size + v0)), (1, .int v1), (2, .int v2), (3, .int v3), (5, .int v5)]) (hw : w_X10_breaks__184 Post k_87 k_97 k_143 v0 v1 v2 v3 v5 M) : W p l e rm_X10_breaks_ s m args below meth c H locs 0 0 (pm_Z G H0 M0 (pm_Pi Post) below args s rm_X10_breaks_.cells rm_X10_breaks_.slots) (F0 m 184 ls []) := by
  have hx := E.1
  have hb := E.2.1
  have hown := E.2.2.2.1
  have hts := E.2.2.2.2.1
  unfold w_X10_breaks__184 at hw
  refine lv_iconst (v := (1 : Int32)) hx hb dX10_breaks__184 (by decide) ?_
  refine lv_goto (tgt := 189) hx hb dX10_breaks__185 (by decide) ?_
  exact c_X10_breaks__189 E hret hk_87 hk_97 hk_143 hX hI t_v0 (lv_sub hl [0, 1, 2, 3, 4] rfl) hw
set_option maxHeartbeats 4000000 in
set_option maxRecDepth 100000 in
theorem c_X10_breaks__143 {p : Program} {l : Launch} {e : Env} {s : State} {m : MethodId} {args : Array Value} {below : List Frame} {meth : Method} {c : Code} {G : pm_G} {H0 : Heap} {M0 : pm_M} {Post : Int32 → pm_M → Prop} {v0 : Nat} {v1 : Int32} {v2 : Int32} {v3 : Int32} {M : pm_M} {k_87 : Int32 → pm_M → Prop} {k_97 : Int32 → pm_M → Prop} (E : pm_E G p s m args meth c cX10_breaks_ 6 RX10) (hret : meth.sig.returnType = (some .boolean)) (hk_87 : ∀ (v2 : Int32) (M : pm_M) (H : Heap) (locs : List Loc) (ls : Array Slot), pm_X M0 M → pm_I G H0 M H locs → (pm_is M v0 9) → lv_has ls 6 [(0, .ref (H0.size + v0)), (1, .int v1), (2, .int v2)] → k_87 v2 M → W p l e rm_X10_breaks_ s m args below meth c H locs 0 0 (pm_Z G H0 M0 (pm_Pi Post) below args s rm_X10_breaks_.cells rm_X10_breaks_.slots) (F0 m 87 ls [])) (hk_97 : ∀ (v3 : Int32) (M : pm_M) (H : Heap) (locs : List Loc) (ls : Array Slot), pm_X M0 M → pm_I G H0 M H locs → (pm_is M v0 9) → lv_has ls 6 [(0, .ref (H0.size + v0)), (1, .int v1), (2, .int v2), (3, .int v3)] → k_97 v3 M → W p l e rm_X10_breaks_ s m args below meth c H locs 0 0 (pm_Z G H0 M0 (pm_Pi Post) below args s rm_X10_breaks_.cells rm_X10_breaks_.slots) (F0 m 97 ls [])) : ∀ (n : Nat) (v4 : Int32) (v5 : Int32) (H : Heap) (locs : List Loc) (ls : Array Slot), pm_X M0 M → pm_I G H0 M H locs → (pm_is M v0 9) → lv_has ls 6 [(0, .ref (H0.size + v0)), (1, .int v1), (2, .int v2), (3, .int v3), (4, .int v4), (5, .int v5)] → w_X10_breaks__143 Post k_87 k_97 v0 v1 v2 v3 M n v4 v5 → W p l e rm_X10_breaks_ s m args below meth c H locs 0 0 (pm_Z G H0 M0 (pm_Pi Post) below args s rm_X10_breaks_.cells rm_X10_breaks_.slots) (F0 m 143 ls []) := by
  have hx := E.1
  have hb := E.2.1
  have hown := E.2.2.2.1
  have hts := E.2.2.2.2.1
  intro n
  induction n with
  | zero =>
    intro v4 v5 H locs ls hX hI t_v0 hl hw
    unfold w_X10_breaks__143 at hw
    exact hw.elim
  | succ n ih =>
    intro v4 v5 H locs ls hX hI t_v0 hl hw
    unfold w_X10_breaks__143 at hw
    refine lv_iload hx hb dX10_breaks__143 (lv_at hl 5 rfl) ?_
    refine lv_aload_n hx hb dX10_breaks__145 rfl (lv_at hl 0 rfl) ?_
    refine gf_X10_7 E hI t_v0 dX10_breaks__146 ?_
    refine lv_icmp_ge (tgt := 197) hx hb dX10_breaks__149 (by decide) (fun h_1 => ?_) (fun h_1 => ?_)
    · replace hw := hw.1 h_1
      refine lv_iload hx hb dX10_breaks__197 (lv_at hl 4 rfl) ?_
      refine lv_if_ne (tgt := 210) hx hb dX10_breaks__199 (by decide) (fun h_2 => ?_) (fun h_2 => ?_)
      · replace hw := hw.1 h_2
        exact c_X10_breaks__210 E hret hk_87 hk_97 hX hI t_v0 (lv_sub hl [0, 1, 2, 3] rfl) hw
      · replace hw := hw.2 h_2
        refine lv_aload_n hx hb dX10_breaks__202 rfl (lv_at hl 0 rfl) ?_
        refine lv_iconst (v := (3 : Int32)) hx hb dX10_breaks__203 (by decide) ?_
        refine lv_iload_n hx hb dX10_breaks__204 rfl (lv_at hl 2 rfl) ?_
        refine lv_iload_n hx hb dX10_breaks__205 rfl (lv_at hl 3 rfl) ?_
        refine pm_callV (As := [.int (3 : Int32), .int v2, .int v3]) (rest := []) 3 E hI (k_X10_breaks t_v0 hw) t_v0 (by decide) rfl kc_X10_breaks kl_X10_163 km_X10_breaks ks_X10_breaks ki_X10 (by decide +kernel) ⟨by decide, by decide⟩ rfl hl.1 rfl (by first | exact Nat.le_of_ble_eq_true rfl | (simp only [List.map, pm_rf_cat]; exact Nat.le_of_ble_eq_true rfl)) dX10_breaks__206 ⟨by decide, by decide⟩ (fun r9 M_3 H locs hp hX1 hI => ?_)
        clear hw
        obtain ⟨r_4, rfl, hw⟩ := hp
        replace t_v0 := t_v0.x hX1
        replace hX := hX.tr hX1
        refine pm_nrm (cells' := 0) (slots' := 0) (g2 := F0 m 209 ls [.int r_4]) rfl rfl rfl ?_
        exact pm_zret E hret hI hX (pm_nb hw.1) ⟨_, rfl, hw.2⟩ (by decide) (by decide) dX10_breaks__209
    · replace hw := hw.2 h_1
      refine lv_iload hx hb dX10_breaks__152 (lv_at hl 4 rfl) ?_
      refine lv_if_ne (tgt := 184) hx hb dX10_breaks__154 (by decide) (fun h_5 => ?_) (fun h_5 => ?_)
      · replace hw := hw.1 h_5
        exact c_X10_breaks__184 E hret hk_87 hk_97 ih hX hI t_v0 (lv_sub hl [0, 1, 2, 3, 5] rfl) hw
      · replace hw := hw.2 h_5
        refine lv_iload_n hx hb dX10_breaks__157 rfl (lv_at hl 3 rfl) ?_
        refine lv_iload_n hx hb dX10_breaks__158 rfl (lv_at hl 2 rfl) ?_
        refine lv_iconst (v := (-1 : Int32)) hx hb dX10_breaks__159 (by decide) ?_
        refine lv_ixor hx hb dX10_breaks__160 ?_
        refine lv_iand hx hb dX10_breaks__161 ?_
        refine lv_iconst (v := (1 : Int32)) hx hb dX10_breaks__162 (by decide) ?_
        refine lv_iload hx hb dX10_breaks__163 (lv_at hl 5 rfl) ?_
        refine lv_ishl hx hb dX10_breaks__165 ?_
        refine lv_iand hx hb dX10_breaks__166 ?_
        refine lv_if_eq (tgt := 188) hx hb dX10_breaks__167 (by decide) (fun h_6 => ?_) (fun h_6 => ?_)
        · replace hw := hw.1 h_6
          exact c_X10_breaks__188 E hret hk_87 hk_97 ih hX hI t_v0 (lv_sub hl [0, 1, 2, 3, 5] rfl) hw
        · replace hw := hw.2 h_6
          refine lv_aload_n hx hb dX10_breaks__170 rfl (lv_at hl 0 rfl) ?_
          refine lv_iload_n hx hb dX10_breaks__171 rfl (lv_at hl 1 rfl) ?_
          refine lv_iload_n hx hb dX10_breaks__172 rfl (lv_at hl 2 rfl) ?_
          refine lv_iconst (v := (1 : Int32)) hx hb dX10_breaks__173 (by decide) ?_
          refine lv_iload hx hb dX10_breaks__174 (lv_at hl 5 rfl) ?_
          refine lv_ishl hx hb dX10_breaks__176 ?_
          refine lv_ior hx hb dX10_breaks__177 ?_
          refine pm_callV (As := [.int v1, .int (v2 ||| ((1 : Int32) <<< (v5 &&& 31)))]) (rest := []) 2 E hI (k_X10_isAllowed t_v0 hw) t_v0 (by decide) rfl kc_X10_isAllowed kl_X10_100 km_X10_isAllowed ks_X10_isAllowed ki_X10 (by decide +kernel) ⟨by decide, by decide⟩ rfl hl.1 rfl (by first | exact Nat.le_of_ble_eq_true rfl | (simp only [List.map, pm_rf_cat]; exact Nat.le_of_ble_eq_true rfl)) dX10_breaks__178 ⟨by decide, by decide⟩ (fun r9 M9 H locs hp hX1 hI => ?_)
          clear hw
          obtain ⟨r_7, rfl, rfl, hw⟩ := hp
          refine pm_nrm (cells' := 0) (slots' := 0) (g2 := F0 m 181 ls [.int r_7]) rfl rfl rfl ?_
          refine lv_if_eq (tgt := 188) hx hb dX10_breaks__181 (by decide) (fun h_8 => ?_) (fun h_8 => ?_)
          · replace hw := hw.1 h_8
            exact c_X10_breaks__188 E hret hk_87 hk_97 ih hX hI t_v0 (lv_sub hl [0, 1, 2, 3, 5] rfl) hw
          · replace hw := hw.2 h_8
            exact c_X10_breaks__184 E hret hk_87 hk_97 ih hX hI t_v0 (lv_sub hl [0, 1, 2, 3, 5] rfl) hw
set_option maxHeartbeats 4000000 in
set_option maxRecDepth 100000 in
theorem c_X10_breaks__97 {p : Program} {l : Launch} {e : Env} {s : State} {m : MethodId} {args : Array Value} {below : List Frame} {meth : Method} {c : Code} {G : pm_G} {H0 : Heap} {M0 : pm_M} {Post : Int32 → pm_M → Prop} {v0 : Nat} {v1 : Int32} {v2 : Int32} {k_87 : Int32 → pm_M → Prop} (E : pm_E G p s m args meth c cX10_breaks_ 6 RX10) (hret : meth.sig.returnType = (some .boolean)) (hk_87 : ∀ (v2 : Int32) (M : pm_M) (H : Heap) (locs : List Loc) (ls : Array Slot), pm_X M0 M → pm_I G H0 M H locs → (pm_is M v0 9) → lv_has ls 6 [(0, .ref (H0.size + v0)), (1, .int v1), (2, .int v2)] → k_87 v2 M → W p l e rm_X10_breaks_ s m args below meth c H locs 0 0 (pm_Z G H0 M0 (pm_Pi Post) below args s rm_X10_breaks_.cells rm_X10_breaks_.slots) (F0 m 87 ls [])) : ∀ (n : Nat) (v3 : Int32) (M : pm_M) (H : Heap) (locs : List Loc) (ls : Array Slot), pm_X M0 M → pm_I G H0 M H locs → (pm_is M v0 9) → lv_has ls 6 [(0, .ref (H0.size + v0)), (1, .int v1), (2, .int v2), (3, .int v3)] → w_X10_breaks__97 Post k_87 v0 v1 v2 n v3 M → W p l e rm_X10_breaks_ s m args below meth c H locs 0 0 (pm_Z G H0 M0 (pm_Pi Post) below args s rm_X10_breaks_.cells rm_X10_breaks_.slots) (F0 m 97 ls []) := by
  have hx := E.1
  have hb := E.2.1
  have hown := E.2.2.2.1
  have hts := E.2.2.2.2.1
  intro n
  induction n with
  | zero =>
    intro v3 M H locs ls hX hI t_v0 hl hw
    unfold w_X10_breaks__97 at hw
    exact hw.elim
  | succ n ih =>
    intro v3 M H locs ls hX hI t_v0 hl hw
    unfold w_X10_breaks__97 at hw
    refine lv_iload_n hx hb dX10_breaks__97 rfl (lv_at hl 3 rfl) ?_
    refine lv_aload_n hx hb dX10_breaks__98 rfl (lv_at hl 0 rfl) ?_
    refine gf_X10_13 E hI t_v0 dX10_breaks__99 ?_
    refine lv_icmp_gt (tgt := 216) hx hb dX10_breaks__102 (by decide) (fun h_1 => ?_) (fun h_1 => ?_)
    · replace hw := hw.1 h_1
      exact c_X10_breaks__216 E hret hk_87 hX hI t_v0 (lv_sub hl [0, 1, 2] rfl) hw
    · replace hw := hw.2 h_1
      refine lv_aload_n hx hb dX10_breaks__105 rfl (lv_at hl 0 rfl) ?_
      refine lv_iload_n hx hb dX10_breaks__106 rfl (lv_at hl 1 rfl) ?_
      refine lv_iload_n hx hb dX10_breaks__107 rfl (lv_at hl 2 rfl) ?_
      refine pm_callV (As := [.int v1, .int v2]) (rest := []) 2 E hI (k_X10_isAllowed t_v0 hw) t_v0 (by decide) rfl kc_X10_isAllowed kl_X10_100 km_X10_isAllowed ks_X10_isAllowed ki_X10 (by decide +kernel) ⟨by decide, by decide⟩ rfl hl.1 rfl (by first | exact Nat.le_of_ble_eq_true rfl | (simp only [List.map, pm_rf_cat]; exact Nat.le_of_ble_eq_true rfl)) dX10_breaks__108 ⟨by decide, by decide⟩ (fun r9 M9 H locs hp hX1 hI => ?_)
      clear hw
      obtain ⟨r_2, rfl, rfl, hw⟩ := hp
      refine pm_nrm (cells' := 0) (slots' := 0) (g2 := F0 m 111 ls [.int r_2]) rfl rfl rfl ?_
      refine lv_if_eq (tgt := 216) hx hb dX10_breaks__111 (by decide) (fun h_3 => ?_) (fun h_3 => ?_)
      · replace hw := hw.1 h_3
        exact c_X10_breaks__216 E hret hk_87 hX hI t_v0 (lv_sub hl [0, 1, 2] rfl) hw
      · replace hw := hw.2 h_3
        refine lv_aload_n hx hb dX10_breaks__114 rfl (lv_at hl 0 rfl) ?_
        refine lv_iload_n hx hb dX10_breaks__115 rfl (lv_at hl 1 rfl) ?_
        refine lv_iload_n hx hb dX10_breaks__116 rfl (lv_at hl 3 rfl) ?_
        refine pm_callV (As := [.int v1, .int v3]) (rest := []) 2 E hI (k_X10_isAllowed t_v0 hw) t_v0 (by decide) rfl kc_X10_isAllowed kl_X10_100 km_X10_isAllowed ks_X10_isAllowed ki_X10 (by decide +kernel) ⟨by decide, by decide⟩ rfl hl.1 rfl (by first | exact Nat.le_of_ble_eq_true rfl | (simp only [List.map, pm_rf_cat]; exact Nat.le_of_ble_eq_true rfl)) dX10_breaks__117 ⟨by decide, by decide⟩ (fun r9 M9 H locs hp hX1 hI => ?_)
        clear hw
        obtain ⟨r_4, rfl, rfl, hw⟩ := hp
        refine pm_nrm (cells' := 0) (slots' := 0) (g2 := F0 m 120 ls [.int r_4]) rfl rfl rfl ?_
        refine lv_if_eq (tgt := 210) hx hb dX10_breaks__120 (by decide) (fun h_5 => ?_) (fun h_5 => ?_)
        · replace hw := hw.1 h_5
          exact c_X10_breaks__210 E hret hk_87 ih hX hI t_v0 (lv_sub hl [0, 1, 2, 3] rfl) hw
        · replace hw := hw.2 h_5
          refine lv_iload_n hx hb dX10_breaks__123 rfl (lv_at hl 3 rfl) ?_
          refine pm_callS (As := [.int v3]) (rest := []) 1 E hI (k_X10_bitsOf hw) kc_X10_bitsOf kl_X10_104 kt_X10_bitsOf ki_X10 (by decide +kernel) ⟨by decide, by decide⟩ rfl hl.1 rfl (by first | exact Nat.le_of_ble_eq_true rfl | (simp only [List.map, pm_rf_cat]; exact Nat.le_of_ble_eq_true rfl)) dX10_breaks__124 ⟨by decide, by decide⟩ (fun r9 M9 H locs hp hX1 hI => ?_)
          clear hw
          obtain ⟨r_6, rfl, rfl, hw⟩ := hp
          refine pm_nrm (cells' := 0) (slots' := 0) (g2 := F0 m 127 ls [.int r_6]) rfl rfl rfl ?_
          refine lv_iload_n hx hb dX10_breaks__127 rfl (lv_at hl 2 rfl) ?_
          refine pm_callS (As := [.int v2]) (rest := [.int r_6]) 1 E hI (k_X10_bitsOf hw) kc_X10_bitsOf kl_X10_104 kt_X10_bitsOf ki_X10 (by decide +kernel) ⟨by decide, by decide⟩ rfl hl.1 rfl (by first | exact Nat.le_of_ble_eq_true rfl | (simp only [List.map, pm_rf_cat]; exact Nat.le_of_ble_eq_true rfl)) dX10_breaks__128 ⟨by decide, by decide⟩ (fun r9 M9 H locs hp hX1 hI => ?_)
          clear hw
          obtain ⟨r_7, rfl, rfl, hw⟩ := hp
          refine pm_nrm (cells' := 0) (slots' := 0) (g2 := F0 m 131 ls [.int r_7, .int r_6]) rfl rfl rfl ?_
          refine lv_icmp_gt (tgt := 137) hx hb dX10_breaks__131 (by decide) (fun h_8 => ?_) (fun h_8 => ?_)
          · replace hw := hw.1 h_8
            refine lv_iconst (v := (0 : Int32)) hx hb dX10_breaks__137 (by decide) ?_
            refine lv_istore (lv' := [(4, .int (0 : Int32)), (0, .ref (H0.size + v0)), (1, .int v1), (2, .int v2), (3, .int v3)]) hx hb dX10_breaks__138 hl (by decide) rfl (fun ls hl_9 => ?_)
            refine lv_iconst (v := (0 : Int32)) hx hb dX10_breaks__140 (by decide) ?_
            refine lv_istore (lv' := [(5, .int (0 : Int32)), (4, .int (0 : Int32)), (0, .ref (H0.size + v0)), (1, .int v1), (2, .int v2), (3, .int v3)]) hx hb dX10_breaks__141 hl_9 (by decide) rfl (fun ls hl_10 => ?_)
            obtain ⟨n_11, hw⟩ := hw
            exact c_X10_breaks__143 E hret hk_87 ih n_11 _ _ _ _ _ hX hI t_v0 (lv_sub hl_10 [2, 3, 4, 5, 1, 0] rfl) hw
          · replace hw := hw.2 h_8
            refine lv_goto (tgt := 210) hx hb dX10_breaks__134 (by decide) ?_
            exact c_X10_breaks__210 E hret hk_87 ih hX hI t_v0 (lv_sub hl [0, 1, 2, 3] rfl) hw
set_option maxHeartbeats 4000000 in
set_option maxRecDepth 100000 in
theorem c_X10_breaks__87 {p : Program} {l : Launch} {e : Env} {s : State} {m : MethodId} {args : Array Value} {below : List Frame} {meth : Method} {c : Code} {G : pm_G} {H0 : Heap} {M0 : pm_M} {Post : Int32 → pm_M → Prop} {v0 : Nat} {v1 : Int32} (E : pm_E G p s m args meth c cX10_breaks_ 6 RX10) (hret : meth.sig.returnType = (some .boolean)) : ∀ (n : Nat) (v2 : Int32) (M : pm_M) (H : Heap) (locs : List Loc) (ls : Array Slot), pm_X M0 M → pm_I G H0 M H locs → (pm_is M v0 9) → lv_has ls 6 [(0, .ref (H0.size + v0)), (1, .int v1), (2, .int v2)] → w_X10_breaks__87 Post v0 v1 n v2 M → W p l e rm_X10_breaks_ s m args below meth c H locs 0 0 (pm_Z G H0 M0 (pm_Pi Post) below args s rm_X10_breaks_.cells rm_X10_breaks_.slots) (F0 m 87 ls []) := by
  have hx := E.1
  have hb := E.2.1
  have hown := E.2.2.2.1
  have hts := E.2.2.2.2.1
  intro n
  induction n with
  | zero =>
    intro v2 M H locs ls hX hI t_v0 hl hw
    unfold w_X10_breaks__87 at hw
    exact hw.elim
  | succ n ih =>
    intro v2 M H locs ls hX hI t_v0 hl hw
    unfold w_X10_breaks__87 at hw
    refine lv_iload_n hx hb dX10_breaks__87 rfl (lv_at hl 2 rfl) ?_
    refine lv_aload_n hx hb dX10_breaks__88 rfl (lv_at hl 0 rfl) ?_
    refine gf_X10_13 E hI t_v0 dX10_breaks__89 ?_
    refine lv_icmp_gt (tgt := 222) hx hb dX10_breaks__92 (by decide) (fun h_1 => ?_) (fun h_1 => ?_)
    · replace hw := hw.1 h_1
      refine lv_iconst (v := (0 : Int32)) hx hb dX10_breaks__222 (by decide) ?_
      exact pm_zret E hret hI hX rfl ⟨_, rfl, hw⟩ (by decide) (by decide) dX10_breaks__223
    · replace hw := hw.2 h_1
      refine lv_iconst (v := (0 : Int32)) hx hb dX10_breaks__95 (by decide) ?_
      refine lv_istore_n (lv' := [(3, .int (0 : Int32)), (0, .ref (H0.size + v0)), (1, .int v1), (2, .int v2)]) hx hb dX10_breaks__96 rfl hl (by decide) rfl (fun ls hl_2 => ?_)
      obtain ⟨n_3, hw⟩ := hw
      exact c_X10_breaks__97 E hret ih n_3 _ _ _ _ _ hX hI t_v0 (lv_sub hl_2 [1, 2, 3, 0] rfl) hw
set_option maxHeartbeats 4000000 in
set_option maxRecDepth 100000 in
theorem c_X10_breaks__79 {p : Program} {l : Launch} {e : Env} {s : State} {m : MethodId} {args : Array Value} {below : List Frame} {meth : Method} {c : Code} {G : pm_G} {H0 : Heap} {M0 : pm_M} {Post : Int32 → pm_M → Prop} {v0 : Nat} {v1 : Int32} {v2 : Int32} {M : pm_M} {k_24 : Int32 → pm_M → Prop} (E : pm_E G p s m args meth c cX10_breaks_ 6 RX10) (hret : meth.sig.returnType = (some .boolean)) (hk_24 : ∀ (v2 : Int32) (M : pm_M) (H : Heap) (locs : List Loc) (ls : Array Slot), pm_X M0 M → pm_I G H0 M H locs → (pm_is M v0 9) → lv_has ls 6 [(0, .ref (H0.size + v0)), (1, .int v1), (2, .int v2)] → k_24 v2 M → W p l e rm_X10_breaks_ s m args below meth c H locs 0 0 (pm_Z G H0 M0 (pm_Pi Post) below args s rm_X10_breaks_.cells rm_X10_breaks_.slots) (F0 m 24 ls [])) {H : Heap} {locs : List Loc} {ls : Array Slot} (hX : pm_X M0 M) (hI : pm_I G H0 M H locs) (t_v0 : pm_is M v0 9) (hl : lv_has ls 6 [(0, .ref (H0.size + v0)), (1, .int v1), (2, .int v2)]) (hw : w_X10_breaks__79 Post k_24 v0 v1 v2 M) : W p l e rm_X10_breaks_ s m args below meth c H locs 0 0 (pm_Z G H0 M0 (pm_Pi Post) below args s rm_X10_breaks_.cells rm_X10_breaks_.slots) (F0 m 79 ls []) := by
  have hx := E.1
  have hb := E.2.1
  have hown := E.2.2.2.1
  have hts := E.2.2.2.2.1
  unfold w_X10_breaks__79 at hw
  obtain ⟨x_1, e_x_1⟩ : ∃ z : Int32, z = v2 + (1 : Int32) := ⟨_, rfl⟩
  refine lv_iinc (v := x_1) (lv' := [(2, .int x_1), (0, .ref (H0.size + v0)), (1, .int v1)]) hx hb dX10_breaks__79 hl (k := 2) rfl (by rw [e_x_1]; rfl) (by decide) rfl (fun ls hl_2 => ?_)
  replace hw := hw x_1 e_x_1
  refine lv_goto (tgt := 24) hx hb dX10_breaks__82 (by decide) ?_
  exact hk_24 _ _ _ _ _ hX hI t_v0 (lv_sub hl_2 [1, 2, 0] rfl) hw
set_option maxHeartbeats 4000000 in
set_option maxRecDepth 100000 in
theorem c_X10_breaks__73 {p : Program} {l : Launch} {e : Env} {s : State} {m : MethodId} {args : Array Value} {below : List Frame} {meth : Method} {c : Code} {G : pm_G} {H0 : Heap} {M0 : pm_M} {Post : Int32 → pm_M → Prop} {v0 : Nat} {v1 : Int32} {v2 : Int32} {v3 : Int32} {M : pm_M} {k_24 : Int32 → pm_M → Prop} {k_34 : Int32 → pm_M → Prop} (E : pm_E G p s m args meth c cX10_breaks_ 6 RX10) (hret : meth.sig.returnType = (some .boolean)) (hk_24 : ∀ (v2 : Int32) (M : pm_M) (H : Heap) (locs : List Loc) (ls : Array Slot), pm_X M0 M → pm_I G H0 M H locs → (pm_is M v0 9) → lv_has ls 6 [(0, .ref (H0.size + v0)), (1, .int v1), (2, .int v2)] → k_24 v2 M → W p l e rm_X10_breaks_ s m args below meth c H locs 0 0 (pm_Z G H0 M0 (pm_Pi Post) below args s rm_X10_breaks_.cells rm_X10_breaks_.slots) (F0 m 24 ls [])) (hk_34 : ∀ (v3 : Int32) (M : pm_M) (H : Heap) (locs : List Loc) (ls : Array Slot), pm_X M0 M → pm_I G H0 M H locs → (pm_is M v0 9) → lv_has ls 6 [(0, .ref (H0.size + v0)), (1, .int v1), (2, .int v2), (3, .int v3)] → k_34 v3 M → W p l e rm_X10_breaks_ s m args below meth c H locs 0 0 (pm_Z G H0 M0 (pm_Pi Post) below args s rm_X10_breaks_.cells rm_X10_breaks_.slots) (F0 m 34 ls [])) {H : Heap} {locs : List Loc} {ls : Array Slot} (hX : pm_X M0 M) (hI : pm_I G H0 M H locs) (t_v0 : pm_is M v0 9) (hl : lv_has ls 6 [(0, .ref (H0.size + v0)), (1, .int v1), (2, .int v2), (3, .int v3)]) (hw : w_X10_breaks__73 Post k_24 k_34 v0 v1 v2 v3 M) : W p l e rm_X10_breaks_ s m args below meth c H locs 0 0 (pm_Z G H0 M0 (pm_Pi Post) below args s rm_X10_breaks_.cells rm_X10_breaks_.slots) (F0 m 73 ls []) := by
  have hx := E.1
  have hb := E.2.1
  have hown := E.2.2.2.1
  have hts := E.2.2.2.2.1
  unfold w_X10_breaks__73 at hw
  obtain ⟨x_1, e_x_1⟩ : ∃ z : Int32, z = v3 + (1 : Int32) := ⟨_, rfl⟩
  refine lv_iinc (v := x_1) (lv' := [(3, .int x_1), (0, .ref (H0.size + v0)), (1, .int v1), (2, .int v2)]) hx hb dX10_breaks__73 hl (k := 3) rfl (by rw [e_x_1]; rfl) (by decide) rfl (fun ls hl_2 => ?_)
  replace hw := hw x_1 e_x_1
  refine lv_goto (tgt := 34) hx hb dX10_breaks__76 (by decide) ?_
  exact hk_34 _ _ _ _ _ hX hI t_v0 (lv_sub hl_2 [1, 2, 3, 0] rfl) hw
set_option maxHeartbeats 4000000 in
set_option maxRecDepth 100000 in
theorem c_X10_breaks__34 {p : Program} {l : Launch} {e : Env} {s : State} {m : MethodId} {args : Array Value} {below : List Frame} {meth : Method} {c : Code} {G : pm_G} {H0 : Heap} {M0 : pm_M} {Post : Int32 → pm_M → Prop} {v0 : Nat} {v1 : Int32} {v2 : Int32} {k_24 : Int32 → pm_M → Prop} (E : pm_E G p s m args meth c cX10_breaks_ 6 RX10) (hret : meth.sig.returnType = (some .boolean)) (hk_24 : ∀ (v2 : Int32) (M : pm_M) (H : Heap) (locs : List Loc) (ls : Array Slot), pm_X M0 M → pm_I G H0 M H locs → (pm_is M v0 9) → lv_has ls 6 [(0, .ref (H0.size + v0)), (1, .int v1), (2, .int v2)] → k_24 v2 M → W p l e rm_X10_breaks_ s m args below meth c H locs 0 0 (pm_Z G H0 M0 (pm_Pi Post) below args s rm_X10_breaks_.cells rm_X10_breaks_.slots) (F0 m 24 ls [])) : ∀ (n : Nat) (v3 : Int32) (M : pm_M) (H : Heap) (locs : List Loc) (ls : Array Slot), pm_X M0 M → pm_I G H0 M H locs → (pm_is M v0 9) → lv_has ls 6 [(0, .ref (H0.size + v0)), (1, .int v1), (2, .int v2), (3, .int v3)] → w_X10_breaks__34 Post k_24 v0 v1 v2 n v3 M → W p l e rm_X10_breaks_ s m args below meth c H locs 0 0 (pm_Z G H0 M0 (pm_Pi Post) below args s rm_X10_breaks_.cells rm_X10_breaks_.slots) (F0 m 34 ls []) := by
  have hx := E.1
  have hb := E.2.1
  have hown := E.2.2.2.1
  have hts := E.2.2.2.2.1
  intro n
  induction n with
  | zero =>
    intro v3 M H locs ls hX hI t_v0 hl hw
    unfold w_X10_breaks__34 at hw
    exact hw.elim
  | succ n ih =>
    intro v3 M H locs ls hX hI t_v0 hl hw
    unfold w_X10_breaks__34 at hw
    refine lv_iload_n hx hb dX10_breaks__34 rfl (lv_at hl 3 rfl) ?_
    refine lv_iload_n hx hb dX10_breaks__35 rfl (lv_at hl 2 rfl) ?_
    refine lv_icmp_ge (tgt := 79) hx hb dX10_breaks__36 (by decide) (fun h_1 => ?_) (fun h_1 => ?_)
    · replace hw := hw.1 h_1
      exact c_X10_breaks__79 E hret hk_24 hX hI t_v0 (lv_sub hl [0, 1, 2] rfl) hw
    · replace hw := hw.2 h_1
      refine lv_aload_n hx hb dX10_breaks__39 rfl (lv_at hl 0 rfl) ?_
      refine lv_iload_n hx hb dX10_breaks__40 rfl (lv_at hl 1 rfl) ?_
      refine lv_iload_n hx hb dX10_breaks__41 rfl (lv_at hl 2 rfl) ?_
      refine pm_callV (As := [.int v1, .int v2]) (rest := []) 2 E hI (k_X10_isAllowed t_v0 hw) t_v0 (by decide) rfl kc_X10_isAllowed kl_X10_100 km_X10_isAllowed ks_X10_isAllowed ki_X10 (by decide +kernel) ⟨by decide, by decide⟩ rfl hl.1 rfl (by first | exact Nat.le_of_ble_eq_true rfl | (simp only [List.map, pm_rf_cat]; exact Nat.le_of_ble_eq_true rfl)) dX10_breaks__42 ⟨by decide, by decide⟩ (fun r9 M9 H locs hp hX1 hI => ?_)
      clear hw
      obtain ⟨r_2, rfl, rfl, hw⟩ := hp
      refine pm_nrm (cells' := 0) (slots' := 0) (g2 := F0 m 45 ls [.int r_2]) rfl rfl rfl ?_
      refine lv_if_eq (tgt := 79) hx hb dX10_breaks__45 (by decide) (fun h_3 => ?_) (fun h_3 => ?_)
      · replace hw := hw.1 h_3
        exact c_X10_breaks__79 E hret hk_24 hX hI t_v0 (lv_sub hl [0, 1, 2] rfl) hw
      · replace hw := hw.2 h_3
        refine lv_iload_n hx hb dX10_breaks__48 rfl (lv_at hl 3 rfl) ?_
        refine lv_iload_n hx hb dX10_breaks__49 rfl (lv_at hl 2 rfl) ?_
        refine lv_iconst (v := (-1 : Int32)) hx hb dX10_breaks__50 (by decide) ?_
        refine lv_ixor hx hb dX10_breaks__51 ?_
        refine lv_iand hx hb dX10_breaks__52 ?_
        refine lv_if_ne (tgt := 73) hx hb dX10_breaks__53 (by decide) (fun h_4 => ?_) (fun h_4 => ?_)
        · replace hw := hw.1 h_4
          exact c_X10_breaks__73 E hret hk_24 ih hX hI t_v0 (lv_sub hl [0, 1, 2, 3] rfl) hw
        · replace hw := hw.2 h_4
          refine lv_aload_n hx hb dX10_breaks__56 rfl (lv_at hl 0 rfl) ?_
          refine lv_iload_n hx hb dX10_breaks__57 rfl (lv_at hl 1 rfl) ?_
          refine lv_iload_n hx hb dX10_breaks__58 rfl (lv_at hl 3 rfl) ?_
          refine pm_callV (As := [.int v1, .int v3]) (rest := []) 2 E hI (k_X10_isAllowed t_v0 hw) t_v0 (by decide) rfl kc_X10_isAllowed kl_X10_100 km_X10_isAllowed ks_X10_isAllowed ki_X10 (by decide +kernel) ⟨by decide, by decide⟩ rfl hl.1 rfl (by first | exact Nat.le_of_ble_eq_true rfl | (simp only [List.map, pm_rf_cat]; exact Nat.le_of_ble_eq_true rfl)) dX10_breaks__59 ⟨by decide, by decide⟩ (fun r9 M9 H locs hp hX1 hI => ?_)
          clear hw
          obtain ⟨r_5, rfl, rfl, hw⟩ := hp
          refine pm_nrm (cells' := 0) (slots' := 0) (g2 := F0 m 62 ls [.int r_5]) rfl rfl rfl ?_
          refine lv_if_ne (tgt := 73) hx hb dX10_breaks__62 (by decide) (fun h_6 => ?_) (fun h_6 => ?_)
          · replace hw := hw.1 h_6
            exact c_X10_breaks__73 E hret hk_24 ih hX hI t_v0 (lv_sub hl [0, 1, 2, 3] rfl) hw
          · replace hw := hw.2 h_6
            refine lv_aload_n hx hb dX10_breaks__65 rfl (lv_at hl 0 rfl) ?_
            refine lv_iconst (v := (2 : Int32)) hx hb dX10_breaks__66 (by decide) ?_
            refine lv_iload_n hx hb dX10_breaks__67 rfl (lv_at hl 2 rfl) ?_
            refine lv_iload_n hx hb dX10_breaks__68 rfl (lv_at hl 3 rfl) ?_
            refine pm_callV (As := [.int (2 : Int32), .int v2, .int v3]) (rest := []) 3 E hI (k_X10_breaks t_v0 hw) t_v0 (by decide) rfl kc_X10_breaks kl_X10_163 km_X10_breaks ks_X10_breaks ki_X10 (by decide +kernel) ⟨by decide, by decide⟩ rfl hl.1 rfl (by first | exact Nat.le_of_ble_eq_true rfl | (simp only [List.map, pm_rf_cat]; exact Nat.le_of_ble_eq_true rfl)) dX10_breaks__69 ⟨by decide, by decide⟩ (fun r9 M_7 H locs hp hX1 hI => ?_)
            clear hw
            obtain ⟨r_8, rfl, hw⟩ := hp
            replace t_v0 := t_v0.x hX1
            replace hX := hX.tr hX1
            refine pm_nrm (cells' := 0) (slots' := 0) (g2 := F0 m 72 ls [.int r_8]) rfl rfl rfl ?_
            exact pm_zret E hret hI hX (pm_nb hw.1) ⟨_, rfl, hw.2⟩ (by decide) (by decide) dX10_breaks__72
set_option maxHeartbeats 4000000 in
set_option maxRecDepth 100000 in
theorem c_X10_breaks__24 {p : Program} {l : Launch} {e : Env} {s : State} {m : MethodId} {args : Array Value} {below : List Frame} {meth : Method} {c : Code} {G : pm_G} {H0 : Heap} {M0 : pm_M} {Post : Int32 → pm_M → Prop} {v0 : Nat} {v1 : Int32} (E : pm_E G p s m args meth c cX10_breaks_ 6 RX10) (hret : meth.sig.returnType = (some .boolean)) : ∀ (n : Nat) (v2 : Int32) (M : pm_M) (H : Heap) (locs : List Loc) (ls : Array Slot), pm_X M0 M → pm_I G H0 M H locs → (pm_is M v0 9) → lv_has ls 6 [(0, .ref (H0.size + v0)), (1, .int v1), (2, .int v2)] → w_X10_breaks__24 Post v0 v1 n v2 M → W p l e rm_X10_breaks_ s m args below meth c H locs 0 0 (pm_Z G H0 M0 (pm_Pi Post) below args s rm_X10_breaks_.cells rm_X10_breaks_.slots) (F0 m 24 ls []) := by
  have hx := E.1
  have hb := E.2.1
  have hown := E.2.2.2.1
  have hts := E.2.2.2.2.1
  intro n
  induction n with
  | zero =>
    intro v2 M H locs ls hX hI t_v0 hl hw
    unfold w_X10_breaks__24 at hw
    exact hw.elim
  | succ n ih =>
    intro v2 M H locs ls hX hI t_v0 hl hw
    unfold w_X10_breaks__24 at hw
    refine lv_iload_n hx hb dX10_breaks__24 rfl (lv_at hl 2 rfl) ?_
    refine lv_aload_n hx hb dX10_breaks__25 rfl (lv_at hl 0 rfl) ?_
    refine gf_X10_13 E hI t_v0 dX10_breaks__26 ?_
    refine lv_icmp_gt (tgt := 85) hx hb dX10_breaks__29 (by decide) (fun h_1 => ?_) (fun h_1 => ?_)
    · replace hw := hw.1 h_1
      refine lv_iconst (v := (0 : Int32)) hx hb dX10_breaks__85 (by decide) ?_
      refine lv_istore_n (lv' := [(2, .int (0 : Int32)), (0, .ref (H0.size + v0)), (1, .int v1)]) hx hb dX10_breaks__86 rfl hl (by decide) rfl (fun ls hl_2 => ?_)
      obtain ⟨n_3, hw⟩ := hw
      exact c_X10_breaks__87 E hret n_3 _ _ _ _ _ hX hI t_v0 (lv_sub hl_2 [1, 2, 0] rfl) hw
    · replace hw := hw.2 h_1
      refine lv_iconst (v := (0 : Int32)) hx hb dX10_breaks__32 (by decide) ?_
      refine lv_istore_n (lv' := [(3, .int (0 : Int32)), (0, .ref (H0.size + v0)), (1, .int v1), (2, .int v2)]) hx hb dX10_breaks__33 rfl hl (by decide) rfl (fun ls hl_4 => ?_)
      obtain ⟨n_5, hw⟩ := hw
      exact c_X10_breaks__34 E hret ih n_5 _ _ _ _ _ hX hI t_v0 (lv_sub hl_4 [1, 2, 3, 0] rfl) hw
set_option maxHeartbeats 4000000 in
set_option maxRecDepth 100000 in
theorem k_X10_breaks_ {l : Launch} {G : pm_G} {H0 : Heap} {th : Nat} {M : pm_M} {Post : Int32 → pm_M → Prop} (t_th : pm_is M th 9) (hw : w_X10_breaks_ th M Post) : pm_C l G H0 yX10_breaks_ cX10_breaks_ 6 (some .boolean) rm_X10_breaks_ [.ref (H0.size + th)] M (pm_Pi Post) := by
  refine pm_start (by decide +kernel) (Nat.le_of_ble_eq_true rfl) ?_
  intro p e s m args below meth c H ls E hret hnm hI hl
  have hX : pm_X M M := pm_X.rf
  have hl : lv_has ls 6 [(0, .ref (H0.size + th))] := hl
  have hx := E.1
  have hb := E.2.1
  have hown := E.2.2.2.1
  have hts := E.2.2.2.2.1
  unfold w_X10_breaks_ at hw
  refine lv_aload_n hx hb dX10_breaks__0 rfl (lv_at hl 0 rfl) ?_
  refine gf_X10_85 E hI t_th dX10_breaks__1 ?_
  refine lv_topi (fun x_1 e_x_1 => ?_)
  replace hw := hw x_1 e_x_1
  refine lv_istore_n (lv' := [(1, .int x_1), (0, .ref (H0.size + th))]) hx hb dX10_breaks__4 rfl hl (by decide) rfl (fun ls hl_2 => ?_)
  refine lv_aload_n hx hb dX10_breaks__5 rfl (lv_at hl_2 1 rfl) ?_
  refine lv_iload_n hx hb dX10_breaks__6 rfl (lv_at hl_2 0 rfl) ?_
  refine lv_iconst (v := (0 : Int32)) hx hb dX10_breaks__7 (by decide) ?_
  refine pm_callV (As := [.int x_1, .int (0 : Int32)]) (rest := []) 2 E hI (k_X10_isAllowed t_th hw) t_th (by decide) rfl kc_X10_isAllowed kl_X10_100 km_X10_isAllowed ks_X10_isAllowed ki_X10 (by decide +kernel) ⟨by decide, by decide⟩ rfl hl_2.1 rfl (by first | exact Nat.le_of_ble_eq_true rfl | (simp only [List.map, pm_rf_cat]; exact Nat.le_of_ble_eq_true rfl)) dX10_breaks__8 ⟨by decide, by decide⟩ (fun r9 M9 H locs hp hX1 hI => ?_)
  clear hw
  obtain ⟨r_3, rfl, rfl, hw⟩ := hp
  refine pm_nrm (cells' := 0) (slots' := 0) (g2 := F0 m 11 ls [.int r_3]) rfl rfl rfl ?_
  refine lv_if_ne (tgt := 22) hx hb dX10_breaks__11 (by decide) (fun h_4 => ?_) (fun h_4 => ?_)
  · replace hw := hw.1 h_4
    refine lv_iconst (v := (0 : Int32)) hx hb dX10_breaks__22 (by decide) ?_
    refine lv_istore_n (lv' := [(2, .int (0 : Int32)), (1, .int x_1), (0, .ref (H0.size + th))]) hx hb dX10_breaks__23 rfl hl_2 (by decide) rfl (fun ls hl_5 => ?_)
    obtain ⟨n_6, hw⟩ := hw
    exact c_X10_breaks__24 E hret n_6 _ _ _ _ _ hX hI t_th (lv_sub hl_5 [2, 1, 0] rfl) hw
  · replace hw := hw.2 h_4
    refine lv_aload_n hx hb dX10_breaks__14 rfl (lv_at hl_2 1 rfl) ?_
    refine lv_iconst (v := (1 : Int32)) hx hb dX10_breaks__15 (by decide) ?_
    refine lv_iconst (v := (0 : Int32)) hx hb dX10_breaks__16 (by decide) ?_
    refine lv_iconst (v := (0 : Int32)) hx hb dX10_breaks__17 (by decide) ?_
    refine pm_callV (As := [.int (1 : Int32), .int (0 : Int32), .int (0 : Int32)]) (rest := []) 3 E hI (k_X10_breaks t_th hw) t_th (by decide) rfl kc_X10_breaks kl_X10_163 km_X10_breaks ks_X10_breaks ki_X10 (by decide +kernel) ⟨by decide, by decide⟩ rfl hl_2.1 rfl (by first | exact Nat.le_of_ble_eq_true rfl | (simp only [List.map, pm_rf_cat]; exact Nat.le_of_ble_eq_true rfl)) dX10_breaks__18 ⟨by decide, by decide⟩ (fun r9 M_7 H locs hp hX1 hI => ?_)
    clear hw
    obtain ⟨r_8, rfl, hw⟩ := hp
    replace t_th := t_th.x hX1
    replace hX := hX.tr hX1
    refine pm_nrm (cells' := 0) (slots' := 0) (g2 := F0 m 21 ls [.int r_8]) rfl rfl rfl ?_
    exact pm_zret E hret hI hX (pm_nb hw.1) ⟨_, rfl, hw.2⟩ (by decide) (by decide) dX10_breaks__21
