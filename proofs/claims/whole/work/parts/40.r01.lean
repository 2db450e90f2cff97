set_option maxHeartbeats 4000000 in
set_option maxRecDepth 100000 in
theorem k_X4_init {l : Launch} {G : pm_G} {H0 : Heap} {th : Nat} {M : pm_M} {Post : Prop} (t_th : pm_is M th 3) (hw : w_X4_init th M Post) : pm_C l G H0 yX4_init cX4_init 1 none rm_X4_init [.ref (H0.size + th)] M (pm_Pv (fun M9 => M = M9 ∧ Post)) := by
  refine pm_start (by decide +kernel) (Nat.le_of_ble_eq_true rfl) ?_
  intro p e s m args below meth c H ls E hret hnm hI hl
  have hl : lv_has ls 1 [(0, .ref (H0.size + th))] := hl
  have hx := E.1
  have hb := E.2.1
  have hown := E.2.2.2.1
  have hts := E.2.2.2.2.1
  unfold w_X4_init at hw
  refine lv_aload_n hx hb dX4_init_0 rfl (lv_at hl 0 rfl) ?_
  refine pm_objInit E hl.1 kl_X4_3 ko_init ko_code dX4_init_1 (by decide) (Nat.le_of_ble_eq_true rfl) ?_
  exact pm_vret E hret hI pm_X.rf ⟨rfl, rfl, hw⟩ (by decide) (by decide) dX4_init_4
set_option maxHeartbeats 4000000 in
set_option maxRecDepth 100000 in
theorem k_X4_start {l : Launch} {G : pm_G} {H0 : Heap} {th : Nat} {a1 : Nat} {M : pm_M} {Post : pm_M → Prop} (t_th : pm_is M th 3) (t_a1 : pm_is M a1 5) (hw : w_X4_start th a1 M Post) : pm_C l G H0 yX4_start cX4_start 2 none rm_X4_start [.ref (H0.size + th), .ref (H0.size + a1)] M (pm_Pv Post) := by
  refine pm_start (by decide +kernel) (Nat.le_of_ble_eq_true rfl) ?_
  intro p e s m args below meth c H ls E hret hnm hI hl
  have hX : pm_X M M := pm_X.rf
  have hl : lv_has ls 2 [(0, .ref (H0.size + th)), (1, .ref (H0.size + a1))] := hl
  have hx := E.1
  have hb := E.2.1
  have hown := E.2.2.2.1
  have hts := E.2.2.2.2.1
  unfold w_X4_start at hw
  refine lv_aload_n hx hb dX4_start_0 rfl (lv_at hl 0 rfl) ?_
  refine lv_aload_n hx hb dX4_start_1 rfl (lv_at hl 1 rfl) ?_
  refine pf_X4_9 E hI t_th dX4_start_2 t_a1 (fun H locs M_1 e_M_1 hX1 hI => ?_)
  replace hw := hw M_1 e_M_1
  replace t_th := t_th.x hX1
  replace t_a1 := t_a1.x hX1
  replace hX := hX.tr hX1
  refine lv_aload_n hx hb dX4_start_5 rfl (lv_at hl 0 rfl) ?_
  refine lv_iconst (v := (0 : Int32)) hx hb dX4_start_6 (by decide) ?_
  refine pf_X4_15 E hI t_th dX4_start_7 (fun H locs M_2 e_M_2 hX1 hI => ?_)
  replace hw := hw M_2 e_M_2
  replace t_th := t_th.x hX1
  replace t_a1 := t_a1.x hX1
  replace hX := hX.tr hX1
  refine lv_aload_n hx hb dX4_start_10 rfl (lv_at hl 0 rfl) ?_
  refine lv_iconst (v := (0 : Int32)) hx hb dX4_start_11 (by decide) ?_
  refine pf_X4_19 E hI t_th dX4_start_12 (fun H locs M_3 e_M_3 hX1 hI => ?_)
  replace hw := hw M_3 e_M_3
  replace t_th := t_th.x hX1
  replace t_a1 := t_a1.x hX1
  replace hX := hX.tr hX1
  exact pm_vret E hret hI hX ⟨rfl, hw⟩ (by decide) (by decide) dX4_start_15
set_option maxHeartbeats 4000000 in
set_option maxRecDepth 100000 in
theorem c_X4_refuseLast_13 {p : Program} {l : Launch} {e : Env} {s : State} {m : MethodId} {args : Array Value} {below : List Frame} {meth : Method} {c : Code} {G : pm_G} {H0 : Heap} {M0 : pm_M} {Post : pm_M → Prop} {M : pm_M} (E : pm_E G p s m args meth c cX4_refuseLast 1 RX4) (hret : meth.sig.returnType = none) {H : Heap} {locs : List Loc} {ls : Array Slot} (hX : pm_X M0 M) (hI : pm_I G H0 M H locs) (hl : lv_has ls 1 []) (hw : w_X4_refuseLast_13 Post M) : W p l e rm_X4_refuseLast s m args below meth c H locs 0 0 (pm_Z G H0 M0 (pm_Pv Post) below args s rm_X4_refuseLast.cells rm_X4_refuseLast.slots) (F0 m 13 ls []) := by
  have hx := E.1
  have hb := E.2.1
  have hown := E.2.2.2.1
  have hts := E.2.2.2.2.1
  unfold w_X4_refuseLast_13 at hw
  exact pm_vret E hret hI hX ⟨rfl, hw⟩ (by decide) (by decide) dX4_refuseLast_13
set_option maxHeartbeats 4000000 in
set_option maxRecDepth 100000 in
theorem k_X4_refuseLast {l : Launch} {G : pm_G} {H0 : Heap} {th : Nat} {M : pm_M} {Post : pm_M → Prop} (t_th : pm_is M th 3) (hw : w_X4_refuseLast th M Post) : pm_C l G H0 yX4_refuseLast cX4_refuseLast 1 none rm_X4_refuseLast [.ref (H0.size + th)] M (pm_Pv Post) := by
  refine pm_start (by decide +kernel) (Nat.le_of_ble_eq_true rfl) ?_
  intro p e s m args below meth c H ls E hret hnm hI hl
  have hX : pm_X M M := pm_X.rf
  have hl : lv_has ls 1 [(0, .ref (H0.size + th))] := hl
  have hx := E.1
  have hb := E.2.1
  have hown := E.2.2.2.1
  have hts := E.2.2.2.2.1
  unfold w_X4_refuseLast at hw
  refine lv_aload_n hx hb dX4_refuseLast_0 rfl (lv_at hl 0 rfl) ?_
  refine gf_X4_19 E hI t_th dX4_refuseLast_1 ?_
  refine lv_if_ne (tgt := 13) hx hb dX4_refuseLast_4 (by decide) (fun h_1 => ?_) (fun h_1 => ?_)
  · replace hw := hw.1 h_1
    exact c_X4_refuseLast_13 E hret hX hI (lv_sub hl [] rfl) hw
  · replace hw := hw.2 h_1
    refine lv_aload_n hx hb dX4_refuseLast_7 rfl (lv_at hl 0 rfl) ?_
    refine lv_bipush (v := (-4 : Int32)) hx hb dX4_refuseLast_8 (by decide) ?_
    refine pf_X4_19 E hI t_th dX4_refuseLast_10 (fun H locs M_2 e_M_2 hX1 hI => ?_)
    replace hw := hw M_2 e_M_2
    replace t_th := t_th.x hX1
    replace hX := hX.tr hX1
    exact c_X4_refuseLast_13 E hret hX hI (lv_sub hl [] rfl) hw
set_option maxHeartbeats 4000000 in
set_option maxRecDepth 100000 in
theorem k_X5_init {l : Launch} {G : pm_G} {H0 : Heap} {th : Nat} {M : pm_M} {Post : pm_M → Prop} (t_th : pm_is M th 4) (hw : w_X5_init th M Post) : pm_C l G H0 yX5_init cX5_init 1 none rm_X5_init [.ref (H0.size + th)] M (pm_Pv Post) := by
  refine pm_start (by decide +kernel) (Nat.le_of_ble_eq_true rfl) ?_
  intro p e s m args below meth c H ls E hret hnm hI hl
  have hX : pm_X M M := pm_X.rf
  have hl : lv_has ls 1 [(0, .ref (H0.size + th))] := hl
  have hx := E.1
  have hb := E.2.1
  have hown := E.2.2.2.1
  have hts := E.2.2.2.2.1
  unfold w_X5_init at hw
  refine lv_aload_n hx hb dX5_init_0 rfl (lv_at hl 0 rfl) ?_
  refine pm_objInit E hl.1 kl_X5_3 ko_init ko_code dX5_init_1 (by decide) (Nat.le_of_ble_eq_true rfl) ?_
  refine lv_aload_n hx hb dX5_init_4 rfl (lv_at hl 0 rfl) ?_
  refine lv_iconst (v := (1 : Int32)) hx hb dX5_init_5 (by decide) ?_
  refine newB (N := 1) E hI (by decide) (by decide) (by decide) (by decide) (by decide) dX5_init_6 (fun H M_1 e_M_1 hX1 tn_2 hI => ?_)
  replace hw := hw M_1 e_M_1
  replace t_th := t_th.x hX1
  replace hX := hX.tr hX1
  refine pm_nrm (cells' := 1) (slots' := 1) (g2 := F0 m 8 ls [.ref (H0.size + (mZ M)), .ref (H0.size + th)]) rfl rfl rfl ?_
  refine pf_X5_9 E hI t_th dX5_init_8 tn_2 (fun H locs M_3 e_M_3 hX1 hI => ?_)
  replace hw := hw M_3 e_M_3
  replace t_th := t_th.x hX1
  replace hX := hX.tr hX1
  exact pm_vret E hret hI hX ⟨rfl, hw⟩ (by decide) (by decide) dX5_init_11
set_option maxHeartbeats 4000000 in
set_option maxRecDepth 100000 in
theorem c_J9_min_7cf53_10 {p : Program} {l : Launch} {e : Env} {s : State} {m : MethodId} {args : Array Value} {below : List Frame} {meth : Method} {c : Code} {G : pm_G} {H0 : Heap} {Post : Int32 → Prop} {s0 : Int32} {M : pm_M} (E : pm_E G p s m args meth c cJ9_min_7cf53 2 RJ9) (hret : meth.sig.returnType = (some .int)) {H : Heap} {locs : List Loc} {ls : Array Slot} (hI : pm_I G H0 M H locs) (hl : lv_has ls 2 []) (hw : w_J9_min_7cf53_10 Post s0 M) : W p l e rm_J9_min_7cf53 s m args below meth c H locs 0 0 (pm_Z G H0 M (pm_Pi (fun r9 M9 => M = M9 ∧ Post r9)) below args s rm_J9_min_7cf53.cells rm_J9_min_7cf53.slots) (F0 m 10 ls [.int s0]) := by
  have hx := E.1
  have hb := E.2.1
  have hown := E.2.2.2.1
  have hts := E.2.2.2.2.1
  unfold w_J9_min_7cf53_10 at hw
  exact pm_iret E hret hI pm_X.rf ⟨_, rfl, rfl, hw⟩ (by decide) (by decide) dJ9_min_7cf53_10
set_option maxHeartbeats 4000000 in
set_option maxRecDepth 100000 in
theorem k_J9_min_7cf53 {l : Launch} {G : pm_G} {H0 : Heap} {a0 : Int32} {a1 : Int32} {M : pm_M} {Post : Int32 → Prop} (hw : w_J9_min_7cf53 a0 a1 M Post) : pm_C l G H0 yJ9_min_7cf53 cJ9_min_7cf53 2 (some .int) rm_J9_min_7cf53 [.int a0, .int a1] M (pm_Pi (fun r9 M9 => M = M9 ∧ Post r9)) := by
  refine pm_startF (by decide +kernel) (Nat.le_of_ble_eq_true rfl) ?_
  intro p e s m args below meth c H ls E hret hnm hI hl
  have hl : lv_has ls 2 [(0, .int a0), (1, .int a1)] := hl
  have hx := E.1
  have hb := E.2.1
  have hown := E.2.2.2.1
  have hts := E.2.2.2.2.1
  unfold w_J9_min_7cf53 at hw
  refine lv_iload_n hx hb dJ9_min_7cf53_0 rfl (lv_at hl 0 rfl) ?_
  refine lv_iload_n hx hb dJ9_min_7cf53_1 rfl (lv_at hl 1 rfl) ?_
  refine lv_icmp_gt (tgt := 9) hx hb dJ9_min_7cf53_2 (by decide) (fun h_1 => ?_) (fun h_1 => ?_)
  · replace hw := hw.1 h_1
    refine lv_iload_n hx hb dJ9_min_7cf53_9 rfl (lv_at hl 1 rfl) ?_
    exact c_J9_min_7cf53_10 E hret hI (lv_sub hl [] rfl) hw
  · replace hw := hw.2 h_1
    refine lv_iload_n hx hb dJ9_min_7cf53_5 rfl (lv_at hl 0 rfl) ?_
    refine lv_goto (tgt := 10) hx hb dJ9_min_7cf53_6 (by decide) ?_
    exact c_J9_min_7cf53_10 E hret hI (lv_sub hl [] rfl) hw
set_option maxHeartbeats 4000000 in
set_option maxRecDepth 100000 in
theorem c_X7_fits_37 {p : Program} {l : Launch} {e : Env} {s : State} {m : MethodId} {args : Array Value} {below : List Frame} {meth : Method} {c : Code} {G : pm_G} {H0 : Heap} {Post : Int32 → Prop} {s0 : Int32} {M : pm_M} (E : pm_E G p s m args meth c cX7_fits 2 RX7) (hret : meth.sig.returnType = (some .boolean)) {H : Heap} {locs : List Loc} {ls : Array Slot} (hI : pm_I G H0 M H locs) (hl : lv_has ls 2 []) (hw : w_X7_fits_37 Post s0 M) : W p l e rm_X7_fits s m args below meth c H locs 0 0 (pm_Z G H0 M (pm_Pi (fun r9 M9 => M = M9 ∧ Post r9)) below args s rm_X7_fits.cells rm_X7_fits.slots) (F0 m 37 ls [.int s0]) := by
  have hx := E.1
  have hb := E.2.1
  have hown := E.2.2.2.1
  have hts := E.2.2.2.2.1
  unfold w_X7_fits_37 at hw
  exact pm_zret E hret hI pm_X.rf (pm_nb hw.1) ⟨_, rfl, rfl, hw.2⟩ (by decide) (by decide) dX7_fits_37
set_option maxHeartbeats 4000000 in
set_option maxRecDepth 100000 in
theorem c_X7_fits_36 {p : Program} {l : Launch} {e : Env} {s : State} {m : MethodId} {args : Array Value} {below : List Frame} {meth : Method} {c : Code} {G : pm_G} {H0 : Heap} {Post : Int32 → Prop} {M : pm_M} (E : pm_E G p s m args meth c cX7_fits 2 RX7) (hret : meth.sig.returnType = (some .boolean)) {H : Heap} {locs : List Loc} {ls : Array Slot} (hI : pm_I G H0 M H locs) (hl : lv_has ls 2 []) (hw : w_X7_fits_36 Post M) : W p l e rm_X7_fits s m args below meth c H locs 0 0 (pm_Z G H0 M (pm_Pi (fun r9 M9 => M = M9 ∧ Post r9)) below args s rm_X7_fits.cells rm_X7_fits.slots) (F0 m 36 ls []) := by
  have hx := E.1
  have hb := E.2.1
  have hown := E.2.2.2.1
  have hts := E.2.2.2.2.1
  unfold w_X7_fits_36 at hw
  refine lv_iconst (v := (0 : Int32)) hx hb dX7_fits_36 (by decide) ?_
  exact c_X7_fits_37 E hret hI (lv_sub hl [] rfl) hw
set_option maxHeartbeats 4000000 in
set_option maxRecDepth 100000 in
theorem k_X7_fits {l : Launch} {G : pm_G} {H0 : Heap} {th : Nat} {a1 : Int32} {M : pm_M} {Post : Int32 → Prop} (t_th : pm_is M th 6) (hw : w_X7_fits th a1 M Post) : pm_C l G H0 yX7_fits cX7_fits 2 (some .boolean) rm_X7_fits [.ref (H0.size + th), .int a1] M (pm_Pi (fun r9 M9 => M = M9 ∧ Post r9)) := by
  refine pm_start (by decide +kernel) (Nat.le_of_ble_eq_true rfl) ?_
  intro p e s m args below meth c H ls E hret hnm hI hl
  have hl : lv_has ls 2 [(0, .ref (H0.size + th)), (1, .int a1)] := hl
  have hx := E.1
  have hb := E.2.1
  have hown := E.2.2.2.1
  have hts := E.2.2.2.2.1
  unfold w_X7_fits at hw
  refine lv_iload_n hx hb dX7_fits_0 rfl (lv_at hl 1 rfl) ?_
  refine lv_if_lt (tgt := 36) hx hb dX7_fits_1 (by decide) (fun h_1 => ?_) (fun h_1 => ?_)
  · replace hw := hw.1 h_1
    exact c_X7_fits_36 E hret hI (lv_sub hl [] rfl) hw
  · replace hw := hw.2 h_1
    refine lv_iload_n hx hb dX7_fits_4 rfl (lv_at hl 1 rfl) ?_
    refine lv_sipush (v := (4096 : Int32)) hx hb dX7_fits_5 (by decide) ?_
    refine lv_icmp_ge (tgt := 36) hx hb dX7_fits_8 (by decide) (fun h_2 => ?_) (fun h_2 => ?_)
    · replace hw := hw.1 h_2
      exact c_X7_fits_36 E hret hI (lv_sub hl [] rfl) hw
    · replace hw := hw.2 h_2
      refine lv_aload_n hx hb dX7_fits_11 rfl (lv_at hl 0 rfl) ?_
      obtain ⟨q_3, e_q_3, hw⟩ := hw
      refine gf_X7_11 E hI t_th dX7_fits_12 e_q_3 (fun t_q_3 => ?_)
      refine lv_iload_n hx hb dX7_fits_15 rfl (lv_at hl 1 rfl) ?_
      refine lv_bipush (v := (6 : Int32)) hx hb dX7_fits_16 (by decide) ?_
      refine lv_ishr hx hb dX7_fits_18 ?_
      obtain ⟨h_4, hw⟩ := hw
      refine pm_lald E hI t_q_3 h_4 dX7_fits_19 ?_
      refine lv_iload_n hx hb dX7_fits_20 rfl (lv_at hl 1 rfl) ?_
      refine lv_bipush (v := (63 : Int32)) hx hb dX7_fits_21 (by decide) ?_
      refine lv_iand hx hb dX7_fits_23 ?_
      refine lv_lshr hx hb dX7_fits_24 rfl ?_
      refine lv_lconst (v := (1 : Int64)) hx hb dX7_fits_25 (by decide) ?_
      refine lv_land hx hb dX7_fits_26 ?_
      refine lv_lconst (v := (0 : Int64)) hx hb dX7_fits_27 (by decide) ?_
      refine W.lcmp hx hb dX7_fits_28 ?_
      refine lv_if_eq (tgt := 36) hx hb dX7_fits_29 (by decide) (fun h_5 => ?_) (fun h_5 => ?_)
      · replace hw := hw.1 h_5
        exact c_X7_fits_36 E hret hI (lv_sub hl [] rfl) hw
      · replace hw := hw.2 h_5
        refine lv_iconst (v := (1 : Int32)) hx hb dX7_fits_32 (by decide) ?_
        refine lv_goto (tgt := 37) hx hb dX7_fits_33 (by decide) ?_
        exact c_X7_fits_37 E hret hI (lv_sub hl [] rfl) hw
set_option maxHeartbeats 4000000 in
set_option maxRecDepth 100000 in
theorem c_X8_modulo_17 {p : Program} {l : Launch} {e : Env} {s : State} {m : MethodId} {args : Array Value} {below : List Frame} {meth : Method} {c : Code} {G : pm_G} {H0 : Heap} {Post : Int32 → Prop} {s0 : Int32} {M : pm_M} (E : pm_E G p s m args meth c cX8_modulo 2 RX8) (hret : meth.sig.returnType = (some .int)) {H : Heap} {locs : List Loc} {ls : Array Slot} (hI : pm_I G H0 M H locs) (hl : lv_has ls 2 []) (hw : w_X8_modulo_17 Post s0 M) : W p l e rm_X8_modulo s m args below meth c H locs 0 0 (pm_Z G H0 M (pm_Pi (fun r9 M9 => M = M9 ∧ Post r9)) below args s rm_X8_modulo.cells rm_X8_modulo.slots) (F0 m 17 ls [.int s0]) := by
  have hx := E.1
  have hb := E.2.1
  have hown := E.2.2.2.1
  have hts := E.2.2.2.2.1
  unfold w_X8_modulo_17 at hw
  exact pm_iret E hret hI pm_X.rf ⟨_, rfl, rfl, hw⟩ (by decide) (by decide) dX8_modulo_17
set_option maxHeartbeats 4000000 in
set_option maxRecDepth 100000 in
theorem k_X8_modulo {l : Launch} {G : pm_G} {H0 : Heap} {th : Nat} {a1 : Int32} {M : pm_M} {Post : Int32 → Prop} (t_th : pm_is M th 7) (hw : w_X8_modulo th a1 M Post) : pm_C l G H0 yX8_modulo cX8_modulo 2 (some .int) rm_X8_modulo [.ref (H0.size + th), .int a1] M (pm_Pi (fun r9 M9 => M = M9 ∧ Post r9)) := by
  refine pm_start (by decide +kernel) (Nat.le_of_ble_eq_true rfl) ?_
  intro p e s m args below meth c H ls E hret hnm hI hl
  have hl : lv_has ls 2 [(0, .ref (H0.size + th)), (1, .int a1)] := hl
  have hx := E.1
  have hb := E.2.1
  have hown := E.2.2.2.1
  have hts := E.2.2.2.2.1
  unfold w_X8_modulo at hw
  refine lv_aload_n hx hb dX8_modulo_0 rfl (lv_at hl 0 rfl) ?_
  refine gf_X8_23 E hI t_th dX8_modulo_1 ?_
  refine lv_if_le (tgt := 16) hx hb dX8_modulo_4 (by decide) (fun h_1 => ?_) (fun h_1 => ?_)
  · replace hw := hw.1 h_1
    refine lv_iconst (v := (0 : Int32)) hx hb dX8_modulo_16 (by decide) ?_
    exact c_X8_modulo_17 E hret hI (lv_sub hl [] rfl) hw
  · replace hw := hw.2 h_1
    refine lv_iload_n hx hb dX8_modulo_7 rfl (lv_at hl 1 rfl) ?_
    refine lv_aload_n hx hb dX8_modulo_8 rfl (lv_at hl 0 rfl) ?_
    refine gf_X8_23 E hI t_th dX8_modulo_9 ?_
    obtain ⟨h9, hw⟩ := hw
    refine lv_irem hx hb dX8_modulo_12 h9 ?_
    refine lv_goto (tgt := 17) hx hb dX8_modulo_13 (by decide) ?_
    exact c_X8_modulo_17 E hret hI (lv_sub hl [] rfl) hw
set_option maxHeartbeats 4000000 in
set_option maxRecDepth 100000 in
theorem c_X8_clearLead_31 {p : Program} {l : Launch} {e : Env} {s : State} {m : MethodId} {args : Array Value} {below : List Frame} {meth : Method} {c : Code} {G : pm_G} {H0 : Heap} {M0 : pm_M} {Post : pm_M → Prop} {v0 : Nat} {v1 : Nat} {v2 : Nat} {v4 : Int32} {v5 : Int32} (E : pm_E G p s m args meth c cX8_clearLead 7 RX8) (hret : meth.sig.returnType = none) : ∀ (n : Nat) (v6 : Int32) (M : pm_M) (H : Heap) (locs : List Loc) (ls : Array Slot), pm_X M0 M → pm_I G H0 M H locs → (pm_is M v0 7) → (pm_is M v1 11) → (pm_is M v2 11) → lv_has ls 7 [(0, .ref (H0.size + v0)), (1, .ref (H0.size + v1)), (2, .ref (H0.size + v2)), (4, .int v4), (5, .int v5), (6, .int v6)] → w_X8_clearLead_31 Post v0 v1 v2 v4 v5 n v6 M → W p l e rm_X8_clearLead s m args below meth c H locs 0 0 (pm_Z G H0 M0 (pm_Pv Post) below args s rm_X8_clearLead.cells rm_X8_clearLead.slots) (F0 m 31 ls []) := by
  have hx := E.1
  have hb := E.2.1
  have hown := E.2.2.2.1
  have hts := E.2.2.2.2.1
  intro n
  induction n with
  | zero =>
    intro v6 M H locs ls hX hI t_v0 t_v1 t_v2 hl hw
    unfold w_X8_clearLead_31 at hw
    exact hw.elim
  | succ n ih =>
    intro v6 M H locs ls hX hI t_v0 t_v1 t_v2 hl hw
    unfold w_X8_clearLead_31 at hw
    refine lv_iload hx hb dX8_clearLead_31 (lv_at hl 5 rfl) ?_
    refine lv_aload_n hx hb dX8_clearLead_33 rfl (lv_at hl 0 rfl) ?_
    refine gf_X8_27 E hI t_v0 dX8_clearLead_34 ?_
    refine lv_icmp_ge (tgt := 69) hx hb dX8_clearLead_37 (by decide) (fun h_1 => ?_) (fun h_1 => ?_)
    · replace hw := hw.1 h_1
      exact pm_vret E hret hI hX ⟨rfl, hw⟩ (by decide) (by decide) dX8_clearLead_69
    · replace hw := hw.2 h_1
      refine lv_aload_n hx hb dX8_clearLead_40 rfl (lv_at hl 1 rfl) ?_
      refine lv_iload hx hb dX8_clearLead_41 (lv_at hl 5 rfl) ?_
      refine lv_aload_n hx hb dX8_clearLead_43 rfl (lv_at hl 0 rfl) ?_
      refine lv_iload hx hb dX8_clearLead_44 (lv_at hl 3 rfl) ?_
      refine lv_aload_n hx hb dX8_clearLead_46 rfl (lv_at hl 1 rfl) ?_
      refine lv_iload hx hb dX8_clearLead_47 (lv_at hl 5 rfl) ?_
      obtain ⟨h_2, hw⟩ := hw
      refine pm_iald E hI t_v1 h_2 dX8_clearLead_49 ?_
      refine lv_imul hx hb dX8_clearLead_50 ?_
      refine lv_iload hx hb dX8_clearLead_51 (lv_at hl 4 rfl) ?_
      refine lv_aload_n hx hb dX8_clearLead_53 rfl (lv_at hl 2 rfl) ?_
      refine lv_iload hx hb dX8_clearLead_54 (lv_at hl 5 rfl) ?_
      obtain ⟨h_3, hw⟩ := hw
      refine pm_iald E hI t_v2 h_3 dX8_clearLead_56 ?_
      refine lv_imul hx hb dX8_clearLead_57 ?_
      refine lv_iadd hx hb dX8_clearLead_58 ?_
      refine pm_callV (As := [.int ((v4 * (mI M v1 v6.toNatClampNeg)) + (v5 * (mI M v2 v6.toNatClampNeg)))]) (rest := [.int v6, .ref (H0.size + v1)]) 1 E hI (k_X8_modulo t_v0 hw) t_v0 (by decide) rfl kc_X8_modulo kl_X8_53 km_X8_modulo ks_X8_modulo ki_X8 (by decide +kernel) ⟨by decide, by decide⟩ rfl hl.1 rfl (by first | exact Nat.le_of_ble_eq_true rfl | (simp only [List.map, pm_rf_cat]; exact Nat.le_of_ble_eq_true rfl)) dX8_clearLead_59 ⟨by decide, by decide⟩ (fun r9 M9 H locs hp hX1 hI => ?_)
      clear hw
      obtain ⟨r_4, rfl, rfl, hw⟩ := hp
      refine pm_nrm (cells' := 0) (slots' := 0) (g2 := F0 m 62 ls [.int r_4, .int v6, .ref (H0.size + v1)]) rfl rfl rfl ?_
      obtain ⟨h_5, hw⟩ := hw
      refine ps_iast E hI t_v1 h_5 dX8_clearLead_62 (fun H locs M_6 e_M_6 hX1 hI => ?_)
      replace hw := hw M_6 e_M_6
      replace t_v0 := t_v0.x hX1
      replace t_v1 := t_v1.x hX1
      replace t_v2 := t_v2.x hX1
      replace hX := hX.tr hX1
      obtain ⟨x_7, e_x_7⟩ : ∃ z : Int32, z = v6 + (1 : Int32) := ⟨_, rfl⟩
      refine lv_iinc (v := x_7) (lv' := [(6, .int x_7), (0, .ref (H0.size + v0)), (1, .ref (H0.size + v1)), (2, .ref (H0.size + v2)), (4, .int v4), (5, .int v5)]) hx hb dX8_clearLead_63 hl (k := 5) rfl (by rw [e_x_7]; rfl) (by decide) rfl (fun ls hl_8 => ?_)
      replace hw := hw x_7 e_x_7
      refine lv_goto (tgt := 31) hx hb dX8_clearLead_66 (by decide) ?_
      exact ih _ _ _ _ _ hX hI t_v0 t_v1 t_v2 (lv_sub hl_8 [1, 2, 3, 4, 5, 0] rfl) hw
set_option maxHeartbeats 4000000 in
set_option maxRecDepth 100000 in
theorem c_X8_clearLead_12 {p : Program} {l : Launch} {e : Env} {s : State} {m : MethodId} {args : Array Value} {below : List Frame} {meth : Method} {c : Code} {G : pm_G} {H0 : Heap} {M0 : pm_M} {Post : pm_M → Prop} {M : pm_M} (E : pm_E G p s m args meth c cX8_clearLead 7 RX8) (hret : meth.sig.returnType = none) {H : Heap} {locs : List Loc} {ls : Array Slot} (hX : pm_X M0 M) (hI : pm_I G H0 M H locs) (hl : lv_has ls 7 []) (hw : w_X8_clearLead_12 Post M) : W p l e rm_X8_clearLead s m args below meth c H locs 0 0 (pm_Z G H0 M0 (pm_Pv Post) below args s rm_X8_clearLead.cells rm_X8_clearLead.slots) (F0 m 12 ls []) := by
  have hx := E.1
  have hb := E.2.1
  have hown := E.2.2.2.1
  have hts := E.2.2.2.2.1
  unfold w_X8_clearLead_12 at hw
  exact pm_vret E hret hI hX ⟨rfl, hw⟩ (by decide) (by decide) dX8_clearLead_12
set_option maxHeartbeats 4000000 in
set_option maxRecDepth 100000 in
theorem k_X8_clearLead {l : Launch} {G : pm_G} {H0 : Heap} {th : Nat} {a1 : Nat} {a2 : Nat} {a3 : Int32} {M : pm_M} {Post : pm_M → Prop} (t_th : pm_is M th 7) (t_a1 : pm_is M a1 11) (t_a2 : pm_is M a2 11) (hw : w_X8_clearLead th a1 a2 a3 M Post) : pm_C l G H0 yX8_clearLead cX8_clearLead 7 none rm_X8_clearLead [.ref (H0.size + th), .ref (H0.size + a1), .ref (H0.size + a2), .int a3] M (pm_Pv Post) := by
  refine pm_start (by decide +kernel) (Nat.le_of_ble_eq_true rfl) ?_
  intro p e s m args below meth c H ls E hret hnm hI hl
  have hX : pm_X M M := pm_X.rf
  have hl : lv_has ls 7 [(0, .ref (H0.size + th)), (1, .ref (H0.size + a1)), (2, .ref (H0.size + a2)), (3, .int a3)] := hl
  have hx := E.1
  have hb := E.2.1
  have hown := E.2.2.2.1
  have hts := E.2.2.2.2.1
  unfold w_X8_clearLead at hw
  refine lv_iload_n hx hb dX8_clearLead_0 rfl (lv_at hl 3 rfl) ?_
  refine lv_if_lt (tgt := 12) hx hb dX8_clearLead_1 (by decide) (fun h_1 => ?_) (fun h_1 => ?_)
  · replace hw := hw.1 h_1
    exact c_X8_clearLead_12 E hret hX hI (lv_sub hl [] rfl) hw
  · replace hw := hw.2 h_1
    refine lv_iload_n hx hb dX8_clearLead_4 rfl (lv_at hl 3 rfl) ?_
    refine lv_aload_n hx hb dX8_clearLead_5 rfl (lv_at hl 0 rfl) ?_
    refine gf_X8_27 E hI t_th dX8_clearLead_6 ?_
    refine lv_icmp_lt (tgt := 13) hx hb dX8_clearLead_9 (by decide) (fun h_2 => ?_) (fun h_2 => ?_)
    · replace hw := hw.1 h_2
      refine lv_aload_n hx hb dX8_clearLead_13 rfl (lv_at hl 2 rfl) ?_
      refine lv_iload_n hx hb dX8_clearLead_14 rfl (lv_at hl 3 rfl) ?_
      obtain ⟨h_3, hw⟩ := hw
      refine pm_iald E hI t_a2 h_3 dX8_clearLead_15 ?_
      refine lv_topi (fun x_4 e_x_4 => ?_)
      replace hw := hw x_4 e_x_4
      refine lv_istore (lv' := [(4, .int x_4), (0, .ref (H0.size + th)), (1, .ref (H0.size + a1)), (2, .ref (H0.size + a2)), (3, .int a3)]) hx hb dX8_clearLead_16 hl (by decide) rfl (fun ls hl_5 => ?_)
      refine lv_aload_n hx hb dX8_clearLead_18 rfl (lv_at hl_5 1 rfl) ?_
      refine gf_X8_23 E hI t_th dX8_clearLead_19 ?_
      refine lv_aload_n hx hb dX8_clearLead_22 rfl (lv_at hl_5 2 rfl) ?_
      refine lv_iload_n hx hb dX8_clearLead_23 rfl (lv_at hl_5 4 rfl) ?_
      obtain ⟨h_6, hw⟩ := hw
      refine pm_iald E hI t_a1 h_6 dX8_clearLead_24 ?_
      refine lv_isub hx hb dX8_clearLead_25 ?_
      refine lv_topi (fun x_7 e_x_7 => ?_)
      replace hw := hw x_7 e_x_7
      refine lv_istore (lv' := [(5, .int x_7), (4, .int x_4), (0, .ref (H0.size + th)), (1, .ref (H0.size + a1)), (2, .ref (H0.size + a2)), (3, .int a3)]) hx hb dX8_clearLead_26 hl_5 (by decide) rfl (fun ls hl_8 => ?_)
      refine lv_iconst (v := (0 : Int32)) hx hb dX8_clearLead_28 (by decide) ?_
      refine lv_istore (lv' := [(6, .int (0 : Int32)), (5, .int x_7), (4, .int x_4), (0, .ref (H0.size + th)), (1, .ref (H0.size + a1)), (2, .ref (H0.size + a2)), (3, .int a3)]) hx hb dX8_clearLead_29 hl_8 (by decide) rfl (fun ls hl_9 => ?_)
      obtain ⟨n_10, hw⟩ := hw
      exact c_X8_clearLead_31 E hret n_10 _ _ _ _ _ hX hI t_th t_a1 t_a2 (lv_sub hl_9 [3, 4, 5, 2, 1, 0] rfl) hw
    · replace hw := hw.2 h_2
      exact c_X8_clearLead_12 E hret hX hI (lv_sub hl [] rfl) hw
set_option maxHeartbeats 4000000 in
set_option maxRecDepth 100000 in
theorem c_X8_firstNotZero_2 {p : Program} {l : Launch} {e : Env} {s : State} {m : MethodId} {args : Array Value} {below : List Frame} {meth : Method} {c : Code} {G : pm_G} {H0 : Heap} {Post : Int32 → Prop} {v0 : Nat} {v1 : Nat} {M : pm_M} (E : pm_E G p s m args meth c cX8_firstNotZero 3 RX8) (hret : meth.sig.returnType = (some .int)) : ∀ (n : Nat) (v2 : Int32) (H : Heap) (locs : List Loc) (ls : Array Slot), pm_I G H0 M H locs → (pm_is M v0 7) → (pm_is M v1 11) → lv_has ls 3 [(0, .ref (H0.size + v0)), (1, .ref (H0.size + v1)), (2, .int v2)] → w_X8_firstNotZero_2 Post v0 v1 M n v2 → W p l e rm_X8_firstNotZero s m args below meth c H locs 0 0 (pm_Z G H0 M (pm_Pi (fun r9 M9 => M = M9 ∧ Post r9)) below args s rm_X8_firstNotZero.cells rm_X8_firstNotZero.slots) (F0 m 2 ls []) := by
  have hx := E.1
  have hb := E.2.1
  have hown := E.2.2.2.1
  have hts := E.2.2.2.2.1
  intro n
  induction n with
  | zero =>
    intro v2 H locs ls hI t_v0 t_v1 hl hw
    unfold w_X8_firstNotZero_2 at hw
    exact hw.elim
  | succ n ih =>
    intro v2 H locs ls hI t_v0 t_v1 hl hw
    unfold w_X8_firstNotZero_2 at hw
    refine lv_iload_n hx hb dX8_firstNotZero_2 rfl (lv_at hl 2 rfl) ?_
    refine lv_aload_n hx hb dX8_firstNotZero_3 rfl (lv_at hl 0 rfl) ?_
    refine gf_X8_27 E hI t_v0 dX8_firstNotZero_4 ?_
    refine lv_icmp_ge (tgt := 24) hx hb dX8_firstNotZero_7 (by decide) (fun h_1 => ?_) (fun h_1 => ?_)
    · replace hw := hw.1 h_1
      refine lv_iconst (v := (-1 : Int32)) hx hb dX8_firstNotZero_24 (by decide) ?_
      exact pm_iret E hret hI pm_X.rf ⟨_, rfl, rfl, hw⟩ (by decide) (by decide) dX8_firstNotZero_25
    · replace hw := hw.2 h_1
      refine lv_aload_n hx hb dX8_firstNotZero_10 rfl (lv_at hl 1 rfl) ?_
      refine lv_iload_n hx hb dX8_firstNotZero_11 rfl (lv_at hl 2 rfl) ?_
      obtain ⟨h_2, hw⟩ := hw
      refine pm_iald E hI t_v1 h_2 dX8_firstNotZero_12 ?_
      refine lv_if_eq (tgt := 18) hx hb dX8_firstNotZero_13 (by decide) (fun h_3 => ?_) (fun h_3 => ?_)
      · replace hw := hw.1 h_3
        obtain ⟨x_4, e_x_4⟩ : ∃ z : Int32, z = v2 + (1 : Int32) := ⟨_, rfl⟩
        refine lv_iinc (v := x_4) (lv' := [(2, .int x_4), (0, .ref (H0.size + v0)), (1, .ref (H0.size + v1))]) hx hb dX8_firstNotZero_18 hl (k := 2) rfl (by rw [e_x_4]; rfl) (by decide) rfl (fun ls hl_5 => ?_)
        replace hw := hw x_4 e_x_4
        refine lv_goto (tgt := 2) hx hb dX8_firstNotZero_21 (by decide) ?_
        exact ih _ _ _ _ hI t_v0 t_v1 (lv_sub hl_5 [1, 2, 0] rfl) hw
      · replace hw := hw.2 h_3
        refine lv_iload_n hx hb dX8_firstNotZero_16 rfl (lv_at hl 2 rfl) ?_
        exact pm_iret E hret hI pm_X.rf ⟨_, rfl, rfl, hw⟩ (by decide) (by decide) dX8_firstNotZero_17
set_option maxHeartbeats 4000000 in
set_option maxRecDepth 100000 in
theorem k_X8_firstNotZero {l : Launch} {G : pm_G} {H0 : Heap} {th : Nat} {a1 : Nat} {M : pm_M} {Post : Int32 → Prop} (t_th : pm_is M th 7) (t_a1 : pm_is M a1 11) (hw : w_X8_firstNotZero th a1 M Post) : pm_C l G H0 yX8_firstNotZero cX8_firstNotZero 3 (some .int) rm_X8_firstNotZero [.ref (H0.size + th), .ref (H0.size + a1)] M (pm_Pi (fun r9 M9 => M = M9 ∧ Post r9)) := by
  refine pm_start (by decide +kernel) (Nat.le_of_ble_eq_true rfl) ?_
  intro p e s m args below meth c H ls E hret hnm hI hl
  have hl : lv_has ls 3 [(0, .ref (H0.size + th)), (1, .ref (H0.size + a1))] := hl
  have hx := E.1
  have hb := E.2.1
  have hown := E.2.2.2.1
  have hts := E.2.2.2.2.1
  unfold w_X8_firstNotZero at hw
  refine lv_iconst (v := (0 : Int32)) hx hb dX8_firstNotZero_0 (by decide) ?_
  refine lv_istore_n (lv' := [(2, .int (0 : Int32)), (0, .ref (H0.size + th)), (1, .ref (H0.size + a1))]) hx hb dX8_firstNotZero_1 rfl hl (by decide) rfl (fun ls hl_1 => ?_)
  obtain ⟨n_2, hw⟩ := hw
  exact c_X8_firstNotZero_2 E hret n_2 _ _ _ _ hI t_th t_a1 (lv_sub hl_1 [1, 2, 0] rfl) hw
set_option maxHeartbeats 4000000 in
set_option maxRecDepth 100000 in
theorem c_X8_fits_138 {p : Program} {l : Launch} {e : Env} {s : State} {m : MethodId} {args : Array Value} {below : List Frame} {meth : Method} {c : Code} {G : pm_G} {H0 : Heap} {M0 : pm_M} {Post : Int32 → pm_M → Prop} {s0 : Int32} {M : pm_M} (E : pm_E G p s m args meth c cX8_fits 4 RX8) (hret : meth.sig.returnType = (some .boolean)) {H : Heap} {locs : List Loc} {ls : Array Slot} (hX : pm_X M0 M) (hI : pm_I G H0 M H locs) (hl : lv_has ls 4 []) (hw : w_X8_fits_138 Post s0 M) : W p l e rm_X8_fits s m args below meth c H locs 0 0 (pm_Z G H0 M0 (pm_Pi Post) below args s rm_X8_fits.cells rm_X8_fits.slots) (F0 m 138 ls [.int s0]) := by
  have hx := E.1
  have hb := E.2.1
  have hown := E.2.2.2.1
  have hts := E.2.2.2.2.1
  unfold w_X8_fits_138 at hw
  exact pm_zret E hret hI hX (pm_nb hw.1) ⟨_, rfl, hw.2⟩ (by decide) (by decide) dX8_fits_138
set_option maxHeartbeats 4000000 in
set_option maxRecDepth 100000 in
theorem c_X8_fits_101 {p : Program} {l : Launch} {e : Env} {s : State} {m : MethodId} {args : Array Value} {below : List Frame} {meth : Method} {c : Code} {G : pm_G} {H0 : Heap} {M0 : pm_M} {Post : Int32 → pm_M → Prop} {v0 : Nat} {v1 : Int32} {v2 : Int32} {v3 : Int32} {M : pm_M} {k_66 : Int32 → pm_M → Prop} (E : pm_E G p s m args meth c cX8_fits 4 RX8) (hret : meth.sig.returnType = (some .boolean)) (hk_66 : ∀ (v3 : Int32) (M : pm_M) (H : Heap) (locs : List Loc) (ls : Array Slot), pm_X M0 M → pm_I G H0 M H locs → (pm_is M v0 7) → lv_has ls 4 [(0, .ref (H0.size + v0)), (1, .int v1), (2, .int v2), (3, .int v3)] → k_66 v3 M → W p l e rm_X8_fits s m args below meth c H locs 0 0 (pm_Z G H0 M0 (pm_Pi Post) below args s rm_X8_fits.cells rm_X8_fits.slots) (F0 m 66 ls [])) {H : Heap} {locs : List Loc} {ls : Array Slot} (hX : pm_X M0 M) (hI : pm_I G H0 M H locs) (t_v0 : pm_is M v0 7) (hl : lv_has ls 4 [(0, .ref (H0.size + v0)), (1, .int v1), (2, .int v2), (3, .int v3)]) (hw : w_X8_fits_101 Post k_66 v0 v1 v2 v3 M) : W p l e rm_X8_fits s m args below meth c H locs 0 0 (pm_Z G H0 M0 (pm_Pi Post) below args s rm_X8_fits.cells rm_X8_fits.slots) (F0 m 101 ls []) := by
  have hx := E.1
  have hb := E.2.1
  have hown := E.2.2.2.1
  have hts := E.2.2.2.2.1
  unfold w_X8_fits_101 at hw
  obtain ⟨x_1, e_x_1⟩ : ∃ z : Int32, z = v3 + (-1 : Int32) := ⟨_, rfl⟩
  refine lv_iinc (v := x_1) (lv' := [(3, .int x_1), (0, .ref (H0.size + v0)), (1, .int v1), (2, .int v2)]) hx hb dX8_fits_101 hl (k := 3) rfl (by rw [e_x_1]; rfl) (by decide) rfl (fun ls hl_2 => ?_)
  replace hw := hw x_1 e_x_1
  refine lv_goto (tgt := 66) hx hb dX8_fits_104 (by decide) ?_
  exact hk_66 _ _ _ _ _ hX hI t_v0 (lv_sub hl_2 [1, 2, 3, 0] rfl) hw
set_option maxHeartbeats 4000000 in
set_option maxRecDepth 100000 in
theorem c_X8_fits_66 {p : Program} {l : Launch} {e : Env} {s : State} {m : MethodId} {args : Array Value} {below : List Frame} {meth : Method} {c : Code} {G : pm_G} {H0 : Heap} {M0 : pm_M} {Post : Int32 → pm_M → Prop} {v0 : Nat} {v1 : Int32} {v2 : Int32} (E : pm_E G p s m args meth c cX8_fits 4 RX8) (hret : meth.sig.returnType = (some .boolean)) : ∀ (n : Nat) (v3 : Int32) (M : pm_M) (H : Heap) (locs : List Loc) (ls : Array Slot), pm_X M0 M → pm_I G H0 M H locs → (pm_is M v0 7) → lv_has ls 4 [(0, .ref (H0.size + v0)), (1, .int v1), (2, .int v2), (3, .int v3)] → w_X8_fits_66 Post v0 v1 v2 n v3 M → W p l e rm_X8_fits s m args below meth c H locs 0 0 (pm_Z G H0 M0 (pm_Pi Post) below args s rm_X8_fits.cells rm_X8_fits.slots) (F0 m 66 ls []) := by
  have hx := E.1
  have hb := E.2.1
  have hown := E.2.2.2.1
  have hts := E.2.2.2.2.1
  intro n
  induction n with
  | zero =>
    intro v3 M H locs ls hX hI t_v0 hl hw
    unfold w_X8_fits_66 at hw
    exact hw.elim
  | succ n ih =>
    intro v3 M H locs ls hX hI t_v0 hl hw
    unfold w_X8_fits_66 at hw
    refine lv_iload_n hx hb dX8_fits_66 rfl (lv_at hl 3 rfl) ?_
    refine lv_iload_n hx hb dX8_fits_67 rfl (lv_at hl 2 rfl) ?_
    refine lv_icmp_le (tgt := 107) hx hb dX8_fits_68 (by decide) (fun h_1 => ?_) (fun h_1 => ?_)
    · replace hw := hw.1 h_1
      refine lv_aload_n hx hb dX8_fits_107 rfl (lv_at hl 0 rfl) ?_
      obtain ⟨q_2, e_q_2, hw⟩ := hw
      refine gf_X8_19 E hI t_v0 dX8_fits_108 e_q_2 (fun t_q_2 => ?_)
      refine lv_iload_n hx hb dX8_fits_111 rfl (lv_at hl 2 rfl) ?_
      refine lv_aload_n hx hb dX8_fits_112 rfl (lv_at hl 0 rfl) ?_
      refine lv_aload_n hx hb dX8_fits_113 rfl (lv_at hl 0 rfl) ?_
      obtain ⟨q_3, e_q_3, hw⟩ := hw
      refine gf_X8_16 E hI t_v0 dX8_fits_114 e_q_3 (fun t_q_3 => ?_)
      refine lv_iload_n hx hb dX8_fits_117 rfl (lv_at hl 2 rfl) ?_
      obtain ⟨h_4, hw⟩ := hw
      refine ps_aaldInts E hI t_q_3 h_4 dX8_fits_118 (fun o_5 e_o_5 o_o_5 => ?_)
      replace hw := hw o_5 e_o_5
      obtain ⟨q_6, hq, hw⟩ := hw
      subst hq
      have t_q_6 := o_o_5 q_6 rfl
      refine W.eq (g2 := F0 m 119 ls [.ref (H0.size + q_6), .ref (H0.size + v0), .int v2, .ref (H0.size + q_2)]) rfl ?_
      refine pm_callV (As := [.ref (H0.size + q_6)]) (rest := [.int v2, .ref (H0.size + q_2)]) 1 E hI (k_X8_firstNotZero t_v0 t_q_6 hw) t_v0 (by decide) rfl kc_X8_firstNotZero kl_X8_49 km_X8_firstNotZero ks_X8_firstNotZero ki_X8 (by decide +kernel) ⟨by decide, by decide⟩ rfl hl.1 rfl (by first | exact Nat.le_of_ble_eq_true rfl | (simp only [List.map, pm_rf_cat]; exact Nat.le_of_ble_eq_true rfl)) dX8_fits_119 ⟨by decide, by decide⟩ (fun r9 M9 H locs hp hX1 hI => ?_)
      clear hw
      obtain ⟨r_7, rfl, rfl, hw⟩ := hp
      refine pm_nrm (cells' := 0) (slots' := 0) (g2 := F0 m 122 ls [.int r_7, .int v2, .ref (H0.size + q_2)]) rfl rfl rfl ?_
      obtain ⟨h_8, hw⟩ := hw
      refine ps_iast E hI t_q_2 h_8 dX8_fits_122 (fun H locs M_9 e_M_9 hX1 hI => ?_)
      replace hw := hw M_9 e_M_9
      replace t_v0 := t_v0.x hX1
      replace hX := hX.tr hX1
      refine lv_aload_n hx hb dX8_fits_123 rfl (lv_at hl 0 rfl) ?_
      obtain ⟨q_10, e_q_10, hw⟩ := hw
      refine gf_X8_19 E hI t_v0 dX8_fits_124 e_q_10 (fun t_q_10 => ?_)
      refine lv_iload_n hx hb dX8_fits_127 rfl (lv_at hl 2 rfl) ?_
      obtain ⟨h_11, hw⟩ := hw
      refine pm_iald E hI t_q_10 h_11 dX8_fits_128 ?_
      refine lv_iconst (v := (-1 : Int32)) hx hb dX8_fits_129 (by decide) ?_
      refine lv_icmp_eq (tgt := 137) hx hb dX8_fits_130 (by decide) (fun h_12 => ?_) (fun h_12 => ?_)
      · replace hw := hw.1 h_12
        refine lv_iconst (v := (0 : Int32)) hx hb dX8_fits_137 (by decide) ?_
        exact c_X8_fits_138 E hret hX hI (lv_sub hl [] rfl) hw
      · replace hw := hw.2 h_12
        refine lv_iconst (v := (1 : Int32)) hx hb dX8_fits_133 (by decide) ?_
        refine lv_goto (tgt := 138) hx hb dX8_fits_134 (by decide) ?_
        exact c_X8_fits_138 E hret hX hI (lv_sub hl [] rfl) hw
    · replace hw := hw.2 h_1
      refine lv_iload_n hx hb dX8_fits_71 rfl (lv_at hl 1 rfl) ?_
      refine lv_iload_n hx hb dX8_fits_72 rfl (lv_at hl 3 rfl) ?_
      refine lv_ishr hx hb dX8_fits_73 ?_
      refine lv_iconst (v := (1 : Int32)) hx hb dX8_fits_74 (by decide) ?_
      refine lv_iand hx hb dX8_fits_75 ?_
      refine lv_if_eq (tgt := 101) hx hb dX8_fits_76 (by decide) (fun h_13 => ?_) (fun h_13 => ?_)
      · replace hw := hw.1 h_13
        exact c_X8_fits_101 E hret ih hX hI t_v0 (lv_sub hl [0, 1, 2, 3] rfl) hw
      · replace hw := hw.2 h_13
        refine lv_aload_n hx hb dX8_fits_79 rfl (lv_at hl 0 rfl) ?_
        refine lv_aload_n hx hb dX8_fits_80 rfl (lv_at hl 0 rfl) ?_
        obtain ⟨q_14, e_q_14, hw⟩ := hw
        refine gf_X8_16 E hI t_v0 dX8_fits_81 e_q_14 (fun t_q_14 => ?_)
        refine lv_iload_n hx hb dX8_fits_84 rfl (lv_at hl 2 rfl) ?_
        obtain ⟨h_15, hw⟩ := hw
        refine ps_aaldInts E hI t_q_14 h_15 dX8_fits_85 (fun o_16 e_o_16 o_o_16 => ?_)
        replace hw := hw o_16 e_o_16
        refine lv_aload_n hx hb dX8_fits_86 rfl (lv_at hl 0 rfl) ?_
        refine gf_X8_16 E hI t_v0 dX8_fits_87 e_q_14 (fun _ => ?_)
        refine lv_iload_n hx hb dX8_fits_90 rfl (lv_at hl 3 rfl) ?_
        obtain ⟨h_17, hw⟩ := hw
        refine ps_aaldInts E hI t_q_14 h_17 dX8_fits_91 (fun o_18 e_o_18 o_o_18 => ?_)
        replace hw := hw o_18 e_o_18
        refine lv_aload_n hx hb dX8_fits_92 rfl (lv_at hl 0 rfl) ?_
        obtain ⟨q_19, e_q_19, hw⟩ := hw
        refine gf_X8_19 E hI t_v0 dX8_fits_93 e_q_19 (fun t_q_19 => ?_)
        refine lv_iload_n hx hb dX8_fits_96 rfl (lv_at hl 3 rfl) ?_
        obtain ⟨h_20, hw⟩ := hw
        refine pm_iald E hI t_q_19 h_20 dX8_fits_97 ?_
        obtain ⟨q_21, hq, hw⟩ := hw
        subst hq
        have t_q_21 := o_o_16 q_21 rfl
        refine W.eq (g2 := F0 m 98 ls [.int (mI M q_19 v3.toNatClampNeg), pm_rf H0.size o_18, .ref (H0.size + q_21), .ref (H0.size + v0)]) rfl ?_
        obtain ⟨q_22, hq, hw⟩ := hw
        subst hq
        have t_q_22 := o_o_18 q_22 rfl
        refine W.eq (g2 := F0 m 98 ls [.int (mI M q_19 v3.toNatClampNeg), .ref (H0.size + q_22), .ref (H0.size + q_21), .ref (H0.size + v0)]) rfl ?_
        refine pm_callV (As := [.ref (H0.size + q_21), .ref (H0.size + q_22), .int (mI M q_19 v3.toNatClampNeg)]) (rest := []) 3 E hI (k_X8_clearLead t_v0 t_q_21 t_q_22 hw) t_v0 (by decide) rfl kc_X8_clearLead kl_X8_45 km_X8_clearLead ks_X8_clearLead ki_X8 (by decide +kernel) ⟨by decide, by decide⟩ rfl hl.1 rfl (by first | exact Nat.le_of_ble_eq_true rfl | (simp only [List.map, pm_rf_cat]; exact Nat.le_of_ble_eq_true rfl)) dX8_fits_98 ⟨by decide, by decide⟩ (fun r9 M_23 H locs hp hX1 hI => ?_)
        clear hw
        obtain ⟨rfl, hw⟩ := hp
        replace t_v0 := t_v0.x hX1
        replace hX := hX.tr hX1
        refine pm_nrm (cells' := 0) (slots' := 0) (g2 := F0 m 101 ls []) rfl rfl rfl ?_
        exact c_X8_fits_101 E hret ih hX hI t_v0 (lv_sub hl [0, 1, 2, 3] rfl) hw
set_option maxHeartbeats 4000000 in
set_option maxRecDepth 100000 in
theorem c_X8_fits_33 {p : Program} {l : Launch} {e : Env} {s : State} {m : MethodId} {args : Array Value} {below : List Frame} {meth : Method} {c : Code} {G : pm_G} {H0 : Heap} {M0 : pm_M} {Post : Int32 → pm_M → Prop} {v0 : Nat} {v1 : Int32} {v2 : Int32} (E : pm_E G p s m args meth c cX8_fits 4 RX8) (hret : meth.sig.returnType = (some .boolean)) : ∀ (n : Nat) (v3 : Int32) (M : pm_M) (H : Heap) (locs : List Loc) (ls : Array Slot), pm_X M0 M → pm_I G H0 M H locs → (pm_is M v0 7) → lv_has ls 4 [(0, .ref (H0.size + v0)), (1, .int v1), (2, .int v2), (3, .int v3)] → w_X8_fits_33 Post v0 v1 v2 n v3 M → W p l e rm_X8_fits s m args below meth c H locs 0 0 (pm_Z G H0 M0 (pm_Pi Post) below args s rm_X8_fits.cells rm_X8_fits.slots) (F0 m 33 ls []) := by
  have hx := E.1
  have hb := E.2.1
  have hown := E.2.2.2.1
  have hts := E.2.2.2.2.1
  intro n
  induction n with
  | zero =>
    intro v3 M H locs ls hX hI t_v0 hl hw
    unfold w_X8_fits_33 at hw
    exact hw.elim
  | succ n ih =>
    intro v3 M H locs ls hX hI t_v0 hl hw
    unfold w_X8_fits_33 at hw
    refine lv_iload_n hx hb dX8_fits_33 rfl (lv_at hl 3 rfl) ?_
    refine lv_aload_n hx hb dX8_fits_34 rfl (lv_at hl 0 rfl) ?_
    refine gf_X8_27 E hI t_v0 dX8_fits_35 ?_
    refine lv_icmp_ge (tgt := 63) hx hb dX8_fits_38 (by decide) (fun h_1 => ?_) (fun h_1 => ?_)
    · replace hw := hw.1 h_1
      refine lv_bipush (v := (11 : Int32)) hx hb dX8_fits_63 (by decide) ?_
      refine lv_istore_n (lv' := [(3, .int (11 : Int32)), (0, .ref (H0.size + v0)), (1, .int v1), (2, .int v2)]) hx hb dX8_fits_65 rfl hl (by decide) rfl (fun ls hl_2 => ?_)
      obtain ⟨n_3, hw⟩ := hw
      exact c_X8_fits_66 E hret n_3 _ _ _ _ _ hX hI t_v0 (lv_sub hl_2 [1, 2, 3, 0] rfl) hw
    · replace hw := hw.2 h_1
      refine lv_aload_n hx hb dX8_fits_41 rfl (lv_at hl 0 rfl) ?_
      obtain ⟨q_4, e_q_4, hw⟩ := hw
      refine gf_X8_16 E hI t_v0 dX8_fits_42 e_q_4 (fun t_q_4 => ?_)
      refine lv_iload_n hx hb dX8_fits_45 rfl (lv_at hl 2 rfl) ?_
      obtain ⟨h_5, hw⟩ := hw
      refine ps_aaldInts E hI t_q_4 h_5 dX8_fits_46 (fun o_6 e_o_6 o_o_6 => ?_)
      replace hw := hw o_6 e_o_6
      refine lv_iload_n hx hb dX8_fits_47 rfl (lv_at hl 3 rfl) ?_
      refine lv_aload_n hx hb dX8_fits_48 rfl (lv_at hl 0 rfl) ?_
      obtain ⟨q_7, e_q_7, hw⟩ := hw
      refine gf_X8_11 E hI t_v0 dX8_fits_49 e_q_7 (fun t_q_7 => ?_)
      refine lv_iload_n hx hb dX8_fits_52 rfl (lv_at hl 2 rfl) ?_
      obtain ⟨h_8, hw⟩ := hw
      refine ps_aaldInts E hI t_q_7 h_8 dX8_fits_53 (fun o_9 e_o_9 o_o_9 => ?_)
      replace hw := hw o_9 e_o_9
      refine lv_iload_n hx hb dX8_fits_54 rfl (lv_at hl 3 rfl) ?_
      obtain ⟨q_10, hq, hw⟩ := hw
      subst hq
      have t_q_10 := o_o_9 q_10 rfl
      refine W.eq (g2 := F0 m 55 ls [.int v3, .ref (H0.size + q_10), .int v3, pm_rf H0.size o_6]) rfl ?_
      obtain ⟨h_11, hw⟩ := hw
      refine pm_iald E hI t_q_10 h_11 dX8_fits_55 ?_
      obtain ⟨q_12, hq, hw⟩ := hw
      subst hq
      have t_q_12 := o_o_6 q_12 rfl
      refine W.eq (g2 := F0 m 56 ls [.int (mI M q_10 v3.toNatClampNeg), .int v3, .ref (H0.size + q_12)]) rfl ?_
      obtain ⟨h_13, hw⟩ := hw
      refine ps_iast E hI t_q_12 h_13 dX8_fits_56 (fun H locs M_14 e_M_14 hX1 hI => ?_)
      replace hw := hw M_14 e_M_14
      replace t_v0 := t_v0.x hX1
      replace hX := hX.tr hX1
      obtain ⟨x_15, e_x_15⟩ : ∃ z : Int32, z = v3 + (1 : Int32) := ⟨_, rfl⟩
      refine lv_iinc (v := x_15) (lv' := [(3, .int x_15), (0, .ref (H0.size + v0)), (1, .int v1), (2, .int v2)]) hx hb dX8_fits_57 hl (k := 3) rfl (by rw [e_x_15]; rfl) (by decide) rfl (fun ls hl_16 => ?_)
      replace hw := hw x_15 e_x_15
      refine lv_goto (tgt := 33) hx hb dX8_fits_60 (by decide) ?_
      exact ih _ _ _ _ _ hX hI t_v0 (lv_sub hl_16 [1, 2, 3, 0] rfl) hw
set_option maxHeartbeats 4000000 in
set_option maxRecDepth 100000 in
theorem c_X8_fits_20 {p : Program} {l : Launch} {e : Env} {s : State} {m : MethodId} {args : Array Value} {below : List Frame} {meth : Method} {c : Code} {G : pm_G} {H0 : Heap} {M0 : pm_M} {Post : Int32 → pm_M → Prop} {s0 : Int32} {M : pm_M} (E : pm_E G p s m args meth c cX8_fits 4 RX8) (hret : meth.sig.returnType = (some .boolean)) {H : Heap} {locs : List Loc} {ls : Array Slot} (hX : pm_X M0 M) (hI : pm_I G H0 M H locs) (hl : lv_has ls 4 []) (hw : w_X8_fits_20 Post s0 M) : W p l e rm_X8_fits s m args below meth c H locs 0 0 (pm_Z G H0 M0 (pm_Pi Post) below args s rm_X8_fits.cells rm_X8_fits.slots) (F0 m 20 ls [.int s0]) := by
  have hx := E.1
  have hb := E.2.1
  have hown := E.2.2.2.1
  have hts := E.2.2.2.2.1
  unfold w_X8_fits_20 at hw
  exact pm_zret E hret hI hX (pm_nb hw.1) ⟨_, rfl, hw.2⟩ (by decide) (by decide) dX8_fits_20
set_option maxHeartbeats 4000000 in
set_option maxRecDepth 100000 in
theorem c_X8_fits_11 {p : Program} {l : Launch} {e : Env} {s : State} {m : MethodId} {args : Array Value} {below : List Frame} {meth : Method} {c : Code} {G : pm_G} {H0 : Heap} {M0 : pm_M} {Post : Int32 → pm_M → Prop} {v1 : Int32} {M : pm_M} (E : pm_E G p s m args meth c cX8_fits 4 RX8) (hret : meth.sig.returnType = (some .boolean)) {H : Heap} {locs : List Loc} {ls : Array Slot} (hX : pm_X M0 M) (hI : pm_I G H0 M H locs) (hl : lv_has ls 4 [(1, .int v1)]) (hw : w_X8_fits_11 Post v1 M) : W p l e rm_X8_fits s m args below meth c H locs 0 0 (pm_Z G H0 M0 (pm_Pi Post) below args s rm_X8_fits.cells rm_X8_fits.slots) (F0 m 11 ls []) := by
  have hx := E.1
  have hb := E.2.1
  have hown := E.2.2.2.1
  have hts := E.2.2.2.2.1
  unfold w_X8_fits_11 at hw
  refine lv_iload_n hx hb dX8_fits_11 rfl (lv_at hl 0 rfl) ?_
  refine lv_if_ne (tgt := 19) hx hb dX8_fits_12 (by decide) (fun h_1 => ?_) (fun h_1 => ?_)
  · replace hw := hw.1 h_1
    refine lv_iconst (v := (0 : Int32)) hx hb dX8_fits_19 (by decide) ?_
    exact c_X8_fits_20 E hret hX hI (lv_sub hl [] rfl) hw
  · replace hw := hw.2 h_1
    refine lv_iconst (v := (1 : Int32)) hx hb dX8_fits_15 (by decide) ?_
    refine lv_goto (tgt := 20) hx hb dX8_fits_16 (by decide) ?_
    exact c_X8_fits_20 E hret hX hI (lv_sub hl [] rfl) hw
set_option maxHeartbeats 4000000 in
set_option maxRecDepth 100000 in
theorem k_X8_fits {l : Launch} {G : pm_G} {H0 : Heap} {th : Nat} {a1 : Int32} {M : pm_M} {Post : Int32 → pm_M → Prop} (t_th : pm_is M th 7) (hw : w_X8_fits th a1 M Post) : pm_C l G H0 yX8_fits cX8_fits 4 (some .boolean) rm_X8_fits [.ref (H0.size + th), .int a1] M (pm_Pi Post) := by
  refine pm_start (by decide +kernel) (Nat.le_of_ble_eq_true rfl) ?_
  intro p e s m args below meth c H ls E hret hnm hI hl
  have hX : pm_X M M := pm_X.rf
  have hl : lv_has ls 4 [(0, .ref (H0.size + th)), (1, .int a1)] := hl
  have hx := E.1
  have hb := E.2.1
  have hown := E.2.2.2.1
  have hts := E.2.2.2.2.1
  unfold w_X8_fits at hw
  refine lv_iload_n hx hb dX8_fits_0 rfl (lv_at hl 1 rfl) ?_
  refine lv_if_le (tgt := 11) hx hb dX8_fits_1 (by decide) (fun h_1 => ?_) (fun h_1 => ?_)
  · replace hw := hw.1 h_1
    exact c_X8_fits_11 E hret hX hI (lv_sub hl [1] rfl) hw
  · replace hw := hw.2 h_1
    refine lv_iload_n hx hb dX8_fits_4 rfl (lv_at hl 1 rfl) ?_
    refine lv_bipush (v := (12 : Int32)) hx hb dX8_fits_5 (by decide) ?_
    refine lv_ishr hx hb dX8_fits_7 ?_
    refine lv_if_eq (tgt := 21) hx hb dX8_fits_8 (by decide) (fun h_2 => ?_) (fun h_2 => ?_)
    · replace hw := hw.1 h_2
      refine lv_iload_n hx hb dX8_fits_21 rfl (lv_at hl 1 rfl) ?_
      refine lv_iload_n hx hb dX8_fits_22 rfl (lv_at hl 1 rfl) ?_
      refine lv_ineg hx hb dX8_fits_23 ?_
      refine lv_iand hx hb dX8_fits_24 ?_
      refine lv_iconst (v := (1 : Int32)) hx hb dX8_fits_25 (by decide) ?_
      refine lv_isub hx hb dX8_fits_26 ?_
      refine pm_callS (As := [.int ((a1 &&& (-a1)) - (1 : Int32))]) (rest := []) 1 E hI (k_J6_bitCount_0f7a4 hw) kc_J6_bitCount_0f7a4 kl_X8_39 kt_J6_bitCount_0f7a4 ki_J6 (by decide +kernel) ⟨by decide, by decide⟩ rfl hl.1 rfl (by first | exact Nat.le_of_ble_eq_true rfl | (simp only [List.map, pm_rf_cat]; exact Nat.le_of_ble_eq_true rfl)) dX8_fits_27 ⟨by decide, by decide⟩ (fun r9 M9 H locs hp hX1 hI => ?_)
      clear hw
      obtain ⟨r_3, rfl, rfl, hw⟩ := hp
      refine pm_nrm (cells' := 0) (slots' := 0) (g2 := F0 m 30 ls [.int r_3]) rfl rfl rfl ?_
      refine lv_istore_n (lv' := [(2, .int r_3), (0, .ref (H0.size + th)), (1, .int a1)]) hx hb dX8_fits_30 rfl hl (by decide) rfl (fun ls hl_4 => ?_)
      refine lv_iconst (v := (0 : Int32)) hx hb dX8_fits_31 (by decide) ?_
      refine lv_istore_n (lv' := [(3, .int (0 : Int32)), (2, .int r_3), (0, .ref (H0.size + th)), (1, .int a1)]) hx hb dX8_fits_32 rfl hl_4 (by decide) rfl (fun ls hl_5 => ?_)
      obtain ⟨n_6, hw⟩ := hw
      exact c_X8_fits_33 E hret n_6 _ _ _ _ _ hX hI t_th (lv_sub hl_5 [2, 3, 1, 0] rfl) hw
    · replace hw := hw.2 h_2
      exact c_X8_fits_11 E hret hX hI (lv_sub hl [1] rfl) hw
set_option maxHeartbeats 4000000 in
set_option maxRecDepth 100000 in
theorem c_X5_rankByParts_92 {p : Program} {l : Launch} {e : Env} {s : State} {m : MethodId} {args : Array Value} {below : List Frame} {meth : Method} {c : Code} {G : pm_G} {H0 : Heap} {M0 : pm_M} {Post : Int32 → pm_M → Prop} {s0 : Int32} {M : pm_M} (E : pm_E G p s m args meth c cX5_rankByParts 8 RX5) (hret : meth.sig.returnType = (some .int)) {H : Heap} {locs : List Loc} {ls : Array Slot} (hX : pm_X M0 M) (hI : pm_I G H0 M H locs) (hl : lv_has ls 8 []) (hw : w_X5_rankByParts_92 Post s0 M) : W p l e rm_X5_rankByParts s m args below meth c H locs 0 0 (pm_Z G H0 M0 (pm_Pi Post) below args s rm_X5_rankByParts.cells rm_X5_rankByParts.slots) (F0 m 92 ls [.int s0]) := by
  have hx := E.1
  have hb := E.2.1
  have hown := E.2.2.2.1
  have hts := E.2.2.2.2.1
  unfold w_X5_rankByParts_92 at hw
  exact pm_iret E hret hI hX ⟨_, rfl, hw⟩ (by decide) (by decide) dX5_rankByParts_92
set_option maxHeartbeats 4000000 in
set_option maxRecDepth 100000 in
theorem c_X5_rankByParts_90 {p : Program} {l : Launch} {e : Env} {s : State} {m : MethodId} {args : Array Value} {below : List Frame} {meth : Method} {c : Code} {G : pm_G} {H0 : Heap} {M0 : pm_M} {Post : Int32 → pm_M → Prop} {v4 : Int32} {M : pm_M} (E : pm_E G p s m args meth c cX5_rankByParts 8 RX5) (hret : meth.sig.returnType = (some .int)) {H : Heap} {locs : List Loc} {ls : Array Slot} (hX : pm_X M0 M) (hI : pm_I G H0 M H locs) (hl : lv_has ls 8 [(4, .int v4)]) (hw : w_X5_rankByParts_90 Post v4 M) : W p l e rm_X5_rankByParts s m args below meth c H locs 0 0 (pm_Z G H0 M0 (pm_Pi Post) below args s rm_X5_rankByParts.cells rm_X5_rankByParts.slots) (F0 m 90 ls []) := by
  have hx := E.1
  have hb := E.2.1
  have hown := E.2.2.2.1
  have hts := E.2.2.2.2.1
  unfold w_X5_rankByParts_90 at hw
  refine lv_iload hx hb dX5_rankByParts_90 (lv_at hl 0 rfl) ?_
  exact c_X5_rankByParts_92 E hret hX hI (lv_sub hl [] rfl) hw
set_option maxHeartbeats 4000000 in
set_option maxRecDepth 100000 in
theorem c_X5_rankByParts_62 {p : Program} {l : Launch} {e : Env} {s : State} {m : MethodId} {args : Array Value} {below : List Frame} {meth : Method} {c : Code} {G : pm_G} {H0 : Heap} {M0 : pm_M} {Post : Int32 → pm_M → Prop} {v0 : Nat} {v1 : Int32} {v2 : Nat} {v3 : Int32} {v4 : Int32} {v5 : Int32} {v6 : Int32} {M : pm_M} {k_14 : Int32 → Int32 → Int32 → Prop} (E : pm_E G p s m args meth c cX5_rankByParts 8 RX5) (hret : meth.sig.returnType = (some .int)) (hk_14 : ∀ (v4 : Int32) (v5 : Int32) (v6 : Int32) (H : Heap) (locs : List Loc) (ls : Array Slot), pm_X M0 M → pm_I G H0 M H locs → (pm_is M v0 4) → (pm_isC M v2) → lv_has ls 8 [(0, .ref (H0.size + v0)), (1, .int v1), (2, .ref (H0.size + v2)), (3, .int v3), (4, .int v4), (5, .int v5), (6, .int v6)] → k_14 v4 v5 v6 → W p l e rm_X5_rankByParts s m args below meth c H locs 0 0 (pm_Z G H0 M0 (pm_Pi Post) below args s rm_X5_rankByParts.cells rm_X5_rankByParts.slots) (F0 m 14 ls [])) {H : Heap} {locs : List Loc} {ls : Array Slot} (hX : pm_X M0 M) (hI : pm_I G H0 M H locs) (t_v0 : pm_is M v0 4) (t_v2 : pm_isC M v2) (hl : lv_has ls 8 [(0, .ref (H0.size + v0)), (1, .int v1), (2, .ref (H0.size + v2)), (3, .int v3), (4, .int v4), (5, .int v5), (6, .int v6)]) (hw : w_X5_rankByParts_62 Post k_14 v0 v1 v2 v3 v4 v5 v6 M) : W p l e rm_X5_rankByParts s m args below meth c H locs 0 0 (pm_Z G H0 M0 (pm_Pi Post) below args s rm_X5_rankByParts.cells rm_X5_rankByParts.slots) (F0 m 62 ls []) := by
  have hx := E.1
  have hb := E.2.1
  have hown := E.2.2.2.1
  have hts := E.2.2.2.2.1
  unfold w_X5_rankByParts_62 at hw
  obtain ⟨x_1, e_x_1⟩ : ∃ z : Int32, z = v6 + (1 : Int32) := ⟨_, rfl⟩
  refine lv_iinc (v := x_1) (lv' := [(6, .int x_1), (0, .ref (H0.size + v0)), (1, .int v1), (2, .ref (H0.size + v2)), (3, .int v3), (4, .int v4), (5, .int v5)]) hx hb dX5_rankByParts_62 hl (k := 6) rfl (by rw [e_x_1]; rfl) (by decide) rfl (fun ls hl_2 => ?_)
  replace hw := hw x_1 e_x_1
  refine lv_goto (tgt := 14) hx hb dX5_rankByParts_65 (by decide) ?_
  exact hk_14 _ _ _ _ _ _ hX hI t_v0 t_v2 (lv_sub hl_2 [1, 2, 3, 4, 5, 6, 0] rfl) hw
set_option maxHeartbeats 4000000 in
set_option maxRecDepth 100000 in
theorem c_X5_rankByParts_14 {p : Program} {l : Launch} {e : Env} {s : State} {m : MethodId} {args : Array Value} {below : List Frame} {meth : Method} {c : Code} {G : pm_G} {H0 : Heap} {M0 : pm_M} {Post : Int32 → pm_M → Prop} {v0 : Nat} {v1 : Int32} {v2 : Nat} {v3 : Int32} {M : pm_M} (E : pm_E G p s m args meth c cX5_rankByParts 8 RX5) (hret : meth.sig.returnType = (some .int)) : ∀ (n : Nat) (v4 : Int32) (v5 : Int32) (v6 : Int32) (H : Heap) (locs : List Loc) (ls : Array Slot), pm_X M0 M → pm_I G H0 M H locs → (pm_is M v0 4) → (pm_isC M v2) → lv_has ls 8 [(0, .ref (H0.size + v0)), (1, .int v1), (2, .ref (H0.size + v2)), (3, .int v3), (4, .int v4), (5, .int v5), (6, .int v6)] → w_X5_rankByParts_14 Post v0 v1 v2 v3 M n v4 v5 v6 → W p l e rm_X5_rankByParts s m args below meth c H locs 0 0 (pm_Z G H0 M0 (pm_Pi Post) below args s rm_X5_rankByParts.cells rm_X5_rankByParts.slots) (F0 m 14 ls []) := by
  have hx := E.1
  have hb := E.2.1
  have hown := E.2.2.2.1
  have hts := E.2.2.2.2.1
  intro n
  induction n with
  | zero =>
    intro v4 v5 v6 H locs ls hX hI t_v0 t_v2 hl hw
    unfold w_X5_rankByParts_14 at hw
    exact hw.elim
  | succ n ih =>
    intro v4 v5 v6 H locs ls hX hI t_v0 t_v2 hl hw
    unfold w_X5_rankByParts_14 at hw
    refine lv_iload hx hb dX5_rankByParts_14 (lv_at hl 6 rfl) ?_
    refine lv_bipush (v := (12 : Int32)) hx hb dX5_rankByParts_16 (by decide) ?_
    refine lv_icmp_ge (tgt := 68) hx hb dX5_rankByParts_18 (by decide) (fun h_1 => ?_) (fun h_1 => ?_)
    · replace hw := hw.1 h_1
      refine lv_iload hx hb dX5_rankByParts_68 (lv_at hl 5 rfl) ?_
      refine lv_iload_n hx hb dX5_rankByParts_70 rfl (lv_at hl 3 rfl) ?_
      refine lv_iconst (v := (1 : Int32)) hx hb dX5_rankByParts_71 (by decide) ?_
      refine lv_isub hx hb dX5_rankByParts_72 ?_
      refine lv_icmp_ne (tgt := 90) hx hb dX5_rankByParts_73 (by decide) (fun h_2 => ?_) (fun h_2 => ?_)
      · replace hw := hw.1 h_2
        exact c_X5_rankByParts_90 E hret hX hI (lv_sub hl [4] rfl) hw
      · replace hw := hw.2 h_2
        refine lv_aload_n hx hb dX5_rankByParts_76 rfl (lv_at hl 2 rfl) ?_
        refine lv_iload_n hx hb dX5_rankByParts_77 rfl (lv_at hl 1 rfl) ?_
        obtain ⟨K9, hK9⟩ : ∃ z : Int32 → pm_M → Prop, z = (fun r_4 M_3 => ((r_4 = 0 → w_X5_rankByParts_90 Post v4 M_3) ∧ (¬ r_4 = 0 → w_X5_rankByParts_92 Post v3 M_3))) := ⟨_, rfl⟩
        have hk9 : ∀ (r9 : Option Value) (M9 : pm_M) (H9 : Heap) (locs9 : List Loc), pm_Pi K9 r9 M9 → pm_X M M9 → pm_I G H0 M9 H9 locs9 → W p l e rm_X5_rankByParts s m args below meth c H9 locs9 0 0 (pm_Z G H0 M0 (pm_Pi Post) below args s rm_X5_rankByParts.cells rm_X5_rankByParts.slots) (F0 m 83 ls (r9.toList ++ [])) := by
          intro r9 M_3 H locs hp hX1 hI
          rw [hK9] at hp
          clear hw
          obtain ⟨r_4, rfl, hw⟩ := hp
          replace t_v0 := t_v0.x hX1
          replace t_v2 := t_v2.x hX1
          replace hX := hX.tr hX1
          refine pm_nrm (cells' := 0) (slots' := 0) (g2 := F0 m 83 ls [.int r_4]) rfl rfl rfl ?_
          refine lv_if_eq (tgt := 90) hx hb dX5_rankByParts_83 (by decide) (fun h_5 => ?_) (fun h_5 => ?_)
          · replace hw := hw.1 h_5
            exact c_X5_rankByParts_90 E hret hX hI (lv_sub hl [4] rfl) hw
          · replace hw := hw.2 h_5
            refine lv_iload_n hx hb dX5_rankByParts_86 rfl (lv_at hl 3 rfl) ?_
            refine lv_goto (tgt := 92) hx hb dX5_rankByParts_87 (by decide) ?_
            exact c_X5_rankByParts_92 E hret hX hI (lv_sub hl [] rfl) hw
        replace hw : (mT M v2 = 0 → w_X0_fits v2 v1 M (fun r8 => K9 r8 M)) ∧ (mT M v2 = 1 → w_X2_fits v2 v1 M (fun r8 => K9 r8 M)) ∧ (mT M v2 = 2 → w_X3_fits v2 v1 M (fun r8 => K9 r8 M)) ∧ (mT M v2 = 6 → w_X7_fits v2 v1 M (fun r8 => K9 r8 M)) ∧ (mT M v2 = 7 → w_X8_fits v2 v1 M K9) := by rw [hK9]; exact hw
        rcases t_v2.2 with h9 | h9 | h9 | h9 | h9
        · refine pm_nrm2 (pm_callF (x := yX1_fits) (As := [.int v1]) (rest := []) 1 E hI (pm_Pi_pure (k_X0_fits ⟨t_v2.1, h9⟩ (hw.1 h9))) ⟨t_v2.1, h9⟩ (by decide) rfl E.2.2.2.2.2.1.2.2.2.1.1 kc_X0_fits kl_X5_37 km_X0_fits kf_X0 ki_X0 (by decide +kernel) ⟨by decide, by decide⟩ rfl hl.1 rfl (Nat.le_of_ble_eq_true rfl) dX5_rankByParts_78 ⟨by decide, by decide⟩) ?_
          intro r9 M9 H9 locs9 hp hX1 hI9
          exact hk9 r9 M9 H9 locs9 hp hX1 hI9
        · refine pm_nrm2 (pm_callF (x := yX1_fits) (As := [.int v1]) (rest := []) 1 E hI (pm_Pi_pure (k_X2_fits ⟨t_v2.1, h9⟩ (hw.2.1 h9))) ⟨t_v2.1, h9⟩ (by decide) rfl E.2.2.2.2.2.1.2.2.2.1.2.1 kc_X2_fits kl_X5_37 km_X2_fits kf_X2 ki_X2 (by decide +kernel) ⟨by decide, by decide⟩ rfl hl.1 rfl (Nat.le_of_ble_eq_true rfl) dX5_rankByParts_78 ⟨by decide, by decide⟩) ?_
          intro r9 M9 H9 locs9 hp hX1 hI9
          exact hk9 r9 M9 H9 locs9 hp hX1 hI9
        · refine pm_nrm2 (pm_callF (x := yX1_fits) (As := [.int v1]) (rest := []) 1 E hI (pm_Pi_pure (k_X3_fits ⟨t_v2.1, h9⟩ (hw.2.2.1 h9))) ⟨t_v2.1, h9⟩ (by decide) rfl E.2.2.2.2.2.1.2.2.2.1.2.2.1 kc_X3_fits kl_X5_37 km_X3_fits kf_X3 ki_X3 (by decide +kernel) ⟨by decide, by decide⟩ rfl hl.1 rfl (Nat.le_of_ble_eq_true rfl) dX5_rankByParts_78 ⟨by decide, by decide⟩) ?_
          intro r9 M9 H9 locs9 hp hX1 hI9
          exact hk9 r9 M9 H9 locs9 hp hX1 hI9
        · refine pm_nrm2 (pm_callF (x := yX1_fits) (As := [.int v1]) (rest := []) 1 E hI (pm_Pi_pure (k_X7_fits ⟨t_v2.1, h9⟩ (hw.2.2.2.1 h9))) ⟨t_v2.1, h9⟩ (by decide) rfl E.2.2.2.2.2.1.2.2.2.1.2.2.2.1 kc_X7_fits kl_X5_37 km_X7_fits kf_X7 ki_X7 (by decide +kernel) ⟨by decide, by decide⟩ rfl hl.1 rfl (Nat.le_of_ble_eq_true rfl) dX5_rankByParts_78 ⟨by decide, by decide⟩) ?_
          intro r9 M9 H9 locs9 hp hX1 hI9
          exact hk9 r9 M9 H9 locs9 hp hX1 hI9
        · refine pm_nrm2 (pm_callF (x := yX1_fits) (As := [.int v1]) (rest := []) 1 E hI (k_X8_fits ⟨t_v2.1, h9⟩ (hw.2.2.2.2 h9)) ⟨t_v2.1, h9⟩ (by decide) rfl E.2.2.2.2.2.1.2.2.2.1.2.2.2.2 kc_X8_fits kl_X5_37 km_X8_fits kf_X8 ki_X8 (by decide +kernel) ⟨by decide, by decide⟩ rfl hl.1 rfl (Nat.le_of_ble_eq_true rfl) dX5_rankByParts_78 ⟨by decide, by decide⟩) ?_
          intro r9 M9 H9 locs9 hp hX1 hI9
          exact hk9 r9 M9 H9 locs9 hp hX1 hI9
    · replace hw := hw.2 h_1
      refine lv_iload_n hx hb dX5_rankByParts_21 rfl (lv_at hl 1 rfl) ?_
      refine lv_iload hx hb dX5_rankByParts_22 (lv_at hl 6 rfl) ?_
      refine lv_ishr hx hb dX5_rankByParts_24 ?_
      refine lv_iconst (v := (1 : Int32)) hx hb dX5_rankByParts_25 (by decide) ?_
      refine lv_iand hx hb dX5_rankByParts_26 ?_
      refine lv_if_eq (tgt := 62) hx hb dX5_rankByParts_27 (by decide) (fun h_6 => ?_) (fun h_6 => ?_)
      · replace hw := hw.1 h_6
        exact c_X5_rankByParts_62 E hret ih hX hI t_v0 t_v2 (lv_sub hl [0, 1, 2, 3, 4, 5, 6] rfl) hw
      · replace hw := hw.2 h_6
        refine lv_aload_n hx hb dX5_rankByParts_30 rfl (lv_at hl 0 rfl) ?_
        refine lv_iload_n hx hb dX5_rankByParts_31 rfl (lv_at hl 1 rfl) ?_
        refine lv_iconst (v := (1 : Int32)) hx hb dX5_rankByParts_32 (by decide) ?_
        refine lv_iload hx hb dX5_rankByParts_33 (lv_at hl 6 rfl) ?_
        refine lv_ishl hx hb dX5_rankByParts_35 ?_
        refine lv_iconst (v := (-1 : Int32)) hx hb dX5_rankByParts_36 (by decide) ?_
        refine lv_ixor hx hb dX5_rankByParts_37 ?_
        refine lv_iand hx hb dX5_rankByParts_38 ?_
        refine pm_callV (As := [.int (v1 &&& (((1 : Int32) <<< (v6 &&& 31)) ^^^ (-1 : Int32)))]) (rest := []) 1 E hI (k_X5_rankOf t_v0 hw) t_v0 (by decide) rfl kc_X5_rankOf kl_X5_25 km_X5_rankOf ks_X5_rankOf ki_X5 (by decide +kernel) ⟨by decide, by decide⟩ rfl hl.1 rfl (by first | exact Nat.le_of_ble_eq_true rfl | (simp only [List.map, pm_rf_cat]; exact Nat.le_of_ble_eq_true rfl)) dX5_rankByParts_39 ⟨by decide, by decide⟩ (fun r9 M9 H locs hp hX1 hI => ?_)
        clear hw
        obtain ⟨r_7, rfl, rfl, hw⟩ := hp
        refine pm_nrm (cells' := 0) (slots' := 0) (g2 := F0 m 42 ls [.int r_7]) rfl rfl rfl ?_
        refine lv_istore (lv' := [(7, .int r_7), (0, .ref (H0.size + v0)), (1, .int v1), (2, .ref (H0.size + v2)), (3, .int v3), (4, .int v4), (5, .int v5), (6, .int v6)]) hx hb dX5_rankByParts_42 hl (by decide) rfl (fun ls hl_8 => ?_)
        refine lv_iload hx hb dX5_rankByParts_44 (lv_at hl_8 5 rfl) ?_
        refine lv_iload hx hb dX5_rankByParts_46 (lv_at hl_8 0 rfl) ?_
        refine pm_callS (As := [.int v4, .int r_7]) (rest := []) 2 E hI (k_J9_max_7cf53 hw) kc_J9_max_7cf53 kl_X5_28 kt_J9_max_7cf53 ki_J9 (by decide +kernel) ⟨by decide, by decide⟩ rfl hl_8.1 rfl (by first | exact Nat.le_of_ble_eq_true rfl | (simp only [List.map, pm_rf_cat]; exact Nat.le_of_ble_eq_true rfl)) dX5_rankByParts_48 ⟨by decide, by decide⟩ (fun r9 M9 H locs hp hX1 hI => ?_)
        clear hw
        obtain ⟨r_9, rfl, rfl, hw⟩ := hp
        refine pm_nrm (cells' := 0) (slots' := 0) (g2 := F0 m 51 ls [.int r_9]) rfl rfl rfl ?_
        refine lv_istore (lv' := [(4, .int r_9), (7, .int r_7), (0, .ref (H0.size + v0)), (1, .int v1), (2, .ref (H0.size + v2)), (3, .int v3), (5, .int v5), (6, .int v6)]) hx hb dX5_rankByParts_51 hl_8 (by decide) rfl (fun ls hl_10 => ?_)
        refine lv_iload hx hb dX5_rankByParts_53 (lv_at hl_10 6 rfl) ?_
        refine lv_iload hx hb dX5_rankByParts_55 (lv_at hl_10 1 rfl) ?_
        refine pm_callS (As := [.int v5, .int r_7]) (rest := []) 2 E hI (k_J9_min_7cf53 hw) kc_J9_min_7cf53 kl_X5_34 kt_J9_min_7cf53 ki_J9 (by decide +kernel) ⟨by decide, by decide⟩ rfl hl_10.1 rfl (by first | exact Nat.le_of_ble_eq_true rfl | (simp only [List.map, pm_rf_cat]; exact Nat.le_of_ble_eq_true rfl)) dX5_rankByParts_57 ⟨by decide, by decide⟩ (fun r9 M9 H locs hp hX1 hI => ?_)
        clear hw
        obtain ⟨r_11, rfl, rfl, hw⟩ := hp
        refine pm_nrm (cells' := 0) (slots' := 0) (g2 := F0 m 60 ls [.int r_11]) rfl rfl rfl ?_
        refine lv_istore (lv' := [(5, .int r_11), (4, .int r_9), (7, .int r_7), (0, .ref (H0.size + v0)), (1, .int v1), (2, .ref (H0.size + v2)), (3, .int v3), (6, .int v6)]) hx hb dX5_rankByParts_60 hl_10 (by decide) rfl (fun ls hl_12 => ?_)
        exact c_X5_rankByParts_62 E hret ih hX hI t_v0 t_v2 (lv_sub hl_12 [3, 4, 5, 6, 1, 0, 7] rfl) hw
set_option maxHeartbeats 4000000 in
set_option maxRecDepth 100000 in
theorem k_X5_rankByParts {l : Launch} {G : pm_G} {H0 : Heap} {th : Nat} {a1 : Int32} {a2 : Nat} {M : pm_M} {Post : Int32 → pm_M → Prop} (t_th : pm_is M th 4) (t_a2 : pm_isC M a2) (hw : w_X5_rankByParts th a1 a2 M Post) : pm_C l G H0 yX5_rankByParts cX5_rankByParts 8 (some .int) rm_X5_rankByParts [.ref (H0.size + th), .int a1, .ref (H0.size + a2)] M (pm_Pi Post) := by
  refine pm_start (by decide +kernel) (Nat.le_of_ble_eq_true rfl) ?_
  intro p e s m args below meth c H ls E hret hnm hI hl
  have hX : pm_X M M := pm_X.rf
  have hl : lv_has ls 8 [(0, .ref (H0.size + th)), (1, .int a1), (2, .ref (H0.size + a2))] := hl
  have hx := E.1
  have hb := E.2.1
  have hown := E.2.2.2.1
  have hts := E.2.2.2.2.1
  unfold w_X5_rankByParts at hw
  refine lv_iload_n hx hb dX5_rankByParts_0 rfl (lv_at hl 1 rfl) ?_
  refine pm_callS (As := [.int a1]) (rest := []) 1 E hI (k_J6_bitCount_0f7a4 hw) kc_J6_bitCount_0f7a4 kl_X5_19 kt_J6_bitCount_0f7a4 ki_J6 (by decide +kernel) ⟨by decide, by decide⟩ rfl hl.1 rfl (by first | exact Nat.le_of_ble_eq_true rfl | (simp only [List.map, pm_rf_cat]; exact Nat.le_of_ble_eq_true rfl)) dX5_rankByParts_1 ⟨by decide, by decide⟩ (fun r9 M9 H locs hp hX1 hI => ?_)
  clear hw
  obtain ⟨r_1, rfl, rfl, hw⟩ := hp
  refine pm_nrm (cells' := 0) (slots' := 0) (g2 := F0 m 4 ls [.int r_1]) rfl rfl rfl ?_
  refine lv_istore_n (lv' := [(3, .int r_1), (0, .ref (H0.size + th)), (1, .int a1), (2, .ref (H0.size + a2))]) hx hb dX5_rankByParts_4 rfl hl (by decide) rfl (fun ls hl_2 => ?_)
  refine lv_iconst (v := (0 : Int32)) hx hb dX5_rankByParts_5 (by decide) ?_
  refine lv_istore (lv' := [(4, .int (0 : Int32)), (3, .int r_1), (0, .ref (H0.size + th)), (1, .int a1), (2, .ref (H0.size + a2))]) hx hb dX5_rankByParts_6 hl_2 (by decide) rfl (fun ls hl_3 => ?_)
  refine lv_iload_n hx hb dX5_rankByParts_8 rfl (lv_at hl_3 1 rfl) ?_
  refine lv_istore (lv' := [(5, .int r_1), (4, .int (0 : Int32)), (3, .int r_1), (0, .ref (H0.size + th)), (1, .int a1), (2, .ref (H0.size + a2))]) hx hb dX5_rankByParts_9 hl_3 (by decide) rfl (fun ls hl_4 => ?_)
  refine lv_iconst (v := (0 : Int32)) hx hb dX5_rankByParts_11 (by decide) ?_
  refine lv_istore (lv' := [(6, .int (0 : Int32)), (5, .int r_1), (4, .int (0 : Int32)), (3, .int r_1), (0, .ref (H0.size + th)), (1, .int a1), (2, .ref (H0.size + a2))]) hx hb dX5_rankByParts_12 hl_4 (by decide) rfl (fun ls hl_5 => ?_)
  obtain ⟨n_6, hw⟩ := hw
  exact c_X5_rankByParts_14 E hret n_6 _ _ _ _ _ _ hX hI t_th t_a2 (lv_sub hl_5 [4, 5, 6, 3, 2, 1, 0] rfl) hw
set_option maxHeartbeats 4000000 in
set_option maxRecDepth 100000 in
theorem c_X5_fill_60 {p : Program} {l : Launch} {e : Env} {s : State} {m : MethodId} {args : Array Value} {below : List Frame} {meth : Method} {c : Code} {G : pm_G} {H0 : Heap} {M0 : pm_M} {Post : pm_M → Prop} {M : pm_M} (E : pm_E G p s m args meth c cX5_fill 4 RX5) (hret : meth.sig.returnType = none) {H : Heap} {locs : List Loc} {ls : Array Slot} (hX : pm_X M0 M) (hI : pm_I G H0 M H locs) (hl : lv_has ls 4 []) (hw : w_X5_fill_60 Post M) : W p l e rm_X5_fill s m args below meth c H locs 1 4096 (pm_Z G H0 M0 (pm_Pv Post) below args s rm_X5_fill.cells rm_X5_fill.slots) (F0 m 60 ls []) := by
  have hx := E.1
  have hb := E.2.1
  have hown := E.2.2.2.1
  have hts := E.2.2.2.2.1
  unfold w_X5_fill_60 at hw
  exact pm_vret E hret hI hX ⟨rfl, hw⟩ (by decide) (by decide) dX5_fill_60
set_option maxHeartbeats 4000000 in
set_option maxRecDepth 100000 in
theorem c_X5_fill_27 {p : Program} {l : Launch} {e : Env} {s : State} {m : MethodId} {args : Array Value} {below : List Frame} {meth : Method} {c : Code} {G : pm_G} {H0 : Heap} {M0 : pm_M} {Post : pm_M → Prop} {v0 : Nat} {v1 : Int32} {v2 : Nat} (E : pm_E G p s m args meth c cX5_fill 4 RX5) (hret : meth.sig.returnType = none) : ∀ (n : Nat) (v3 : Int32) (M : pm_M) (H : Heap) (locs : List Loc) (ls : Array Slot), pm_X M0 M → pm_I G H0 M H locs → (pm_is M v0 4) → (pm_isC M v2) → lv_has ls 4 [(0, .ref (H0.size + v0)), (1, .int v1), (2, .ref (H0.size + v2)), (3, .int v3)] → w_X5_fill_27 Post v0 v1 v2 n v3 M → W p l e rm_X5_fill s m args below meth c H locs 1 4096 (pm_Z G H0 M0 (pm_Pv Post) below args s rm_X5_fill.cells rm_X5_fill.slots) (F0 m 27 ls []) := by
  have hx := E.1
  have hb := E.2.1
  have hown := E.2.2.2.1
  have hts := E.2.2.2.2.1
  intro n
  induction n with
  | zero =>
    intro v3 M H locs ls hX hI t_v0 t_v2 hl hw
    unfold w_X5_fill_27 at hw
    exact hw.elim
  | succ n ih =>
    intro v3 M H locs ls hX hI t_v0 t_v2 hl hw
    unfold w_X5_fill_27 at hw
    refine lv_iload_n hx hb dX5_fill_27 rfl (lv_at hl 3 rfl) ?_
    refine lv_iload_n hx hb dX5_fill_28 rfl (lv_at hl 1 rfl) ?_
    refine lv_icmp_gt (tgt := 60) hx hb dX5_fill_29 (by decide) (fun h_1 => ?_) (fun h_1 => ?_)
    · replace hw := hw.1 h_1
      exact c_X5_fill_60 E hret hX hI (lv_sub hl [] rfl) hw
    · replace hw := hw.2 h_1
      refine lv_iload_n hx hb dX5_fill_32 rfl (lv_at hl 3 rfl) ?_
      refine lv_aload_n hx hb dX5_fill_33 rfl (lv_at hl 0 rfl) ?_
      obtain ⟨q_2, e_q_2, hw⟩ := hw
      refine gf_X5_9 E hI t_v0 dX5_fill_34 e_q_2 (fun t_q_2 => ?_)
      refine ps_alenB E hI t_q_2 dX5_fill_37 ?_
      refine lv_icmp_ge (tgt := 60) hx hb dX5_fill_38 (by decide) (fun h_3 => ?_) (fun h_3 => ?_)
      · replace hw := hw.1 h_3
        exact c_X5_fill_60 E hret hX hI (lv_sub hl [] rfl) hw
      · replace hw := hw.2 h_3
        refine lv_aload_n hx hb dX5_fill_41 rfl (lv_at hl 0 rfl) ?_
        refine gf_X5_9 E hI t_v0 dX5_fill_42 e_q_2 (fun _ => ?_)
        refine lv_iload_n hx hb dX5_fill_45 rfl (lv_at hl 3 rfl) ?_
        refine lv_aload_n hx hb dX5_fill_46 rfl (lv_at hl 0 rfl) ?_
        refine lv_iload_n hx hb dX5_fill_47 rfl (lv_at hl 3 rfl) ?_
        refine lv_aload_n hx hb dX5_fill_48 rfl (lv_at hl 2 rfl) ?_
        refine pm_callV (As := [.int v3, .ref (H0.size + v2)]) (rest := [.int v3, .ref (H0.size + q_2)]) 2 E hI (k_X5_rankByParts t_v0 t_v2 hw) t_v0 (by decide) rfl kc_X5_rankByParts kl_X5_15 km_X5_rankByParts ks_X5_rankByParts ki_X5 (by decide +kernel) ⟨by decide, by decide⟩ rfl hl.1 rfl (by first | exact Nat.le_of_ble_eq_true rfl | (simp only [List.map, pm_rf_cat]; exact Nat.le_of_ble_eq_true rfl)) dX5_fill_49 ⟨by decide, by decide⟩ (fun r9 M_4 H locs hp hX1 hI => ?_)
        clear hw
        obtain ⟨r_5, rfl, hw⟩ := hp
        replace t_v0 := t_v0.x hX1
        replace t_v2 := t_v2.x hX1
        replace t_q_2 := t_q_2.x hX1
        replace hX := hX.tr hX1
        refine pm_nrm (cells' := 1) (slots' := 4096) (g2 := F0 m 52 ls [.int r_5, .int v3, .ref (H0.size + q_2)]) rfl rfl rfl ?_
        refine lv_i2b hx hb dX5_fill_52 rfl ?_
        obtain ⟨h_6, hw⟩ := hw
        refine ps_bast E hI t_q_2 h_6 dX5_fill_53 (fun H locs M_7 e_M_7 hX1 hI => ?_)
        replace hw := hw M_7 e_M_7
        replace t_v0 := t_v0.x hX1
        replace t_v2 := t_v2.x hX1
        replace hX := hX.tr hX1
        obtain ⟨x_8, e_x_8⟩ : ∃ z : Int32, z = v3 + (1 : Int32) := ⟨_, rfl⟩
        refine lv_iinc (v := x_8) (lv' := [(3, .int x_8), (0, .ref (H0.size + v0)), (1, .int v1), (2, .ref (H0.size + v2))]) hx hb dX5_fill_54 hl (k := 3) rfl (by rw [e_x_8]; rfl) (by decide) rfl (fun ls hl_9 => ?_)
        replace hw := hw x_8 e_x_8
        refine lv_goto (tgt := 27) hx hb dX5_fill_57 (by decide) ?_
        exact ih _ _ _ _ _ hX hI t_v0 t_v2 (lv_sub hl_9 [1, 2, 3, 0] rfl) hw
set_option maxHeartbeats 4000000 in
set_option maxRecDepth 100000 in
theorem c_X5_fill_18 {p : Program} {l : Launch} {e : Env} {s : State} {m : MethodId} {args : Array Value} {below : List Frame} {meth : Method} {c : Code} {G : pm_G} {H0 : Heap} {M0 : pm_M} {Post : pm_M → Prop} {v0 : Nat} {v1 : Int32} {v2 : Nat} {M : pm_M} (E : pm_E G p s m args meth c cX5_fill 4 RX5) (hret : meth.sig.returnType = none) {H : Heap} {locs : List Loc} {ls : Array Slot} (hX : pm_X M0 M) (hI : pm_I G H0 M H locs) (t_v0 : pm_is M v0 4) (t_v2 : pm_isC M v2) (hl : lv_has ls 4 [(0, .ref (H0.size + v0)), (1, .int v1), (2, .ref (H0.size + v2))]) (hw : w_X5_fill_18 Post v0 v1 v2 M) : W p l e rm_X5_fill s m args below meth c H locs 1 4096 (pm_Z G H0 M0 (pm_Pv Post) below args s rm_X5_fill.cells rm_X5_fill.slots) (F0 m 18 ls []) := by
  have hx := E.1
  have hb := E.2.1
  have hown := E.2.2.2.1
  have hts := E.2.2.2.2.1
  unfold w_X5_fill_18 at hw
  refine lv_aload_n hx hb dX5_fill_18 rfl (lv_at hl 0 rfl) ?_
  obtain ⟨q_1, e_q_1, hw⟩ := hw
  refine gf_X5_9 E hI t_v0 dX5_fill_19 e_q_1 (fun t_q_1 => ?_)
  refine lv_iconst (v := (0 : Int32)) hx hb dX5_fill_22 (by decide) ?_
  refine lv_iconst (v := (0 : Int32)) hx hb dX5_fill_23 (by decide) ?_
  obtain ⟨h_2, hw⟩ := hw
  refine ps_bast E hI t_q_1 h_2 dX5_fill_24 (fun H locs M_3 e_M_3 hX1 hI => ?_)
  replace hw := hw M_3 e_M_3
  replace t_v0 := t_v0.x hX1
  replace t_v2 := t_v2.x hX1
  replace hX := hX.tr hX1
  refine lv_iconst (v := (1 : Int32)) hx hb dX5_fill_25 (by decide) ?_
  refine lv_istore_n (lv' := [(3, .int (1 : Int32)), (0, .ref (H0.size + v0)), (1, .int v1), (2, .ref (H0.size + v2))]) hx hb dX5_fill_26 rfl hl (by decide) rfl (fun ls hl_4 => ?_)
  obtain ⟨n_5, hw⟩ := hw
  exact c_X5_fill_27 E hret n_5 _ _ _ _ _ hX hI t_v0 t_v2 (lv_sub hl_4 [1, 2, 3, 0] rfl) hw
set_option maxHeartbeats 4000000 in
set_option maxRecDepth 100000 in
theorem k_X5_fill {l : Launch} {G : pm_G} {H0 : Heap} {th : Nat} {a1 : Int32} {a2 : Nat} {M : pm_M} {Post : pm_M → Prop} (t_th : pm_is M th 4) (t_a2 : pm_isC M a2) (hw : w_X5_fill th a1 a2 M Post) : pm_C l G H0 yX5_fill cX5_fill 4 none rm_X5_fill [.ref (H0.size + th), .int a1, .ref (H0.size + a2)] M (pm_Pv Post) := by
  refine pm_start (by decide +kernel) (Nat.le_of_ble_eq_true rfl) ?_
  intro p e s m args below meth c H ls E hret hnm hI hl
  have hX : pm_X M M := pm_X.rf
  have hl : lv_has ls 4 [(0, .ref (H0.size + th)), (1, .int a1), (2, .ref (H0.size + a2))] := hl
  have hx := E.1
  have hb := E.2.1
  have hown := E.2.2.2.1
  have hts := E.2.2.2.2.1
  unfold w_X5_fill at hw
  refine lv_iload_n hx hb dX5_fill_0 rfl (lv_at hl 1 rfl) ?_
  refine lv_aload_n hx hb dX5_fill_1 rfl (lv_at hl 0 rfl) ?_
  obtain ⟨q_1, e_q_1, hw⟩ := hw
  refine gf_X5_9 E hI t_th dX5_fill_2 e_q_1 (fun t_q_1 => ?_)
  refine ps_alenB E hI t_q_1 dX5_fill_5 ?_
  refine lv_icmp_lt (tgt := 18) hx hb dX5_fill_6 (by decide) (fun h_2 => ?_) (fun h_2 => ?_)
  · replace hw := hw.1 h_2
    refine W.widen (k := 1) (n := 4096) (by decide) (by decide) ?_
    exact c_X5_fill_18 E hret hX hI t_th t_a2 (lv_sub hl [0, 1, 2] rfl) hw
  · replace hw := hw.2 h_2
    refine lv_aload_n hx hb dX5_fill_9 rfl (lv_at hl 0 rfl) ?_
    refine lv_iload_n hx hb dX5_fill_10 rfl (lv_at hl 1 rfl) ?_
    refine lv_iconst (v := (1 : Int32)) hx hb dX5_fill_11 (by decide) ?_
    refine lv_iadd hx hb dX5_fill_12 ?_
    obtain ⟨h_5, hw⟩ := hw
    refine newB (N := (a1 + (1 : Int32)).toNatClampNeg) E hI h_5.1 rfl (Nat.le_trans h_5.2 (by decide)) (by decide) (pm_room h_5.2 (by decide)) dX5_fill_13 (fun H M_3 e_M_3 hX1 tn_4 hI => ?_)
    refine W.widen (k := 1) (n := 4096) (by decide) (pm_wide h_5.2 rfl) ?_
    replace hw := hw M_3 e_M_3
    replace t_th := t_th.x hX1
    replace t_a2 := t_a2.x hX1
    replace hX := hX.tr hX1
    refine pm_nrm (cells' := 1) (slots' := 4096) (g2 := F0 m 15 ls [.ref (H0.size + (mZ M)), .ref (H0.size + th)]) rfl rfl rfl ?_
    refine pf_X5_9 E hI t_th dX5_fill_15 tn_4 (fun H locs M_6 e_M_6 hX1 hI => ?_)
    replace hw := hw M_6 e_M_6
    replace t_th := t_th.x hX1
    replace t_a2 := t_a2.x hX1
    replace hX := hX.tr hX1
    exact c_X5_fill_18 E hret hX hI t_th t_a2 (lv_sub hl [0, 1, 2] rfl) hw
set_option maxHeartbeats 4000000 in
set_option maxRecDepth 100000 in
theorem c_X5_permits_17 {p : Program} {l : Launch} {e : Env} {s : State} {m : MethodId} {args : Array Value} {below : List Frame} {meth : Method} {c : Code} {G : pm_G} {H0 : Heap} {Post : Int32 → Prop} {s0 : Int32} {M : pm_M} (E : pm_E G p s m args meth c cX5_permits 2 RX5) (hret : meth.sig.returnType = (some .boolean)) {H : Heap} {locs : List Loc} {ls : Array Slot} (hI : pm_I G H0 M H locs) (hl : lv_has ls 2 []) (hw : w_X5_permits_17 Post s0 M) : W p l e rm_X5_permits s m args below meth c H locs 0 0 (pm_Z G H0 M (pm_Pi (fun r9 M9 => M = M9 ∧ Post r9)) below args s rm_X5_permits.cells rm_X5_permits.slots) (F0 m 17 ls [.int s0]) := by
  have hx := E.1
  have hb := E.2.1
  have hown := E.2.2.2.1
  have hts := E.2.2.2.2.1
  unfold w_X5_permits_17 at hw
  exact pm_zret E hret hI pm_X.rf (pm_nb hw.1) ⟨_, rfl, rfl, hw.2⟩ (by decide) (by decide) dX5_permits_17
set_option maxHeartbeats 4000000 in
set_option maxRecDepth 100000 in
theorem k_X5_permits {l : Launch} {G : pm_G} {H0 : Heap} {th : Nat} {a1 : Int32} {M : pm_M} {Post : Int32 → Prop} (t_th : pm_is M th 4) (hw : w_X5_permits th a1 M Post) : pm_C l G H0 yX5_permits cX5_permits 2 (some .boolean) rm_X5_permits [.ref (H0.size + th), .int a1] M (pm_Pi (fun r9 M9 => M = M9 ∧ Post r9)) := by
  refine pm_start (by decide +kernel) (Nat.le_of_ble_eq_true rfl) ?_
  intro p e s m args below meth c H ls E hret hnm hI hl
  have hl : lv_has ls 2 [(0, .ref (H0.size + th)), (1, .int a1)] := hl
  have hx := E.1
  have hb := E.2.1
  have hown := E.2.2.2.1
  have hts := E.2.2.2.2.1
  unfold w_X5_permits at hw
  refine lv_aload_n hx hb dX5_permits_0 rfl (lv_at hl 0 rfl) ?_
  refine lv_iload_n hx hb dX5_permits_1 rfl (lv_at hl 1 rfl) ?_
  refine pm_callV (As := [.int a1]) (rest := []) 1 E hI (k_X5_rankOf t_th hw) t_th (by decide) rfl kc_X5_rankOf kl_X5_25 km_X5_rankOf ks_X5_rankOf ki_X5 (by decide +kernel) ⟨by decide, by decide⟩ rfl hl.1 rfl (by first | exact Nat.le_of_ble_eq_true rfl | (simp only [List.map, pm_rf_cat]; exact Nat.le_of_ble_eq_true rfl)) dX5_permits_2 ⟨by decide, by decide⟩ (fun r9 M9 H locs hp hX1 hI => ?_)
  clear hw
  obtain ⟨r_1, rfl, rfl, hw⟩ := hp
  refine pm_nrm (cells' := 0) (slots' := 0) (g2 := F0 m 5 ls [.int r_1]) rfl rfl rfl ?_
  refine lv_iload_n hx hb dX5_permits_5 rfl (lv_at hl 1 rfl) ?_
  refine pm_callS (As := [.int a1]) (rest := [.int r_1]) 1 E hI (k_J6_bitCount_0f7a4 hw) kc_J6_bitCount_0f7a4 kl_X5_19 kt_J6_bitCount_0f7a4 ki_J6 (by decide +kernel) ⟨by decide, by decide⟩ rfl hl.1 rfl (by first | exact Nat.le_of_ble_eq_true rfl | (simp only [List.map, pm_rf_cat]; exact Nat.le_of_ble_eq_true rfl)) dX5_permits_6 ⟨by decide, by decide⟩ (fun r9 M9 H locs hp hX1 hI => ?_)
  clear hw
  obtain ⟨r_2, rfl, rfl, hw⟩ := hp
  refine pm_nrm (cells' := 0) (slots' := 0) (g2 := F0 m 9 ls [.int r_2, .int r_1]) rfl rfl rfl ?_
  refine lv_icmp_ne (tgt := 16) hx hb dX5_permits_9 (by decide) (fun h_3 => ?_) (fun h_3 => ?_)
  · replace hw := hw.1 h_3
    refine lv_iconst (v := (0 : Int32)) hx hb dX5_permits_16 (by decide) ?_
    exact c_X5_permits_17 E hret hI (lv_sub hl [] rfl) hw
  · replace hw := hw.2 h_3
    refine lv_iconst (v := (1 : Int32)) hx hb dX5_permits_12 (by decide) ?_
    refine lv_goto (tgt := 17) hx hb dX5_permits_13 (by decide) ?_
    exact c_X5_permits_17 E hret hI (lv_sub hl [] rfl) hw
set_option maxHeartbeats 4000000 in
set_option maxRecDepth 100000 in
theorem c_X5_permitsEachAlone_2 {p : Program} {l : Launch} {e : Env} {s : State} {m : MethodId} {args : Array Value} {below : List Frame} {meth : Method} {c : Code} {G : pm_G} {H0 : Heap} {Post : Int32 → Prop} {v0 : Nat} {v1 : Int32} {M : pm_M} (E : pm_E G p s m args meth c cX5_permitsEachAlone 3 RX5) (hret : meth.sig.returnType = (some .boolean)) : ∀ (n : Nat) (v2 : Int32) (H : Heap) (locs : List Loc) (ls : Array Slot), pm_I G H0 M H locs → (pm_is M v0 4) → lv_has ls 3 [(0, .ref (H0.size + v0)), (1, .int v1), (2, .int v2)] → w_X5_permitsEachAlone_2 Post v0 v1 M n v2 → W p l e rm_X5_permitsEachAlone s m args below meth c H locs 0 0 (pm_Z G H0 M (pm_Pi (fun r9 M9 => M = M9 ∧ Post r9)) below args s rm_X5_permitsEachAlone.cells rm_X5_permitsEachAlone.slots) (F0 m 2 ls []) := by
  have hx := E.1
  have hb := E.2.1
  have hown := E.2.2.2.1
  have hts := E.2.2.2.2.1
  intro n
  induction n with
  | zero =>
    intro v2 H locs ls hI t_v0 hl hw
    unfold w_X5_permitsEachAlone_2 at hw
    exact hw.elim
  | succ n ih =>
    intro v2 H locs ls hI t_v0 hl hw
    unfold w_X5_permitsEachAlone_2 at hw
    refine lv_iload_n hx hb dX5_permitsEachAlone_2 rfl (lv_at hl 2 rfl) ?_
    refine lv_iload_n hx hb dX5_permitsEachAlone_3 rfl (lv_at hl 1 rfl) ?_
    refine lv_icmp_ge (tgt := 25) hx hb dX5_permitsEachAlone_4 (by decide) (fun h_1 => ?_) (fun h_1 => ?_)
    · replace hw := hw.1 h_1
      refine lv_iconst (v := (1 : Int32)) hx hb dX5_permitsEachAlone_25 (by decide) ?_
      exact pm_zret E hret hI pm_X.rf rfl ⟨_, rfl, rfl, hw⟩ (by decide) (by decide) dX5_permitsEachAlone_26
    · replace hw := hw.2 h_1
      refine lv_aload_n hx hb dX5_permitsEachAlone_7 rfl (lv_at hl 0 rfl) ?_
      refine lv_iconst (v := (1 : Int32)) hx hb dX5_permitsEachAlone_8 (by decide) ?_
      refine lv_iload_n hx hb dX5_permitsEachAlone_9 rfl (lv_at hl 2 rfl) ?_
      refine lv_ishl hx hb dX5_permitsEachAlone_10 ?_
      refine pm_callV (As := [.int ((1 : Int32) <<< (v2 &&& 31))]) (rest := []) 1 E hI (k_X5_permits t_v0 hw) t_v0 (by decide) rfl kc_X5_permits kl_X5_43 km_X5_permits ks_X5_permits ki_X5 (by decide +kernel) ⟨by decide, by decide⟩ rfl hl.1 rfl (by first | exact Nat.le_of_ble_eq_true rfl | (simp only [List.map, pm_rf_cat]; exact Nat.le_of_ble_eq_true rfl)) dX5_permitsEachAlone_11 ⟨by decide, by decide⟩ (fun r9 M9 H locs hp hX1 hI => ?_)
      clear hw
      obtain ⟨r_2, rfl, rfl, hw⟩ := hp
      refine pm_nrm (cells' := 0) (slots' := 0) (g2 := F0 m 14 ls [.int r_2]) rfl rfl rfl ?_
      refine lv_if_ne (tgt := 19) hx hb dX5_permitsEachAlone_14 (by decide) (fun h_3 => ?_) (fun h_3 => ?_)
      · replace hw := hw.1 h_3
        obtain ⟨x_4, e_x_4⟩ : ∃ z : Int32, z = v2 + (1 : Int32) := ⟨_, rfl⟩
        refine lv_iinc (v := x_4) (lv' := [(2, .int x_4), (0, .ref (H0.size + v0)), (1, .int v1)]) hx hb dX5_permitsEachAlone_19 hl (k := 2) rfl (by rw [e_x_4]; rfl) (by decide) rfl (fun ls hl_5 => ?_)
        replace hw := hw x_4 e_x_4
        refine lv_goto (tgt := 2) hx hb dX5_permitsEachAlone_22 (by decide) ?_
        exact ih _ _ _ _ hI t_v0 (lv_sub hl_5 [1, 2, 0] rfl) hw
      · replace hw := hw.2 h_3
        refine lv_iconst (v := (0 : Int32)) hx hb dX5_permitsEachAlone_17 (by decide) ?_
        exact pm_zret E hret hI pm_X.rf rfl ⟨_, rfl, rfl, hw⟩ (by decide) (by decide) dX5_permitsEachAlone_18
set_option maxHeartbeats 4000000 in
set_option maxRecDepth 100000 in
theorem k_X5_permitsEachAlone {l : Launch} {G : pm_G} {H0 : Heap} {th : Nat} {a1 : Int32} {M : pm_M} {Post : Int32 → Prop} (t_th : pm_is M th 4) (hw : w_X5_permitsEachAlone th a1 M Post) : pm_C l G H0 yX5_permitsEachAlone cX5_permitsEachAlone 3 (some .boolean) rm_X5_permitsEachAlone [.ref (H0.size + th), .int a1] M (pm_Pi (fun r9 M9 => M = M9 ∧ Post r9)) := by
  refine pm_start (by decide +kernel) (Nat.le_of_ble_eq_true rfl) ?_
  intro p e s m args below meth c H ls E hret hnm hI hl
  have hl : lv_has ls 3 [(0, .ref (H0.size + th)), (1, .int a1)] := hl
  have hx := E.1
  have hb := E.2.1
  have hown := E.2.2.2.1
  have hts := E.2.2.2.2.1
  unfold w_X5_permitsEachAlone at hw
  refine lv_iconst (v := (0 : Int32)) hx hb dX5_permitsEachAlone_0 (by decide) ?_
  refine lv_istore_n (lv' := [(2, .int (0 : Int32)), (0, .ref (H0.size + th)), (1, .int a1)]) hx hb dX5_permitsEachAlone_1 rfl hl (by decide) rfl (fun ls hl_1 => ?_)
  obtain ⟨n_2, hw⟩ := hw
  exact c_X5_permitsEachAlone_2 E hret n_2 _ _ _ _ hI t_th (lv_sub hl_1 [1, 2, 0] rfl) hw
set_option maxHeartbeats 4000000 in
set_option maxRecDepth 100000 in
theorem c_X5_allowedSets_20 {p : Program} {l : Launch} {e : Env} {s : State} {m : MethodId} {args : Array Value} {below : List Frame} {meth : Method} {c : Code} {G : pm_G} {H0 : Heap} {Post : Int32 → Prop} {v0 : Nat} {v1 : Int32} {v2 : Int32} {v3 : Int32} {M : pm_M} {k_4 : Int32 → Int32 → Prop} (E : pm_E G p s m args meth c cX5_allowedSets 4 RX5) (hret : meth.sig.returnType = (some .int)) (hk_4 : ∀ (v2 : Int32) (v3 : Int32) (H : Heap) (locs : List Loc) (ls : Array Slot), pm_I G H0 M H locs → (pm_is M v0 4) → lv_has ls 4 [(0, .ref (H0.size + v0)), (1, .int v1), (2, .int v2), (3, .int v3)] → k_4 v2 v3 → W p l e rm_X5_allowedSets s m args below meth c H locs 0 0 (pm_Z G H0 M (pm_Pi (fun r9 M9 => M = M9 ∧ Post r9)) below args s rm_X5_allowedSets.cells rm_X5_allowedSets.slots) (F0 m 4 ls [])) {H : Heap} {locs : List Loc} {ls : Array Slot} (hI : pm_I G H0 M H locs) (t_v0 : pm_is M v0 4) (hl : lv_has ls 4 [(0, .ref (H0.size + v0)), (1, .int v1), (2, .int v2), (3, .int v3)]) (hw : w_X5_allowedSets_20 Post k_4 v0 v1 v2 v3 M) : W p l e rm_X5_allowedSets s m args below meth c H locs 0 0 (pm_Z G H0 M (pm_Pi (fun r9 M9 => M = M9 ∧ Post r9)) below args s rm_X5_allowedSets.cells rm_X5_allowedSets.slots) (F0 m 20 ls []) := by
  have hx := E.1
  have hb := E.2.1
  have hown := E.2.2.2.1
  have hts := E.2.2.2.2.1
  unfold w_X5_allowedSets_20 at hw
  obtain ⟨x_1, e_x_1⟩ : ∃ z : Int32, z = v3 + (1 : Int32) := ⟨_, rfl⟩
  refine lv_iinc (v := x_1) (lv' := [(3, .int x_1), (0, .ref (H0.size + v0)), (1, .int v1), (2, .int v2)]) hx hb dX5_allowedSets_20 hl (k := 3) rfl (by rw [e_x_1]; rfl) (by decide) rfl (fun ls hl_2 => ?_)
  replace hw := hw x_1 e_x_1
  refine lv_goto (tgt := 4) hx hb dX5_allowedSets_23 (by decide) ?_
  exact hk_4 _ _ _ _ _ hI t_v0 (lv_sub hl_2 [1, 2, 3, 0] rfl) hw
set_option maxHeartbeats 4000000 in
set_option maxRecDepth 100000 in
theorem c_X5_allowedSets_4 {p : Program} {l : Launch} {e : Env} {s : State} {m : MethodId} {args : Array Value} {below : List Frame} {meth : Method} {c : Code} {G : pm_G} {H0 : Heap} {Post : Int32 → Prop} {v0 : Nat} {v1 : Int32} {M : pm_M} (E : pm_E G p s m args meth c cX5_allowedSets 4 RX5) (hret : meth.sig.returnType = (some .int)) : ∀ (n : Nat) (v2 : Int32) (v3 : Int32) (H : Heap) (locs : List Loc) (ls : Array Slot), pm_I G H0 M H locs → (pm_is M v0 4) → lv_has ls 4 [(0, .ref (H0.size + v0)), (1, .int v1), (2, .int v2), (3, .int v3)] → w_X5_allowedSets_4 Post v0 v1 M n v2 v3 → W p l e rm_X5_allowedSets s m args below meth c H locs 0 0 (pm_Z G H0 M (pm_Pi (fun r9 M9 => M = M9 ∧ Post r9)) below args s rm_X5_allowedSets.cells rm_X5_allowedSets.slots) (F0 m 4 ls []) := by
  have hx := E.1
  have hb := E.2.1
  have hown := E.2.2.2.1
  have hts := E.2.2.2.2.1
  intro n
  induction n with
  | zero =>
    intro v2 v3 H locs ls hI t_v0 hl hw
    unfold w_X5_allowedSets_4 at hw
    exact hw.elim
  | succ n ih =>
    intro v2 v3 H locs ls hI t_v0 hl hw
    unfold w_X5_allowedSets_4 at hw
    refine lv_iload_n hx hb dX5_allowedSets_4 rfl (lv_at hl 3 rfl) ?_
    refine lv_iload_n hx hb dX5_allowedSets_5 rfl (lv_at hl 1 rfl) ?_
    refine lv_icmp_gt (tgt := 26) hx hb dX5_allowedSets_6 (by decide) (fun h_1 => ?_) (fun h_1 => ?_)
    · replace hw := hw.1 h_1
      refine lv_iload_n hx hb dX5_allowedSets_26 rfl (lv_at hl 2 rfl) ?_
      exact pm_iret E hret hI pm_X.rf ⟨_, rfl, rfl, hw⟩ (by decide) (by decide) dX5_allowedSets_27
    · replace hw := hw.2 h_1
      refine lv_aload_n hx hb dX5_allowedSets_9 rfl (lv_at hl 0 rfl) ?_
      refine lv_iload_n hx hb dX5_allowedSets_10 rfl (lv_at hl 3 rfl) ?_
      refine pm_callV (As := [.int v3]) (rest := []) 1 E hI (k_X5_permits t_v0 hw) t_v0 (by decide) rfl kc_X5_permits kl_X5_43 km_X5_permits ks_X5_permits ki_X5 (by decide +kernel) ⟨by decide, by decide⟩ rfl hl.1 rfl (by first | exact Nat.le_of_ble_eq_true rfl | (simp only [List.map, pm_rf_cat]; exact Nat.le_of_ble_eq_true rfl)) dX5_allowedSets_11 ⟨by decide, by decide⟩ (fun r9 M9 H locs hp hX1 hI => ?_)
      clear hw
      obtain ⟨r_2, rfl, rfl, hw⟩ := hp
      refine pm_nrm (cells' := 0) (slots' := 0) (g2 := F0 m 14 ls [.int r_2]) rfl rfl rfl ?_
      refine lv_if_eq (tgt := 20) hx hb dX5_allowedSets_14 (by decide) (fun h_3 => ?_) (fun h_3 => ?_)
      · replace hw := hw.1 h_3
        exact c_X5_allowedSets_20 E hret ih hI t_v0 (lv_sub hl [0, 1, 2, 3] rfl) hw
      · replace hw := hw.2 h_3
        obtain ⟨x_4, e_x_4⟩ : ∃ z : Int32, z = v2 + (1 : Int32) := ⟨_, rfl⟩
        refine lv_iinc (v := x_4) (lv' := [(2, .int x_4), (0, .ref (H0.size + v0)), (1, .int v1), (3, .int v3)]) hx hb dX5_allowedSets_17 hl (k := 2) rfl (by rw [e_x_4]; rfl) (by decide) rfl (fun ls hl_5 => ?_)
        replace hw := hw x_4 e_x_4
        exact c_X5_allowedSets_20 E hret ih hI t_v0 (lv_sub hl_5 [1, 2, 0, 3] rfl) hw
set_option maxHeartbeats 4000000 in
set_option maxRecDepth 100000 in
theorem k_X5_allowedSets {l : Launch} {G : pm_G} {H0 : Heap} {th : Nat} {a1 : Int32} {M : pm_M} {Post : Int32 → Prop} (t_th : pm_is M th 4) (hw : w_X5_allowedSets th a1 M Post) : pm_C l G H0 yX5_allowedSets cX5_allowedSets 4 (some .int) rm_X5_allowedSets [.ref (H0.size + th), .int a1] M (pm_Pi (fun r9 M9 => M = M9 ∧ Post r9)) := by
  refine pm_start (by decide +kernel) (Nat.le_of_ble_eq_true rfl) ?_
  intro p e s m args below meth c H ls E hret hnm hI hl
  have hl : lv_has ls 4 [(0, .ref (H0.size + th)), (1, .int a1)] := hl
  have hx := E.1
  have hb := E.2.1
  have hown := E.2.2.2.1
  have hts := E.2.2.2.2.1
  unfold w_X5_allowedSets at hw
  refine lv_iconst (v := (0 : Int32)) hx hb dX5_allowedSets_0 (by decide) ?_
  refine lv_istore_n (lv' := [(2, .int (0 : Int32)), (0, .ref (H0.size + th)), (1, .int a1)]) hx hb dX5_allowedSets_1 rfl hl (by decide) rfl (fun ls hl_1 => ?_)
  refine lv_iconst (v := (0 : Int32)) hx hb dX5_allowedSets_2 (by decide) ?_
  refine lv_istore_n (lv' := [(3, .int (0 : Int32)), (2, .int (0 : Int32)), (0, .ref (H0.size + th)), (1, .int a1)]) hx hb dX5_allowedSets_3 rfl hl_1 (by decide) rfl (fun ls hl_2 => ?_)
  obtain ⟨n_3, hw⟩ := hw
  exact c_X5_allowedSets_4 E hret n_3 _ _ _ _ _ hI t_th (lv_sub hl_2 [2, 3, 1, 0] rfl) hw
set_option maxHeartbeats 4000000 in
set_option maxRecDepth 100000 in
theorem k_X6_init {l : Launch} {G : pm_G} {H0 : Heap} {th : Nat} {M : pm_M} {Post : pm_M → Prop} (t_th : pm_is M th 5) (hw : w_X6_init th M Post) : pm_C l G H0 yX6_init cX6_init 1 none rm_X6_init [.ref (H0.size + th)] M (pm_Pv Post) := by
  refine pm_start (by decide +kernel) (Nat.le_of_ble_eq_true rfl) ?_
  intro p e s m args below meth c H ls E hret hnm hI hl
  have hX : pm_X M M := pm_X.rf
  have hl : lv_has ls 1 [(0, .ref (H0.size + th))] := hl
  have hx := E.1
  have hb := E.2.1
  have hown := E.2.2.2.1
  have hts := E.2.2.2.2.1
  unfold w_X6_init at hw
  refine lv_aload_n hx hb dX6_init_0 rfl (lv_at hl 0 rfl) ?_
  refine pm_objInit E hl.1 kl_X6_3 ko_init ko_code dX6_init_1 (by decide) (Nat.le_of_ble_eq_true rfl) ?_
  refine lv_aload_n hx hb dX6_init_4 rfl (lv_at hl 0 rfl) ?_
  refine lv_sipush (v := (200 : Int32)) hx hb dX6_init_5 (by decide) ?_
  refine newJ (N := 200) E hI (by decide) (by decide) (by decide) (by decide) (by decide) dX6_init_8 (fun H M_1 e_M_1 hX1 tn_2 hI => ?_)
  replace hw := hw M_1 e_M_1
  replace t_th := t_th.x hX1
  replace hX := hX.tr hX1
  refine pm_nrm (cells' := 1) (slots' := 200) (g2 := F0 m 10 ls [.ref (H0.size + (mZ M)), .ref (H0.size + th)]) rfl rfl rfl ?_
  refine pf_X6_9 E hI t_th dX6_init_10 hnm tn_2 (fun H locs M_3 e_M_3 hX1 hI => ?_)
  replace hw := hw M_3 e_M_3
  replace t_th := t_th.x hX1
  replace hX := hX.tr hX1
  refine lv_aload_n hx hb dX6_init_13 rfl (lv_at hl 0 rfl) ?_
  refine lv_iconst (v := (-1 : Int32)) hx hb dX6_init_14 (by decide) ?_
  refine pf_X6_15 E hI t_th dX6_init_15 (fun H locs M_4 e_M_4 hX1 hI => ?_)
  replace hw := hw M_4 e_M_4
  replace t_th := t_th.x hX1
  replace hX := hX.tr hX1
  exact pm_vret E hret hI hX ⟨rfl, hw⟩ (by decide) (by decide) dX6_init_18
set_option maxHeartbeats 4000000 in
set_option maxRecDepth 100000 in
theorem c_X6_hasRow_13 {p : Program} {l : Launch} {e : Env} {s : State} {m : MethodId} {args : Array Value} {below : List Frame} {meth : Method} {c : Code} {G : pm_G} {H0 : Heap} {Post : Int32 → Prop} {s0 : Int32} {M : pm_M} (E : pm_E G p s m args meth c cX6_hasRow 1 RX6) (hret : meth.sig.returnType = (some .boolean)) {H : Heap} {locs : List Loc} {ls : Array Slot} (hI : pm_I G H0 M H locs) (hl : lv_has ls 1 []) (hw : w_X6_hasRow_13 Post s0 M) : W p l e rm_X6_hasRow s m args below meth c H locs 0 0 (pm_Z G H0 M (pm_Pi (fun r9 M9 => M = M9 ∧ Post r9)) below args s rm_X6_hasRow.cells rm_X6_hasRow.slots) (F0 m 13 ls [.int s0]) := by
  have hx := E.1
  have hb := E.2.1
  have hown := E.2.2.2.1
  have hts := E.2.2.2.2.1
  unfold w_X6_hasRow_13 at hw
  exact pm_zret E hret hI pm_X.rf (pm_nb hw.1) ⟨_, rfl, rfl, hw.2⟩ (by decide) (by decide) dX6_hasRow_13
set_option maxHeartbeats 4000000 in
set_option maxRecDepth 100000 in
theorem k_X6_hasRow {l : Launch} {G : pm_G} {H0 : Heap} {th : Nat} {M : pm_M} {Post : Int32 → Prop} (t_th : pm_is M th 5) (hw : w_X6_hasRow th M Post) : pm_C l G H0 yX6_hasRow cX6_hasRow 1 (some .boolean) rm_X6_hasRow [.ref (H0.size + th)] M (pm_Pi (fun r9 M9 => M = M9 ∧ Post r9)) := by
  refine pm_start (by decide +kernel) (Nat.le_of_ble_eq_true rfl) ?_
  intro p e s m args below meth c H ls E hret hnm hI hl
  have hl : lv_has ls 1 [(0, .ref (H0.size + th))] := hl
  have hx := E.1
  have hb := E.2.1
  have hown := E.2.2.2.1
  have hts := E.2.2.2.2.1
  unfold w_X6_hasRow at hw
  refine lv_aload_n hx hb dX6_hasRow_0 rfl (lv_at hl 0 rfl) ?_
  refine gf_X6_15 E hI t_th dX6_hasRow_1 ?_
  refine lv_iconst (v := (-1 : Int32)) hx hb dX6_hasRow_4 (by decide) ?_
  refine lv_icmp_eq (tgt := 12) hx hb dX6_hasRow_5 (by decide) (fun h_1 => ?_) (fun h_1 => ?_)
  · replace hw := hw.1 h_1
    refine lv_iconst (v := (0 : Int32)) hx hb dX6_hasRow_12 (by decide) ?_
    exact c_X6_hasRow_13 E hret hI (lv_sub hl [] rfl) hw
  · replace hw := hw.2 h_1
    refine lv_iconst (v := (1 : Int32)) hx hb dX6_hasRow_8 (by decide) ?_
    refine lv_goto (tgt := 13) hx hb dX6_hasRow_9 (by decide) ?_
    exact c_X6_hasRow_13 E hret hI (lv_sub hl [] rfl) hw
set_option maxHeartbeats 4000000 in
set_option maxRecDepth 100000 in
theorem c_X6_lay_20 {p : Program} {l : Launch} {e : Env} {s : State} {m : MethodId} {args : Array Value} {below : List Frame} {meth : Method} {c : Code} {G : pm_G} {H0 : Heap} {M0 : pm_M} {Post : pm_M → Prop} {v0 : Nat} (E : pm_E G p s m args meth c cX6_lay 4 RX6) (hret : meth.sig.returnType = none) : ∀ (n : Nat) (v3 : Int32) (M : pm_M) (H : Heap) (locs : List Loc) (ls : Array Slot), pm_X M0 M → pm_I G H0 M H locs → (pm_is M v0 5) → lv_has ls 4 [(0, .ref (H0.size + v0)), (3, .int v3)] → w_X6_lay_20 Post v0 n v3 M → W p l e rm_X6_lay s m args below meth c H locs 0 0 (pm_Z G H0 M0 (pm_Pv Post) below args s rm_X6_lay.cells rm_X6_lay.slots) (F0 m 20 ls []) := by
  have hx := E.1
  have hb := E.2.1
  have hown := E.2.2.2.1
  have hts := E.2.2.2.2.1
  intro n
  induction n with
  | zero =>
    intro v3 M H locs ls hX hI t_v0 hl hw
    unfold w_X6_lay_20 at hw
    exact hw.elim
  | succ n ih =>
    intro v3 M H locs ls hX hI t_v0 hl hw
    unfold w_X6_lay_20 at hw
    refine lv_iload_n hx hb dX6_lay_20 rfl (lv_at hl 1 rfl) ?_
    refine lv_aload_n hx hb dX6_lay_21 rfl (lv_at hl 0 rfl) ?_
    refine gf_X6_25 E hI t_v0 dX6_lay_22 ?_
    refine lv_icmp_ge (tgt := 41) hx hb dX6_lay_25 (by decide) (fun h_1 => ?_) (fun h_1 => ?_)
    · replace hw := hw.1 h_1
      exact pm_vret E hret hI hX ⟨rfl, hw⟩ (by decide) (by decide) dX6_lay_41
    · replace hw := hw.2 h_1
      refine lv_aload_n hx hb dX6_lay_28 rfl (lv_at hl 0 rfl) ?_
      obtain ⟨q_2, e_q_2, hw⟩ := hw
      refine gf_X6_9 E hI t_v0 dX6_lay_29 e_q_2 (fun t_q_2 => ?_)
      refine lv_iload_n hx hb dX6_lay_32 rfl (lv_at hl 1 rfl) ?_
      refine lv_lconst (v := (0 : Int64)) hx hb dX6_lay_33 (by decide) ?_
      obtain ⟨h_3, hw⟩ := hw
      refine ps_last E hI t_q_2 h_3 dX6_lay_34 (fun H locs M_4 e_M_4 hX1 hI => ?_)
      replace hw := hw M_4 e_M_4
      replace t_v0 := t_v0.x hX1
      replace hX := hX.tr hX1
      obtain ⟨x_5, e_x_5⟩ : ∃ z : Int32, z = v3 + (1 : Int32) := ⟨_, rfl⟩
      refine lv_iinc (v := x_5) (lv' := [(3, .int x_5), (0, .ref (H0.size + v0))]) hx hb dX6_lay_35 hl (k := 1) rfl (by rw [e_x_5]; rfl) (by decide) rfl (fun ls hl_6 => ?_)
      replace hw := hw x_5 e_x_5
      refine lv_goto (tgt := 20) hx hb dX6_lay_38 (by decide) ?_
      exact ih _ _ _ _ _ hX hI t_v0 (lv_sub hl_6 [1, 0] rfl) hw
set_option maxHeartbeats 4000000 in
set_option maxRecDepth 100000 in
theorem k_X6_lay {l : Launch} {G : pm_G} {H0 : Heap} {th : Nat} {a1 : Int32} {a2 : Int32} {M : pm_M} {Post : pm_M → Prop} (t_th : pm_is M th 5) (hw : w_X6_lay th a1 a2 M Post) : pm_C l G H0 yX6_lay cX6_lay 4 none rm_X6_lay [.ref (H0.size + th), .int a1, .int a2] M (pm_Pv Post) := by
  refine pm_start (by decide +kernel) (Nat.le_of_ble_eq_true rfl) ?_
  intro p e s m args below meth c H ls E hret hnm hI hl
  have hX : pm_X M M := pm_X.rf
  have hl : lv_has ls 4 [(0, .ref (H0.size + th)), (1, .int a1), (2, .int a2)] := hl
  have hx := E.1
  have hb := E.2.1
  have hown := E.2.2.2.1
  have hts := E.2.2.2.2.1
  unfold w_X6_lay at hw
  refine lv_aload_n hx hb dX6_lay_0 rfl (lv_at hl 0 rfl) ?_
  refine lv_iload_n hx hb dX6_lay_1 rfl (lv_at hl 1 rfl) ?_
  refine pf_X6_15 E hI t_th dX6_lay_2 (fun H locs M_1 e_M_1 hX1 hI => ?_)
  replace hw := hw M_1 e_M_1
  replace t_th := t_th.x hX1
  replace hX := hX.tr hX1
  refine lv_aload_n hx hb dX6_lay_5 rfl (lv_at hl 0 rfl) ?_
  refine lv_iload_n hx hb dX6_lay_6 rfl (lv_at hl 2 rfl) ?_
  refine lv_aload_n hx hb dX6_lay_7 rfl (lv_at hl 0 rfl) ?_
  obtain ⟨q_2, e_q_2, hw⟩ := hw
  refine gf_X6_9 E hI t_th dX6_lay_8 e_q_2 (fun t_q_2 => ?_)
  refine ps_alenJ E hI t_q_2 dX6_lay_11 ?_
  refine pm_callS (As := [.int a2, .int (nI (mN M_1 q_2))]) (rest := [.ref (H0.size + th)]) 2 E hI (k_J9_min_7cf53 hw) kc_J9_min_7cf53 kl_X6_19 kt_J9_min_7cf53 ki_J9 (by decide +kernel) ⟨by decide, by decide⟩ rfl hl.1 rfl (by first | exact Nat.le_of_ble_eq_true rfl | (simp only [List.map, pm_rf_cat]; exact Nat.le_of_ble_eq_true rfl)) dX6_lay_12 ⟨by decide, by decide⟩ (fun r9 M9 H locs hp hX1 hI => ?_)
  clear hw
  obtain ⟨r_3, rfl, rfl, hw⟩ := hp
  refine pm_nrm (cells' := 0) (slots' := 0) (g2 := F0 m 15 ls [.int r_3, .ref (H0.size + th)]) rfl rfl rfl ?_
  refine pf_X6_25 E hI t_th dX6_lay_15 (fun H locs M_4 e_M_4 hX1 hI => ?_)
  replace hw := hw M_4 e_M_4
  replace t_th := t_th.x hX1
  replace hX := hX.tr hX1
  refine lv_iconst (v := (0 : Int32)) hx hb dX6_lay_18 (by decide) ?_
  refine lv_istore_n (lv' := [(3, .int (0 : Int32)), (0, .ref (H0.size + th)), (1, .int a1), (2, .int a2)]) hx hb dX6_lay_19 rfl hl (by decide) rfl (fun ls hl_5 => ?_)
  obtain ⟨n_6, hw⟩ := hw
  exact c_X6_lay_20 E hret n_6 _ _ _ _ _ hX hI t_th (lv_sub hl_5 [1, 0] rfl) hw
set_option maxHeartbeats 4000000 in
set_option maxRecDepth 100000 in
theorem k_X6_clear {l : Launch} {G : pm_G} {H0 : Heap} {th : Nat} {M : pm_M} {Post : pm_M → Prop} (t_th : pm_is M th 5) (hw : w_X6_clear th M Post) : pm_C l G H0 yX6_clear cX6_clear 1 none rm_X6_clear [.ref (H0.size + th)] M (pm_Pv Post) := by
  refine pm_start (by decide +kernel) (Nat.le_of_ble_eq_true rfl) ?_
  intro p e s m args below meth c H ls E hret hnm hI hl
  have hX : pm_X M M := pm_X.rf
  have hl : lv_has ls 1 [(0, .ref (H0.size + th))] := hl
  have hx := E.1
  have hb := E.2.1
  have hown := E.2.2.2.1
  have hts := E.2.2.2.2.1
  unfold w_X6_clear at hw
  refine lv_aload_n hx hb dX6_clear_0 rfl (lv_at hl 0 rfl) ?_
  refine lv_iconst (v := (-1 : Int32)) hx hb dX6_clear_1 (by decide) ?_
  refine pf_X6_15 E hI t_th dX6_clear_2 (fun H locs M_1 e_M_1 hX1 hI => ?_)
  replace hw := hw M_1 e_M_1
  replace t_th := t_th.x hX1
  replace hX := hX.tr hX1
  refine lv_aload_n hx hb dX6_clear_5 rfl (lv_at hl 0 rfl) ?_
  refine lv_iconst (v := (0 : Int32)) hx hb dX6_clear_6 (by decide) ?_
  refine pf_X6_25 E hI t_th dX6_clear_7 (fun H locs M_2 e_M_2 hX1 hI => ?_)
  replace hw := hw M_2 e_M_2
  replace t_th := t_th.x hX1
  replace hX := hX.tr hX1
  exact pm_vret E hret hI hX ⟨rfl, hw⟩ (by decide) (by decide) dX6_clear_10
set_option maxHeartbeats 4000000 in
set_option maxRecDepth 100000 in
theorem k_X6_cut {l : Launch} {G : pm_G} {H0 : Heap} {th : Nat} {a1 : Int64} {M : pm_M} {Post : Int64 → Prop} (t_th : pm_is M th 5) (hw : w_X6_cut th a1 M Post) : pm_C l G H0 yX6_cut cX6_cut 3 (some .long) rm_X6_cut [.ref (H0.size + th), .long a1] M (pm_Pl (fun r9 M9 => M = M9 ∧ Post r9)) := by
  refine pm_start (by decide +kernel) (Nat.le_of_ble_eq_true rfl) ?_
  intro p e s m args below meth c H ls E hret hnm hI hl
  have hl : lv_has ls 3 [(0, .ref (H0.size + th)), (1, .long a1)] := hl
  have hx := E.1
  have hb := E.2.1
  have hown := E.2.2.2.1
  have hts := E.2.2.2.2.1
  unfold w_X6_cut at hw
  refine lv_aload_n hx hb dX6_cut_0 rfl (lv_at hl 0 rfl) ?_
  refine gf_X6_15 E hI t_th dX6_cut_1 ?_
  refine pm_cases (x := (mI M th 1)) 0 3 (fun j hj h9 => ?_) (fun h9 => ?_)
  · match j, hj, h9 with
    | 0, hj, h9 =>
      refine lv_tableIn (tgt := 32) hx hb dX6_cut_4 (by rw [h9]; decide) (by rw [h9]; decide) (by rw [h9]; rfl) (by decide) ?_
      replace hw := hw.1 h9
      refine lv_lload_n hx hb dX6_cut_32 rfl (lv_at hl 1 rfl) ?_
      refine lv_l2i hx hb dX6_cut_33 rfl ?_
      refine lv_i2b hx hb dX6_cut_34 rfl ?_
      refine lv_i2l hx hb dX6_cut_35 rfl ?_
      exact pm_lret E hret hI pm_X.rf ⟨_, rfl, rfl, hw⟩ (by decide) (by decide) dX6_cut_36
    | 1, hj, h9 =>
      refine lv_tableIn (tgt := 37) hx hb dX6_cut_4 (by rw [h9]; decide) (by rw [h9]; decide) (by rw [h9]; rfl) (by decide) ?_
      replace hw := hw.2.1 h9
      refine lv_lload_n hx hb dX6_cut_37 rfl (lv_at hl 1 rfl) ?_
      refine lv_l2i hx hb dX6_cut_38 rfl ?_
      refine lv_i2s hx hb dX6_cut_39 rfl ?_
      refine lv_i2l hx hb dX6_cut_40 rfl ?_
      exact pm_lret E hret hI pm_X.rf ⟨_, rfl, rfl, hw⟩ (by decide) (by decide) dX6_cut_41
    | 2, hj, h9 =>
      refine lv_tableIn (tgt := 42) hx hb dX6_cut_4 (by rw [h9]; decide) (by rw [h9]; decide) (by rw [h9]; rfl) (by decide) ?_
      replace hw := hw.2.2.1 h9
      refine lv_lload_n hx hb dX6_cut_42 rfl (lv_at hl 1 rfl) ?_
      refine lv_l2i hx hb dX6_cut_43 rfl ?_
      refine lv_i2l hx hb dX6_cut_44 rfl ?_
      exact pm_lret E hret hI pm_X.rf ⟨_, rfl, rfl, hw⟩ (by decide) (by decide) dX6_cut_45
    | (j + 3), hj, h9 => exact absurd hj (by omega)
  · refine lv_tableOut (tgt := 46) hx hb dX6_cut_4 (pm_out h9) (by decide) ?_
    replace hw := hw.2.2.2 h9
    refine lv_lload_n hx hb dX6_cut_46 rfl (lv_at hl 1 rfl) ?_
    exact pm_lret E hret hI pm_X.rf ⟨_, rfl, rfl, hw⟩ (by decide) (by decide) dX6_cut_47
set_option maxHeartbeats 4000000 in
set_option maxRecDepth 100000 in
theorem c_X6_put_23 {p : Program} {l : Launch} {e : Env} {s : State} {m : MethodId} {args : Array Value} {below : List Frame} {meth : Method} {c : Code} {G : pm_G} {H0 : Heap} {M0 : pm_M} {Post : pm_M → Prop} {M : pm_M} (E : pm_E G p s m args meth c cX6_put 4 RX6) (hret : meth.sig.returnType = none) {H : Heap} {locs : List Loc} {ls : Array Slot} (hX : pm_X M0 M) (hI : pm_I G H0 M H locs) (hl : lv_has ls 4 []) (hw : w_X6_put_23 Post M) : W p l e rm_X6_put s m args below meth c H locs 0 0 (pm_Z G H0 M0 (pm_Pv Post) below args s rm_X6_put.cells rm_X6_put.slots) (F0 m 23 ls []) := by
  have hx := E.1
  have hb := E.2.1
  have hown := E.2.2.2.1
  have hts := E.2.2.2.2.1
  unfold w_X6_put_23 at hw
  exact pm_vret E hret hI hX ⟨rfl, hw⟩ (by decide) (by decide) dX6_put_23
set_option maxHeartbeats 4000000 in
set_option maxRecDepth 100000 in
theorem k_X6_put {l : Launch} {G : pm_G} {H0 : Heap} {th : Nat} {a1 : Int32} {a2 : Int64} {M : pm_M} {Post : pm_M → Prop} (t_th : pm_is M th 5) (hw : w_X6_put th a1 a2 M Post) : pm_C l G H0 yX6_put cX6_put 4 none rm_X6_put [.ref (H0.size + th), .int a1, .long a2] M (pm_Pv Post) := by
  refine pm_start (by decide +kernel) (Nat.le_of_ble_eq_true rfl) ?_
  intro p e s m args below meth c H ls E hret hnm hI hl
  have hX : pm_X M M := pm_X.rf
  have hl : lv_has ls 4 [(0, .ref (H0.size + th)), (1, .int a1), (2, .long a2)] := hl
  have hx := E.1
  have hb := E.2.1
  have hown := E.2.2.2.1
  have hts := E.2.2.2.2.1
  unfold w_X6_put at hw
  refine lv_iload_n hx hb dX6_put_0 rfl (lv_at hl 1 rfl) ?_
  refine lv_if_lt (tgt := 23) hx hb dX6_put_1 (by decide) (fun h_1 => ?_) (fun h_1 => ?_)
  · replace hw := hw.1 h_1
    exact c_X6_put_23 E hret hX hI (lv_sub hl [] rfl) hw
  · replace hw := hw.2 h_1
    refine lv_iload_n hx hb dX6_put_4 rfl (lv_at hl 1 rfl) ?_
    refine lv_aload_n hx hb dX6_put_5 rfl (lv_at hl 0 rfl) ?_
    refine gf_X6_25 E hI t_th dX6_put_6 ?_
    refine lv_icmp_ge (tgt := 23) hx hb dX6_put_9 (by decide) (fun h_2 => ?_) (fun h_2 => ?_)
    · replace hw := hw.1 h_2
      exact c_X6_put_23 E hret hX hI (lv_sub hl [] rfl) hw
    · replace hw := hw.2 h_2
      refine lv_aload_n hx hb dX6_put_12 rfl (lv_at hl 0 rfl) ?_
      obtain ⟨q_3, e_q_3, hw⟩ := hw
      refine gf_X6_9 E hI t_th dX6_put_13 e_q_3 (fun t_q_3 => ?_)
      refine lv_iload_n hx hb dX6_put_16 rfl (lv_at hl 1 rfl) ?_
      refine lv_aload_n hx hb dX6_put_17 rfl (lv_at hl 0 rfl) ?_
      refine lv_lload_n hx hb dX6_put_18 rfl (lv_at hl 2 rfl) ?_
      refine pm_callV (As := [.long a2]) (rest := [.int a1, .ref (H0.size + q_3)]) 1 E hI (k_X6_cut t_th hw) t_th (by decide) rfl kc_X6_cut kl_X6_28 km_X6_cut ks_X6_cut ki_X6 (by decide +kernel) ⟨by decide, by decide⟩ rfl hl.1 rfl (by first | exact Nat.le_of_ble_eq_true rfl | (simp only [List.map, pm_rf_cat]; exact Nat.le_of_ble_eq_true rfl)) dX6_put_19 ⟨by decide, by decide⟩ (fun r9 M9 H locs hp hX1 hI => ?_)
      clear hw
      obtain ⟨r_4, rfl, rfl, hw⟩ := hp
      refine pm_nrm (cells' := 0) (slots' := 0) (g2 := F0 m 22 ls [.long r_4, .int a1, .ref (H0.size + q_3)]) rfl rfl rfl ?_
      obtain ⟨h_5, hw⟩ := hw
      refine ps_last E hI t_q_3 h_5 dX6_put_22 (fun H locs M_6 e_M_6 hX1 hI => ?_)
      replace hw := hw M_6 e_M_6
      replace t_th := t_th.x hX1
      replace hX := hX.tr hX1
      exact c_X6_put_23 E hret hX hI (lv_sub hl [] rfl) hw
set_option maxHeartbeats 4000000 in
set_option maxRecDepth 100000 in
theorem k_X7_init {l : Launch} {G : pm_G} {H0 : Heap} {th : Nat} {M : pm_M} {Post : pm_M → Prop} (t_th : pm_is M th 6) (hw : w_X7_init th M Post) : pm_C l G H0 yX7_init cX7_init 1 none rm_X7_init [.ref (H0.size + th)] M (pm_Pv Post) := by
  refine pm_start (by decide +kernel) (Nat.le_of_ble_eq_true rfl) ?_
  intro p e s m args below meth c H ls E hret hnm hI hl
  have hX : pm_X M M := pm_X.rf
  have hl : lv_has ls 1 [(0, .ref (H0.size + th))] := hl
  have hx := E.1
  have hb := E.2.1
  have hown := E.2.2.2.1
  have hts := E.2.2.2.2.1
  unfold w_X7_init at hw
  refine lv_aload_n hx hb dX7_init_0 rfl (lv_at hl 0 rfl) ?_
  refine pm_objInit E hl.1 kl_X7_3 ko_init ko_code dX7_init_1 (by decide) (Nat.le_of_ble_eq_true rfl) ?_
  refine lv_aload_n hx hb dX7_init_4 rfl (lv_at hl 0 rfl) ?_
  refine lv_bipush (v := (64 : Int32)) hx hb dX7_init_5 (by decide) ?_
  refine newJ (N := 64) E hI (by decide) (by decide) (by decide) (by decide) (by decide) dX7_init_7 (fun H M_1 e_M_1 hX1 tn_2 hI => ?_)
  replace hw := hw M_1 e_M_1
  replace t_th := t_th.x hX1
  replace hX := hX.tr hX1
  refine pm_nrm (cells' := 1) (slots' := 64) (g2 := F0 m 9 ls [.ref (H0.size + (mZ M)), .ref (H0.size + th)]) rfl rfl rfl ?_
  refine pf_X7_11 E hI t_th dX7_init_9 hnm tn_2 (fun H locs M_3 e_M_3 hX1 hI => ?_)
  replace hw := hw M_3 e_M_3
  replace t_th := t_th.x hX1
  replace hX := hX.tr hX1
  refine lv_aload_n hx hb dX7_init_12 rfl (lv_at hl 0 rfl) ?_
  refine lv_sipush (v := (150 : Int32)) hx hb dX7_init_13 (by decide) ?_
  refine newI (N := 150) E hI (by decide) (by decide) (by decide) (by decide) (by decide) dX7_init_16 (fun H M_4 e_M_4 hX1 tn_5 hI => ?_)
  replace hw := hw M_4 e_M_4
  replace t_th := t_th.x hX1
  replace hX := hX.tr hX1
  refine pm_nrm (cells' := 2) (slots' := 214) (g2 := F0 m 18 ls [.ref (H0.size + (mZ M_3)), .ref (H0.size + th)]) rfl rfl rfl ?_
  refine pf_X7_15 E hI t_th dX7_init_18 hnm tn_5 (fun H locs M_6 e_M_6 hX1 hI => ?_)
  replace hw := hw M_6 e_M_6
  replace t_th := t_th.x hX1
  replace hX := hX.tr hX1
  exact pm_vret E hret hI hX ⟨rfl, hw⟩ (by decide) (by decide) dX7_init_21
set_option maxHeartbeats 4000000 in
set_option maxRecDepth 100000 in
theorem k_X7_noteBreach {l : Launch} {G : pm_G} {H0 : Heap} {th : Nat} {a1 : Int32} {a2 : Int32} {a3 : Int32} {M : pm_M} {Post : pm_M → Prop} (t_th : pm_is M th 6) (hw : w_X7_noteBreach th a1 a2 a3 M Post) : pm_C l G H0 yX7_noteBreach cX7_noteBreach 4 none rm_X7_noteBreach [.ref (H0.size + th), .int a1, .int a2, .int a3] M (pm_Pv Post) := by
  refine pm_start (by decide +kernel) (Nat.le_of_ble_eq_true rfl) ?_
  intro p e s m args below meth c H ls E hret hnm hI hl
  have hX : pm_X M M := pm_X.rf
  have hl : lv_has ls 4 [(0, .ref (H0.size + th)), (1, .int a1), (2, .int a2), (3, .int a3)] := hl
  have hx := E.1
  have hb := E.2.1
  have hown := E.2.2.2.1
  have hts := E.2.2.2.2.1
  unfold w_X7_noteBreach at hw
  refine lv_aload_n hx hb dX7_noteBreach_0 rfl (lv_at hl 0 rfl) ?_
  refine lv_iload_n hx hb dX7_noteBreach_1 rfl (lv_at hl 1 rfl) ?_
  refine pf_X7_44 E hI t_th dX7_noteBreach_2 (fun H locs M_1 e_M_1 hX1 hI => ?_)
  replace hw := hw M_1 e_M_1
  replace t_th := t_th.x hX1
  replace hX := hX.tr hX1
  refine lv_aload_n hx hb dX7_noteBreach_5 rfl (lv_at hl 0 rfl) ?_
  refine lv_iload_n hx hb dX7_noteBreach_6 rfl (lv_at hl 2 rfl) ?_
  refine pf_X7_48 E hI t_th dX7_noteBreach_7 (fun H locs M_2 e_M_2 hX1 hI => ?_)
  replace hw := hw M_2 e_M_2
  replace t_th := t_th.x hX1
  replace hX := hX.tr hX1
  refine lv_aload_n hx hb dX7_noteBreach_10 rfl (lv_at hl 0 rfl) ?_
  refine lv_iload_n hx hb dX7_noteBreach_11 rfl (lv_at hl 3 rfl) ?_
  refine pf_X7_51 E hI t_th dX7_noteBreach_12 (fun H locs M_3 e_M_3 hX1 hI => ?_)
  replace hw := hw M_3 e_M_3
  replace t_th := t_th.x hX1
  replace hX := hX.tr hX1
  exact pm_vret E hret hI hX ⟨rfl, hw⟩ (by decide) (by decide) dX7_noteBreach_15
set_option maxHeartbeats 4000000 in
set_option maxRecDepth 100000 in
theorem k_X7_forgetBreach {l : Launch} {G : pm_G} {H0 : Heap} {th : Nat} {M : pm_M} {Post : pm_M → Prop} (t_th : pm_is M th 6) (hw : w_X7_forgetBreach th M Post) : pm_C l G H0 yX7_forgetBreach cX7_forgetBreach 1 none rm_X7_forgetBreach [.ref (H0.size + th)] M (pm_Pv Post) := by
  refine pm_start (by decide +kernel) (Nat.le_of_ble_eq_true rfl) ?_
  intro p e s m args below meth c H ls E hret hnm hI hl
  have hX : pm_X M M := pm_X.rf
  have hl : lv_has ls 1 [(0, .ref (H0.size + th))] := hl
  have hx := E.1
  have hb := E.2.1
  have hown := E.2.2.2.1
  have hts := E.2.2.2.2.1
  unfold w_X7_forgetBreach at hw
  refine lv_aload_n hx hb dX7_forgetBreach_0 rfl (lv_at hl 0 rfl) ?_
  refine lv_iconst (v := (0 : Int32)) hx hb dX7_forgetBreach_1 (by decide) ?_
  refine lv_iconst (v := (0 : Int32)) hx hb dX7_forgetBreach_2 (by decide) ?_
  refine lv_iconst (v := (0 : Int32)) hx hb dX7_forgetBreach_3 (by decide) ?_
  refine pm_callV (As := [.int (0 : Int32), .int (0 : Int32), .int (0 : Int32)]) (rest := []) 3 E hI (k_X7_noteBreach t_th hw) t_th (by decide) rfl kc_X7_noteBreach kl_X7_19 km_X7_noteBreach ks_X7_noteBreach ki_X7 (by decide +kernel) ⟨by decide, by decide⟩ rfl hl.1 rfl (by first | exact Nat.le_of_ble_eq_true rfl | (simp only [List.map, pm_rf_cat]; exact Nat.le_of_ble_eq_true rfl)) dX7_forgetBreach_4 ⟨by decide, by decide⟩ (fun r9 M_1 H locs hp hX1 hI => ?_)
  clear hw
  obtain ⟨rfl, hw⟩ := hp
  replace t_th := t_th.x hX1
  replace hX := hX.tr hX1
  refine pm_nrm (cells' := 0) (slots' := 0) (g2 := F0 m 7 ls []) rfl rfl rfl ?_
  exact pm_vret E hret hI hX ⟨rfl, hw⟩ (by decide) (by decide) dX7_forgetBreach_7
set_option maxHeartbeats 4000000 in
set_option maxRecDepth 100000 in
theorem c_X7_readSets_83 {p : Program} {l : Launch} {e : Env} {s : State} {m : MethodId} {args : Array Value} {below : List Frame} {meth : Method} {c : Code} {G : pm_G} {H0 : Heap} {M0 : pm_M} {Post : pm_M → Prop} {v0 : Nat} {v1 : Nat} {v2 : Int32} {v3 : Int32} {v4 : Int32} {M : pm_M} {k_36 : Int32 → pm_M → Prop} (E : pm_E G p s m args meth c cX7_readSets 6 RX7) (hret : meth.sig.returnType = none) (hk_36 : ∀ (v4 : Int32) (M : pm_M) (H : Heap) (locs : List Loc) (ls : Array Slot), pm_X M0 M → pm_I G H0 M H locs → (pm_is M v0 6) → (pm_is M v1 3) → lv_has ls 6 [(0, .ref (H0.size + v0)), (1, .ref (H0.size + v1)), (2, .int v2), (3, .int v3), (4, .int v4)] → k_36 v4 M → W p l e rm_X7_readSets s m args below meth c H locs 0 0 (pm_Z G H0 M0 (pm_Pv Post) below args s rm_X7_readSets.cells rm_X7_readSets.slots) (F0 m 36 ls [])) {H : Heap} {locs : List Loc} {ls : Array Slot} (hX : pm_X M0 M) (hI : pm_I G H0 M H locs) (t_v0 : pm_is M v0 6) (t_v1 : pm_is M v1 3) (hl : lv_has ls 6 [(0, .ref (H0.size + v0)), (1, .ref (H0.size + v1)), (2, .int v2), (3, .int v3), (4, .int v4)]) (hw : w_X7_readSets_83 Post k_36 v0 v1 v2 v3 v4 M) : W p l e rm_X7_readSets s m args below meth c H locs 0 0 (pm_Z G H0 M0 (pm_Pv Post) below args s rm_X7_readSets.cells rm_X7_readSets.slots) (F0 m 83 ls []) := by
  have hx := E.1
  have hb := E.2.1
  have hown := E.2.2.2.1
  have hts := E.2.2.2.2.1
  unfold w_X7_readSets_83 at hw
  obtain ⟨x_1, e_x_1⟩ : ∃ z : Int32, z = v4 + (1 : Int32) := ⟨_, rfl⟩
  refine lv_iinc (v := x_1) (lv' := [(4, .int x_1), (0, .ref (H0.size + v0)), (1, .ref (H0.size + v1)), (2, .int v2), (3, .int v3)]) hx hb dX7_readSets_83 hl (k := 4) rfl (by rw [e_x_1]; rfl) (by decide) rfl (fun ls hl_2 => ?_)
  replace hw := hw x_1 e_x_1
  refine lv_goto (tgt := 36) hx hb dX7_readSets_86 (by decide) ?_
  exact hk_36 _ _ _ _ _ hX hI t_v0 t_v1 (lv_sub hl_2 [1, 2, 3, 4, 0] rfl) hw
set_option maxHeartbeats 4000000 in
set_option maxRecDepth 100000 in
theorem c_X7_readSets_36 {p : Program} {l : Launch} {e : Env} {s : State} {m : MethodId} {args : Array Value} {below : List Frame} {meth : Method} {c : Code} {G : pm_G} {H0 : Heap} {M0 : pm_M} {Post : pm_M → Prop} {v0 : Nat} {v1 : Nat} {v2 : Int32} {v3 : Int32} (E : pm_E G p s m args meth c cX7_readSets 6 RX7) (hret : meth.sig.returnType = none) : ∀ (n : Nat) (v4 : Int32) (M : pm_M) (H : Heap) (locs : List Loc) (ls : Array Slot), pm_X M0 M → pm_I G H0 M H locs → (pm_is M v0 6) → (pm_is M v1 3) → lv_has ls 6 [(0, .ref (H0.size + v0)), (1, .ref (H0.size + v1)), (2, .int v2), (3, .int v3), (4, .int v4)] → w_X7_readSets_36 Post v0 v1 v2 v3 n v4 M → W p l e rm_X7_readSets s m args below meth c H locs 0 0 (pm_Z G H0 M0 (pm_Pv Post) below args s rm_X7_readSets.cells rm_X7_readSets.slots) (F0 m 36 ls []) := by
  have hx := E.1
  have hb := E.2.1
  have hown := E.2.2.2.1
  have hts := E.2.2.2.2.1
  intro n
  induction n with
  | zero =>
    intro v4 M H locs ls hX hI t_v0 t_v1 hl hw
    unfold w_X7_readSets_36 at hw
    exact hw.elim
  | succ n ih =>
    intro v4 M H locs ls hX hI t_v0 t_v1 hl hw
    unfold w_X7_readSets_36 at hw
    refine lv_iload hx hb dX7_readSets_36 (lv_at hl 4 rfl) ?_
    refine lv_iload_n hx hb dX7_readSets_38 rfl (lv_at hl 3 rfl) ?_
    refine lv_icmp_ge (tgt := 89) hx hb dX7_readSets_39 (by decide) (fun h_1 => ?_) (fun h_1 => ?_)
    · replace hw := hw.1 h_1
      exact pm_vret E hret hI hX ⟨rfl, hw⟩ (by decide) (by decide) dX7_readSets_89
    · replace hw := hw.2 h_1
      refine lv_aload_n hx hb dX7_readSets_42 rfl (lv_at hl 1 rfl) ?_
      refine lv_iconst (v := (0 : Int32)) hx hb dX7_readSets_43 (by decide) ?_
      refine lv_iload_n hx hb dX7_readSets_44 rfl (lv_at hl 2 rfl) ?_
      refine pm_callV (As := [.int (0 : Int32), .int v2]) (rest := []) 2 E hI (k_X4_next t_v1 hw) t_v1 (by decide) rfl kc_X4_next kl_X7_23 km_X4_next ks_X4_next ki_X4 (by decide +kernel) ⟨by decide, by decide⟩ rfl hl.1 rfl (by first | exact Nat.le_of_ble_eq_true rfl | (simp only [List.map, pm_rf_cat]; exact Nat.le_of_ble_eq_true rfl)) dX7_readSets_45 ⟨by decide, by decide⟩ (fun r9 M_2 H locs hp hX1 hI => ?_)
      clear hw
      obtain ⟨r_3, rfl, hw⟩ := hp
      replace t_v0 := t_v0.x hX1
      replace t_v1 := t_v1.x hX1
      replace hX := hX.tr hX1
      refine pm_nrm (cells' := 0) (slots' := 0) (g2 := F0 m 48 ls [.int r_3]) rfl rfl rfl ?_
      refine lv_istore (lv' := [(5, .int r_3), (0, .ref (H0.size + v0)), (1, .ref (H0.size + v1)), (2, .int v2), (3, .int v3), (4, .int v4)]) hx hb dX7_readSets_48 hl (by decide) rfl (fun ls hl_4 => ?_)
      refine lv_iload hx hb dX7_readSets_50 (lv_at hl_4 0 rfl) ?_
      refine lv_bipush (v := (6 : Int32)) hx hb dX7_readSets_52 (by decide) ?_
      refine lv_ishr hx hb dX7_readSets_54 ?_
      refine lv_aload_n hx hb dX7_readSets_55 rfl (lv_at hl_4 1 rfl) ?_
      obtain ⟨q_5, e_q_5, hw⟩ := hw
      refine gf_X7_11 E hI t_v0 dX7_readSets_56 e_q_5 (fun t_q_5 => ?_)
      refine ps_alenJ E hI t_q_5 dX7_readSets_59 ?_
      refine lv_icmp_ge (tgt := 83) hx hb dX7_readSets_60 (by decide) (fun h_6 => ?_) (fun h_6 => ?_)
      · replace hw := hw.1 h_6
        exact c_X7_readSets_83 E hret ih hX hI t_v0 t_v1 (lv_sub hl_4 [1, 2, 3, 4, 5] rfl) hw
      · replace hw := hw.2 h_6
        refine lv_aload_n hx hb dX7_readSets_63 rfl (lv_at hl_4 1 rfl) ?_
        refine gf_X7_11 E hI t_v0 dX7_readSets_64 e_q_5 (fun _ => ?_)
        refine lv_iload hx hb dX7_readSets_67 (lv_at hl_4 0 rfl) ?_
        refine lv_bipush (v := (6 : Int32)) hx hb dX7_readSets_69 (by decide) ?_
        refine lv_ishr hx hb dX7_readSets_71 ?_
        refine lv_dup2_11 hx hb dX7_readSets_72 rfl rfl ?_
        obtain ⟨h_7, hw⟩ := hw
        refine pm_lald E hI t_q_5 h_7 dX7_readSets_73 ?_
        refine lv_lconst (v := (1 : Int64)) hx hb dX7_readSets_74 (by decide) ?_
        refine lv_iload hx hb dX7_readSets_75 (lv_at hl_4 0 rfl) ?_
        refine lv_bipush (v := (63 : Int32)) hx hb dX7_readSets_77 (by decide) ?_
        refine lv_iand hx hb dX7_readSets_79 ?_
        refine lv_lshl hx hb dX7_readSets_80 rfl ?_
        refine lv_lor hx hb dX7_readSets_81 ?_
        obtain ⟨h_8, hw⟩ := hw
        refine ps_last E hI t_q_5 h_8 dX7_readSets_82 (fun H locs M_9 e_M_9 hX1 hI => ?_)
        replace hw := hw M_9 e_M_9
        replace t_v0 := t_v0.x hX1
        replace t_v1 := t_v1.x hX1
        replace hX := hX.tr hX1
        exact c_X7_readSets_83 E hret ih hX hI t_v0 t_v1 (lv_sub hl_4 [1, 2, 3, 4, 5] rfl) hw
set_option maxHeartbeats 4000000 in
set_option maxRecDepth 100000 in
theorem c_X7_readSets_2 {p : Program} {l : Launch} {e : Env} {s : State} {m : MethodId} {args : Array Value} {below : List Frame} {meth : Method} {c : Code} {G : pm_G} {H0 : Heap} {M0 : pm_M} {Post : pm_M → Prop} {v0 : Nat} {v1 : Nat} {v2 : Int32} (E : pm_E G p s m args meth c cX7_readSets 6 RX7) (hret : meth.sig.returnType = none) : ∀ (n : Nat) (v3 : Int32) (M : pm_M) (H : Heap) (locs : List Loc) (ls : Array Slot), pm_X M0 M → pm_I G H0 M H locs → (pm_is M v0 6) → (pm_is M v1 3) → lv_has ls 6 [(0, .ref (H0.size + v0)), (1, .ref (H0.size + v1)), (2, .int v2), (3, .int v3)] → w_X7_readSets_2 Post v0 v1 v2 n v3 M → W p l e rm_X7_readSets s m args below meth c H locs 0 0 (pm_Z G H0 M0 (pm_Pv Post) below args s rm_X7_readSets.cells rm_X7_readSets.slots) (F0 m 2 ls []) := by
  have hx := E.1
  have hb := E.2.1
  have hown := E.2.2.2.1
  have hts := E.2.2.2.2.1
  intro n
  induction n with
  | zero =>
    intro v3 M H locs ls hX hI t_v0 t_v1 hl hw
    unfold w_X7_readSets_2 at hw
    exact hw.elim
  | succ n ih =>
    intro v3 M H locs ls hX hI t_v0 t_v1 hl hw
    unfold w_X7_readSets_2 at hw
    refine lv_iload_n hx hb dX7_readSets_2 rfl (lv_at hl 3 rfl) ?_
    refine lv_aload_n hx hb dX7_readSets_3 rfl (lv_at hl 0 rfl) ?_
    obtain ⟨q_1, e_q_1, hw⟩ := hw
    refine gf_X7_11 E hI t_v0 dX7_readSets_4 e_q_1 (fun t_q_1 => ?_)
    refine ps_alenJ E hI t_q_1 dX7_readSets_7 ?_
    refine lv_icmp_ge (tgt := 24) hx hb dX7_readSets_8 (by decide) (fun h_2 => ?_) (fun h_2 => ?_)
    · replace hw := hw.1 h_2
      refine lv_aload_n hx hb dX7_readSets_24 rfl (lv_at hl 1 rfl) ?_
      refine lv_iconst (v := (0 : Int32)) hx hb dX7_readSets_25 (by decide) ?_
      refine lv_sipush (v := (150 : Int32)) hx hb dX7_readSets_26 (by decide) ?_
      refine pm_callV (As := [.int (0 : Int32), .int (150 : Int32)]) (rest := []) 2 E hI (k_X4_next t_v1 hw) t_v1 (by decide) rfl kc_X4_next kl_X7_23 km_X4_next ks_X4_next ki_X4 (by decide +kernel) ⟨by decide, by decide⟩ rfl hl.1 rfl (by first | exact Nat.le_of_ble_eq_true rfl | (simp only [List.map, pm_rf_cat]; exact Nat.le_of_ble_eq_true rfl)) dX7_readSets_29 ⟨by decide, by decide⟩ (fun r9 M_3 H locs hp hX1 hI => ?_)
      clear hw
      obtain ⟨r_4, rfl, hw⟩ := hp
      replace t_v0 := t_v0.x hX1
      replace t_v1 := t_v1.x hX1
      replace hX := hX.tr hX1
      refine pm_nrm (cells' := 0) (slots' := 0) (g2 := F0 m 32 ls [.int r_4]) rfl rfl rfl ?_
      refine lv_istore_n (lv' := [(3, .int r_4), (0, .ref (H0.size + v0)), (1, .ref (H0.size + v1)), (2, .int v2)]) hx hb dX7_readSets_32 rfl hl (by decide) rfl (fun ls hl_5 => ?_)
      refine lv_iconst (v := (0 : Int32)) hx hb dX7_readSets_33 (by decide) ?_
      refine lv_istore (lv' := [(4, .int (0 : Int32)), (3, .int r_4), (0, .ref (H0.size + v0)), (1, .ref (H0.size + v1)), (2, .int v2)]) hx hb dX7_readSets_34 hl_5 (by decide) rfl (fun ls hl_6 => ?_)
      obtain ⟨n_7, hw⟩ := hw
      exact c_X7_readSets_36 E hret n_7 _ _ _ _ _ hX hI t_v0 t_v1 (lv_sub hl_6 [2, 3, 4, 1, 0] rfl) hw
    · replace hw := hw.2 h_2
      refine lv_aload_n hx hb dX7_readSets_11 rfl (lv_at hl 0 rfl) ?_
      refine gf_X7_11 E hI t_v0 dX7_readSets_12 e_q_1 (fun _ => ?_)
      refine lv_iload_n hx hb dX7_readSets_15 rfl (lv_at hl 3 rfl) ?_
      refine lv_lconst (v := (0 : Int64)) hx hb dX7_readSets_16 (by decide) ?_
      obtain ⟨h_8, hw⟩ := hw
      refine ps_last E hI t_q_1 h_8 dX7_readSets_17 (fun H locs M_9 e_M_9 hX1 hI => ?_)
      replace hw := hw M_9 e_M_9
      replace t_v0 := t_v0.x hX1
      replace t_v1 := t_v1.x hX1
      replace hX := hX.tr hX1
      obtain ⟨x_10, e_x_10⟩ : ∃ z : Int32, z = v3 + (1 : Int32) := ⟨_, rfl⟩
      refine lv_iinc (v := x_10) (lv' := [(3, .int x_10), (0, .ref (H0.size + v0)), (1, .ref (H0.size + v1)), (2, .int v2)]) hx hb dX7_readSets_18 hl (k := 3) rfl (by rw [e_x_10]; rfl) (by decide) rfl (fun ls hl_11 => ?_)
      replace hw := hw x_10 e_x_10
      refine lv_goto (tgt := 2) hx hb dX7_readSets_21 (by decide) ?_
      exact ih _ _ _ _ _ hX hI t_v0 t_v1 (lv_sub hl_11 [1, 2, 3, 0] rfl) hw
set_option maxHeartbeats 4000000 in
set_option maxRecDepth 100000 in
theorem k_X7_readSets {l : Launch} {G : pm_G} {H0 : Heap} {th : Nat} {a1 : Nat} {a2 : Int32} {M : pm_M} {Post : pm_M → Prop} (t_th : pm_is M th 6) (t_a1 : pm_is M a1 3) (hw : w_X7_readSets th a1 a2 M Post) : pm_C l G H0 yX7_readSets cX7_readSets 6 none rm_X7_readSets [.ref (H0.size + th), .ref (H0.size + a1), .int a2] M (pm_Pv Post) := by
  refine pm_start (by decide +kernel) (Nat.le_of_ble_eq_true rfl) ?_
  intro p e s m args below meth c H ls E hret hnm hI hl
  have hX : pm_X M M := pm_X.rf
  have hl : lv_has ls 6 [(0, .ref (H0.size + th)), (1, .ref (H0.size + a1)), (2, .int a2)] := hl
  have hx := E.1
  have hb := E.2.1
  have hown := E.2.2.2.1
  have hts := E.2.2.2.2.1
  unfold w_X7_readSets at hw
  refine lv_iconst (v := (0 : Int32)) hx hb dX7_readSets_0 (by decide) ?_
  refine lv_istore_n (lv' := [(3, .int (0 : Int32)), (0, .ref (H0.size + th)), (1, .ref (H0.size + a1)), (2, .int a2)]) hx hb dX7_readSets_1 rfl hl (by decide) rfl (fun ls hl_1 => ?_)
  obtain ⟨n_2, hw⟩ := hw
  exact c_X7_readSets_2 E hret n_2 _ _ _ _ _ hX hI t_th t_a1 (lv_sub hl_1 [1, 2, 3, 0] rfl) hw
