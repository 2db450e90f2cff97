set_option maxHeartbeats 4000000 in
set_option maxRecDepth 100000 in
theorem k_X0_init {l : Launch} {G : pm_G} {H0 : Heap} {th : Nat} {M : pm_M} {Post : pm_M → Prop} (t_th : pm_is M th 0) (hw : w_X0_init th M Post) : pm_C l G H0 yX0_init cX0_init 1 none rm_X0_init [.ref (H0.size + th)] M (pm_Pv Post) := by
  refine pm_start (by decide +kernel) (Nat.le_of_ble_eq_true rfl) ?_
  intro p e s m args below meth c H ls E hret hnm hI hl
  have hX : pm_X M M := pm_X.rf
  have hl : lv_has ls 1 [(0, .ref (H0.size + th))] := hl
  have hx := E.1
  have hb := E.2.1
  have hown := E.2.2.2.1
  have hts := E.2.2.2.2.1
  unfold w_X0_init at hw
  refine lv_aload_n hx hb dX0_init_0 rfl (lv_at hl 0 rfl) ?_
  refine pm_objInit E hl.1 kl_X0_3 ko_init ko_code dX0_init_1 (by decide) (Nat.le_of_ble_eq_true rfl) ?_
  refine lv_aload_n hx hb dX0_init_4 rfl (lv_at hl 0 rfl) ?_
  refine lv_bipush (v := (40 : Int32)) hx hb dX0_init_5 (by decide) ?_
  refine newI (N := 40) E hI (by decide) (by decide) (by decide) (by decide) (by decide) dX0_init_7 (fun H M_1 e_M_1 hX1 tn_2 hI => ?_)
  replace hw := hw M_1 e_M_1
  replace t_th := t_th.x hX1
  replace hX := hX.tr hX1
  refine pm_nrm (cells' := 1) (slots' := 40) (g2 := F0 m 9 ls [.ref (H0.size + (mZ M)), .ref (H0.size + th)]) rfl rfl rfl ?_
  refine pf_X0_9 E hI t_th dX0_init_9 hnm tn_2 (fun H locs M_3 e_M_3 hX1 hI => ?_)
  replace hw := hw M_3 e_M_3
  replace t_th := t_th.x hX1
  replace hX := hX.tr hX1
  refine lv_aload_n hx hb dX0_init_12 rfl (lv_at hl 0 rfl) ?_
  refine lv_bipush (v := (40 : Int32)) hx hb dX0_init_13 (by decide) ?_
  refine newI (N := 40) E hI (by decide) (by decide) (by decide) (by decide) (by decide) dX0_init_15 (fun H M_4 e_M_4 hX1 tn_5 hI => ?_)
  replace hw := hw M_4 e_M_4
  replace t_th := t_th.x hX1
  replace hX := hX.tr hX1
  refine pm_nrm (cells' := 2) (slots' := 80) (g2 := F0 m 17 ls [.ref (H0.size + (mZ M_3)), .ref (H0.size + th)]) rfl rfl rfl ?_
  refine pf_X0_15 E hI t_th dX0_init_17 hnm tn_5 (fun H locs M_6 e_M_6 hX1 hI => ?_)
  replace hw := hw M_6 e_M_6
  replace t_th := t_th.x hX1
  replace hX := hX.tr hX1
  exact pm_vret E hret hI hX ⟨rfl, hw⟩ (by decide) (by decide) dX0_init_20
set_option maxHeartbeats 4000000 in
set_option maxRecDepth 100000 in
theorem c_X6_hasStretch_31 {p : Program} {l : Launch} {e : Env} {s : State} {m : MethodId} {args : Array Value} {below : List Frame} {meth : Method} {c : Code} {G : pm_G} {H0 : Heap} {Post : Int32 → Prop} {s0 : Int32} {M : pm_M} (E : pm_E G p s m args meth c cX6_hasStretch 3 RX6) (hret : meth.sig.returnType = (some .boolean)) {H : Heap} {locs : List Loc} {ls : Array Slot} (hI : pm_I G H0 M H locs) (hl : lv_has ls 3 []) (hw : w_X6_hasStretch_31 Post s0 M) : W p l e rm_X6_hasStretch s m args below meth c H locs 0 0 (pm_Z G H0 M (pm_Pi (fun r9 M9 => M = M9 ∧ Post r9)) below args s rm_X6_hasStretch.cells rm_X6_hasStretch.slots) (F0 m 31 ls [.int s0]) := by
  have hx := E.1
  have hb := E.2.1
  have hown := E.2.2.2.1
  have hts := E.2.2.2.2.1
  unfold w_X6_hasStretch_31 at hw
  exact pm_zret E hret hI pm_X.rf (pm_nb hw.1) ⟨_, rfl, rfl, hw.2⟩ (by decide) (by decide) dX6_hasStretch_31
set_option maxHeartbeats 4000000 in
set_option maxRecDepth 100000 in
theorem c_X6_hasStretch_30 {p : Program} {l : Launch} {e : Env} {s : State} {m : MethodId} {args : Array Value} {below : List Frame} {meth : Method} {c : Code} {G : pm_G} {H0 : Heap} {Post : Int32 → Prop} {M : pm_M} (E : pm_E G p s m args meth c cX6_hasStretch 3 RX6) (hret : meth.sig.returnType = (some .boolean)) {H : Heap} {locs : List Loc} {ls : Array Slot} (hI : pm_I G H0 M H locs) (hl : lv_has ls 3 []) (hw : w_X6_hasStretch_30 Post M) : W p l e rm_X6_hasStretch s m args below meth c H locs 0 0 (pm_Z G H0 M (pm_Pi (fun r9 M9 => M = M9 ∧ Post r9)) below args s rm_X6_hasStretch.cells rm_X6_hasStretch.slots) (F0 m 30 ls []) := by
  have hx := E.1
  have hb := E.2.1
  have hown := E.2.2.2.1
  have hts := E.2.2.2.2.1
  unfold w_X6_hasStretch_30 at hw
  refine lv_iconst (v := (0 : Int32)) hx hb dX6_hasStretch_30 (by decide) ?_
  exact c_X6_hasStretch_31 E hret hI (lv_sub hl [] rfl) hw
set_option maxHeartbeats 4000000 in
set_option maxRecDepth 100000 in
theorem k_X6_hasStretch {l : Launch} {G : pm_G} {H0 : Heap} {th : Nat} {a1 : Int32} {a2 : Int32} {M : pm_M} {Post : Int32 → Prop} (t_th : pm_is M th 5) (hw : w_X6_hasStretch th a1 a2 M Post) : pm_C l G H0 yX6_hasStretch cX6_hasStretch 3 (some .boolean) rm_X6_hasStretch [.ref (H0.size + th), .int a1, .int a2] M (pm_Pi (fun r9 M9 => M = M9 ∧ Post r9)) := by
  refine pm_start (by decide +kernel) (Nat.le_of_ble_eq_true rfl) ?_
  intro p e s m args below meth c H ls E hret hnm hI hl
  have hl : lv_has ls 3 [(0, .ref (H0.size + th)), (1, .int a1), (2, .int a2)] := hl
  have hx := E.1
  have hb := E.2.1
  have hown := E.2.2.2.1
  have hts := E.2.2.2.2.1
  unfold w_X6_hasStretch at hw
  refine lv_iload_n hx hb dX6_hasStretch_0 rfl (lv_at hl 1 rfl) ?_
  refine lv_if_lt (tgt := 30) hx hb dX6_hasStretch_1 (by decide) (fun h_1 => ?_) (fun h_1 => ?_)
  · replace hw := hw.1 h_1
    exact c_X6_hasStretch_30 E hret hI (lv_sub hl [] rfl) hw
  · replace hw := hw.2 h_1
    refine lv_iload_n hx hb dX6_hasStretch_4 rfl (lv_at hl 2 rfl) ?_
    refine lv_if_lt (tgt := 30) hx hb dX6_hasStretch_5 (by decide) (fun h_2 => ?_) (fun h_2 => ?_)
    · replace hw := hw.1 h_2
      exact c_X6_hasStretch_30 E hret hI (lv_sub hl [] rfl) hw
    · replace hw := hw.2 h_2
      refine lv_iload_n hx hb dX6_hasStretch_8 rfl (lv_at hl 2 rfl) ?_
      refine lv_aload_n hx hb dX6_hasStretch_9 rfl (lv_at hl 0 rfl) ?_
      refine gf_X6_25 E hI t_th dX6_hasStretch_10 ?_
      refine lv_icmp_gt (tgt := 30) hx hb dX6_hasStretch_13 (by decide) (fun h_3 => ?_) (fun h_3 => ?_)
      · replace hw := hw.1 h_3
        exact c_X6_hasStretch_30 E hret hI (lv_sub hl [] rfl) hw
      · replace hw := hw.2 h_3
        refine lv_iload_n hx hb dX6_hasStretch_16 rfl (lv_at hl 1 rfl) ?_
        refine lv_aload_n hx hb dX6_hasStretch_17 rfl (lv_at hl 0 rfl) ?_
        refine gf_X6_25 E hI t_th dX6_hasStretch_18 ?_
        refine lv_iload_n hx hb dX6_hasStretch_21 rfl (lv_at hl 2 rfl) ?_
        refine lv_isub hx hb dX6_hasStretch_22 ?_
        refine lv_icmp_gt (tgt := 30) hx hb dX6_hasStretch_23 (by decide) (fun h_4 => ?_) (fun h_4 => ?_)
        · replace hw := hw.1 h_4
          exact c_X6_hasStretch_30 E hret hI (lv_sub hl [] rfl) hw
        · replace hw := hw.2 h_4
          refine lv_iconst (v := (1 : Int32)) hx hb dX6_hasStretch_26 (by decide) ?_
          refine lv_goto (tgt := 31) hx hb dX6_hasStretch_27 (by decide) ?_
          exact c_X6_hasStretch_31 E hret hI (lv_sub hl [] rfl) hw
set_option maxHeartbeats 4000000 in
set_option maxRecDepth 100000 in
theorem c_X6_number_22 {p : Program} {l : Launch} {e : Env} {s : State} {m : MethodId} {args : Array Value} {below : List Frame} {meth : Method} {c : Code} {G : pm_G} {H0 : Heap} {Post : Int64 → Prop} {s0 : Int64} {M : pm_M} (E : pm_E G p s m args meth c cX6_number 2 RX6) (hret : meth.sig.returnType = (some .long)) {H : Heap} {locs : List Loc} {ls : Array Slot} (hI : pm_I G H0 M H locs) (hl : lv_has ls 2 []) (hw : w_X6_number_22 Post s0 M) : W p l e rm_X6_number s m args below meth c H locs 0 0 (pm_Z G H0 M (pm_Pl (fun r9 M9 => M = M9 ∧ Post r9)) below args s rm_X6_number.cells rm_X6_number.slots) (F0 m 22 ls [.long s0]) := by
  have hx := E.1
  have hb := E.2.1
  have hown := E.2.2.2.1
  have hts := E.2.2.2.2.1
  unfold w_X6_number_22 at hw
  exact pm_lret E hret hI pm_X.rf ⟨_, rfl, rfl, hw⟩ (by decide) (by decide) dX6_number_22
set_option maxHeartbeats 4000000 in
set_option maxRecDepth 100000 in
theorem c_X6_number_21 {p : Program} {l : Launch} {e : Env} {s : State} {m : MethodId} {args : Array Value} {below : List Frame} {meth : Method} {c : Code} {G : pm_G} {H0 : Heap} {Post : Int64 → Prop} {M : pm_M} (E : pm_E G p s m args meth c cX6_number 2 RX6) (hret : meth.sig.returnType = (some .long)) {H : Heap} {locs : List Loc} {ls : Array Slot} (hI : pm_I G H0 M H locs) (hl : lv_has ls 2 []) (hw : w_X6_number_21 Post M) : W p l e rm_X6_number s m args below meth c H locs 0 0 (pm_Z G H0 M (pm_Pl (fun r9 M9 => M = M9 ∧ Post r9)) below args s rm_X6_number.cells rm_X6_number.slots) (F0 m 21 ls []) := by
  have hx := E.1
  have hb := E.2.1
  have hown := E.2.2.2.1
  have hts := E.2.2.2.2.1
  unfold w_X6_number_21 at hw
  refine lv_lconst (v := (0 : Int64)) hx hb dX6_number_21 (by decide) ?_
  exact c_X6_number_22 E hret hI (lv_sub hl [] rfl) hw
set_option maxHeartbeats 4000000 in
set_option maxRecDepth 100000 in
theorem k_X6_number {l : Launch} {G : pm_G} {H0 : Heap} {th : Nat} {a1 : Int32} {M : pm_M} {Post : Int64 → Prop} (t_th : pm_is M th 5) (hw : w_X6_number th a1 M Post) : pm_C l G H0 yX6_number cX6_number 2 (some .long) rm_X6_number [.ref (H0.size + th), .int a1] M (pm_Pl (fun r9 M9 => M = M9 ∧ Post r9)) := by
  refine pm_start (by decide +kernel) (Nat.le_of_ble_eq_true rfl) ?_
  intro p e s m args below meth c H ls E hret hnm hI hl
  have hl : lv_has ls 2 [(0, .ref (H0.size + th)), (1, .int a1)] := hl
  have hx := E.1
  have hb := E.2.1
  have hown := E.2.2.2.1
  have hts := E.2.2.2.2.1
  unfold w_X6_number at hw
  refine lv_iload_n hx hb dX6_number_0 rfl (lv_at hl 1 rfl) ?_
  refine lv_if_lt (tgt := 21) hx hb dX6_number_1 (by decide) (fun h_1 => ?_) (fun h_1 => ?_)
  · replace hw := hw.1 h_1
    exact c_X6_number_21 E hret hI (lv_sub hl [] rfl) hw
  · replace hw := hw.2 h_1
    refine lv_iload_n hx hb dX6_number_4 rfl (lv_at hl 1 rfl) ?_
    refine lv_aload_n hx hb dX6_number_5 rfl (lv_at hl 0 rfl) ?_
    refine gf_X6_25 E hI t_th dX6_number_6 ?_
    refine lv_icmp_ge (tgt := 21) hx hb dX6_number_9 (by decide) (fun h_2 => ?_) (fun h_2 => ?_)
    · replace hw := hw.1 h_2
      exact c_X6_number_21 E hret hI (lv_sub hl [] rfl) hw
    · replace hw := hw.2 h_2
      refine lv_aload_n hx hb dX6_number_12 rfl (lv_at hl 0 rfl) ?_
      obtain ⟨q_3, e_q_3, hw⟩ := hw
      refine gf_X6_9 E hI t_th dX6_number_13 e_q_3 (fun t_q_3 => ?_)
      refine lv_iload_n hx hb dX6_number_16 rfl (lv_at hl 1 rfl) ?_
      obtain ⟨h_4, hw⟩ := hw
      refine pm_lald E hI t_q_3 h_4 dX6_number_17 ?_
      refine lv_goto (tgt := 22) hx hb dX6_number_18 (by decide) ?_
      exact c_X6_number_22 E hret hI (lv_sub hl [] rfl) hw
set_option maxHeartbeats 4000000 in
set_option maxRecDepth 100000 in
theorem c_X4_next_75 {p : Program} {l : Launch} {e : Env} {s : State} {m : MethodId} {args : Array Value} {below : List Frame} {meth : Method} {c : Code} {G : pm_G} {H0 : Heap} {M0 : pm_M} {Post : Int32 → pm_M → Prop} {v0 : Nat} {v1 : Int32} {M : pm_M} (E : pm_E G p s m args meth c cX4_next 5 RX4) (hret : meth.sig.returnType = (some .int)) {H : Heap} {locs : List Loc} {ls : Array Slot} (hX : pm_X M0 M) (hI : pm_I G H0 M H locs) (t_v0 : pm_is M v0 3) (hl : lv_has ls 5 [(0, .ref (H0.size + v0)), (1, .int v1)]) (hw : w_X4_next_75 Post v0 v1 M) : W p l e rm_X4_next s m args below meth c H locs 0 0 (pm_Z G H0 M0 (pm_Pi Post) below args s rm_X4_next.cells rm_X4_next.slots) (F0 m 75 ls []) := by
  have hx := E.1
  have hb := E.2.1
  have hown := E.2.2.2.1
  have hts := E.2.2.2.2.1
  unfold w_X4_next_75 at hw
  refine lv_aload_n hx hb dX4_next_75 rfl (lv_at hl 0 rfl) ?_
  refine lv_bipush (v := (-4 : Int32)) hx hb dX4_next_76 (by decide) ?_
  refine pf_X4_19 E hI t_v0 dX4_next_78 (fun H locs M_1 e_M_1 hX1 hI => ?_)
  replace hw := hw M_1 e_M_1
  replace t_v0 := t_v0.x hX1
  replace hX := hX.tr hX1
  refine lv_iload_n hx hb dX4_next_81 rfl (lv_at hl 1 rfl) ?_
  exact pm_iret E hret hI hX ⟨_, rfl, hw⟩ (by decide) (by decide) dX4_next_82
set_option maxHeartbeats 4000000 in
set_option maxRecDepth 100000 in
theorem c_X4_next_31 {p : Program} {l : Launch} {e : Env} {s : State} {m : MethodId} {args : Array Value} {below : List Frame} {meth : Method} {c : Code} {G : pm_G} {H0 : Heap} {M0 : pm_M} {Post : Int32 → pm_M → Prop} {v0 : Nat} {v1 : Int32} {M : pm_M} (E : pm_E G p s m args meth c cX4_next 5 RX4) (hret : meth.sig.returnType = (some .int)) {H : Heap} {locs : List Loc} {ls : Array Slot} (hX : pm_X M0 M) (hI : pm_I G H0 M H locs) (t_v0 : pm_is M v0 3) (hl : lv_has ls 5 [(0, .ref (H0.size + v0)), (1, .int v1)]) (hw : w_X4_next_31 Post v0 v1 M) : W p l e rm_X4_next s m args below meth c H locs 0 0 (pm_Z G H0 M0 (pm_Pi Post) below args s rm_X4_next.cells rm_X4_next.slots) (F0 m 31 ls []) := by
  have hx := E.1
  have hb := E.2.1
  have hown := E.2.2.2.1
  have hts := E.2.2.2.2.1
  unfold w_X4_next_31 at hw
  refine lv_aload_n hx hb dX4_next_31 rfl (lv_at hl 0 rfl) ?_
  refine lv_bipush (v := (-6 : Int32)) hx hb dX4_next_32 (by decide) ?_
  refine pf_X4_19 E hI t_v0 dX4_next_34 (fun H locs M_1 e_M_1 hX1 hI => ?_)
  replace hw := hw M_1 e_M_1
  replace t_v0 := t_v0.x hX1
  replace hX := hX.tr hX1
  refine lv_iload_n hx hb dX4_next_37 rfl (lv_at hl 1 rfl) ?_
  exact pm_iret E hret hI hX ⟨_, rfl, hw⟩ (by decide) (by decide) dX4_next_38
set_option maxHeartbeats 4000000 in
set_option maxRecDepth 100000 in
theorem k_X4_next {l : Launch} {G : pm_G} {H0 : Heap} {th : Nat} {a1 : Int32} {a2 : Int32} {M : pm_M} {Post : Int32 → pm_M → Prop} (t_th : pm_is M th 3) (hw : w_X4_next th a1 a2 M Post) : pm_C l G H0 yX4_next cX4_next 5 (some .int) rm_X4_next [.ref (H0.size + th), .int a1, .int a2] M (pm_Pi Post) := by
  refine pm_start (by decide +kernel) (Nat.le_of_ble_eq_true rfl) ?_
  intro p e s m args below meth c H ls E hret hnm hI hl
  have hX : pm_X M M := pm_X.rf
  have hl : lv_has ls 5 [(0, .ref (H0.size + th)), (1, .int a1), (2, .int a2)] := hl
  have hx := E.1
  have hb := E.2.1
  have hown := E.2.2.2.1
  have hts := E.2.2.2.2.1
  unfold w_X4_next at hw
  refine lv_aload_n hx hb dX4_next_0 rfl (lv_at hl 0 rfl) ?_
  refine gf_X4_19 E hI t_th dX4_next_1 ?_
  refine lv_if_eq (tgt := 9) hx hb dX4_next_4 (by decide) (fun h_1 => ?_) (fun h_1 => ?_)
  · replace hw := hw.1 h_1
    refine lv_aload_n hx hb dX4_next_9 rfl (lv_at hl 0 rfl) ?_
    refine go_X4_9 E hI t_th dX4_next_10 (fun o_2 e_o_2 o_o_2 => ?_)
    replace hw := hw o_2 e_o_2
    refine pm_ifnull (tgt := 31) hx hb dX4_next_13 (by decide) (fun hq => ?_) (fun q_3 hq => ?_)
    · replace hw := hw.1 hq
      subst hq
      exact c_X4_next_31 E hret hX hI t_th (lv_sub hl [0, 1] rfl) hw
    · replace hw := hw.2 q_3 hq
      subst hq
      have t_q_3 := o_o_2 q_3 rfl
      refine lv_aload_n hx hb dX4_next_16 rfl (lv_at hl 0 rfl) ?_
      refine go_X4_9 E hI t_th dX4_next_17 (fun o_4 e_o_4 o_o_4 => ?_)
      replace hw := hw o_4 e_o_4
      refine lv_aload_n hx hb dX4_next_20 rfl (lv_at hl 0 rfl) ?_
      refine gf_X4_15 E hI t_th dX4_next_21 ?_
      refine lv_iconst (v := (1 : Int32)) hx hb dX4_next_24 (by decide) ?_
      obtain ⟨q_5, hq, hw⟩ := hw
      subst hq
      have t_q_5 := o_o_4 q_5 rfl
      refine W.eq (g2 := F0 m 25 ls [.int (1 : Int32), .int (mI M th 1), .ref (H0.size + q_5)]) rfl ?_
      refine pm_callV (As := [.int (mI M th 1), .int (1 : Int32)]) (rest := []) 2 E hI (k_X6_hasStretch t_q_5 hw) t_q_5 (by decide) rfl kc_X6_hasStretch kl_X4_22 km_X6_hasStretch ks_X6_hasStretch ki_X6 (by decide +kernel) ⟨by decide, by decide⟩ rfl hl.1 rfl (by first | exact Nat.le_of_ble_eq_true rfl | (simp only [List.map, pm_rf_cat]; exact Nat.le_of_ble_eq_true rfl)) dX4_next_25 ⟨by decide, by decide⟩ (fun r9 M9 H locs hp hX1 hI => ?_)
      clear hw
      obtain ⟨r_6, rfl, rfl, hw⟩ := hp
      refine pm_nrm (cells' := 0) (slots' := 0) (g2 := F0 m 28 ls [.int r_6]) rfl rfl rfl ?_
      refine lv_if_ne (tgt := 39) hx hb dX4_next_28 (by decide) (fun h_7 => ?_) (fun h_7 => ?_)
      · replace hw := hw.1 h_7
        refine lv_aload_n hx hb dX4_next_39 rfl (lv_at hl 0 rfl) ?_
        refine go_X4_9 E hI t_th dX4_next_40 (fun o_8 e_o_8 o_o_8 => ?_)
        replace hw := hw o_8 e_o_8
        refine lv_aload_n hx hb dX4_next_43 rfl (lv_at hl 0 rfl) ?_
        refine gf_X4_15 E hI t_th dX4_next_44 ?_
        obtain ⟨q_9, hq, hw⟩ := hw
        subst hq
        have t_q_9 := o_o_8 q_9 rfl
        refine W.eq (g2 := F0 m 47 ls [.int (mI M th 1), .ref (H0.size + q_9)]) rfl ?_
        refine pm_callV (As := [.int (mI M th 1)]) (rest := []) 1 E hI (k_X6_number t_q_9 hw) t_q_9 (by decide) rfl kc_X6_number kl_X4_28 km_X6_number ks_X6_number ki_X6 (by decide +kernel) ⟨by decide, by decide⟩ rfl hl.1 rfl (by first | exact Nat.le_of_ble_eq_true rfl | (simp only [List.map, pm_rf_cat]; exact Nat.le_of_ble_eq_true rfl)) dX4_next_47 ⟨by decide, by decide⟩ (fun r9 M9 H locs hp hX1 hI => ?_)
        clear hw
        obtain ⟨r_10, rfl, rfl, hw⟩ := hp
        refine pm_nrm (cells' := 0) (slots' := 0) (g2 := F0 m 50 ls [.long r_10]) rfl rfl rfl ?_
        refine lv_lstore_n (lv' := [(3, .long r_10), (0, .ref (H0.size + th)), (1, .int a1), (2, .int a2)]) hx hb dX4_next_50 rfl hl (by decide) rfl (fun ls hl_11 => ?_)
        refine lv_aload_n hx hb dX4_next_51 rfl (lv_at hl_11 1 rfl) ?_
        refine lv_dup hx hb dX4_next_52 rfl ?_
        refine gf_X4_15 E hI t_th dX4_next_53 ?_
        refine lv_iconst (v := (1 : Int32)) hx hb dX4_next_56 (by decide) ?_
        refine lv_iadd hx hb dX4_next_57 ?_
        refine pf_X4_15 E hI t_th dX4_next_58 (fun H locs M_12 e_M_12 hX1 hI => ?_)
        replace hw := hw M_12 e_M_12
        replace t_th := t_th.x hX1
        replace hX := hX.tr hX1
        refine lv_lload_n hx hb dX4_next_61 rfl (lv_at hl_11 0 rfl) ?_
        refine lv_iload_n hx hb dX4_next_62 rfl (lv_at hl_11 2 rfl) ?_
        refine lv_i2l hx hb dX4_next_63 rfl ?_
        refine W.lcmp hx hb dX4_next_64 ?_
        refine lv_if_lt (tgt := 75) hx hb dX4_next_65 (by decide) (fun h_13 => ?_) (fun h_13 => ?_)
        · replace hw := hw.1 h_13
          exact c_X4_next_75 E hret hX hI t_th (lv_sub hl_11 [1, 2] rfl) hw
        · replace hw := hw.2 h_13
          refine lv_lload_n hx hb dX4_next_68 rfl (lv_at hl_11 0 rfl) ?_
          refine lv_iload_n hx hb dX4_next_69 rfl (lv_at hl_11 3 rfl) ?_
          refine lv_i2l hx hb dX4_next_70 rfl ?_
          refine W.lcmp hx hb dX4_next_71 ?_
          refine lv_if_le (tgt := 83) hx hb dX4_next_72 (by decide) (fun h_14 => ?_) (fun h_14 => ?_)
          · replace hw := hw.1 h_14
            refine lv_lload_n hx hb dX4_next_83 rfl (lv_at hl_11 0 rfl) ?_
            refine lv_l2i hx hb dX4_next_84 rfl ?_
            exact pm_iret E hret hI hX ⟨_, rfl, hw⟩ (by decide) (by decide) dX4_next_85
          · replace hw := hw.2 h_14
            exact c_X4_next_75 E hret hX hI t_th (lv_sub hl_11 [1, 2] rfl) hw
      · replace hw := hw.2 h_7
        exact c_X4_next_31 E hret hX hI t_th (lv_sub hl [0, 1] rfl) hw
  · replace hw := hw.2 h_1
    refine lv_iload_n hx hb dX4_next_7 rfl (lv_at hl 1 rfl) ?_
    exact pm_iret E hret hI hX ⟨_, rfl, hw⟩ (by decide) (by decide) dX4_next_8
set_option maxHeartbeats 4000000 in
set_option maxRecDepth 100000 in
theorem k_X0_readEven {l : Launch} {G : pm_G} {H0 : Heap} {th : Nat} {a1 : Nat} {a2 : Int32} {M : pm_M} {Post : pm_M → Prop} (t_th : pm_is M th 0) (t_a1 : pm_is M a1 3) (hw : w_X0_readEven th a1 a2 M Post) : pm_C l G H0 yX0_readEven cX0_readEven 3 none rm_X0_readEven [.ref (H0.size + th), .ref (H0.size + a1), .int a2] M (pm_Pv Post) := by
  refine pm_start (by decide +kernel) (Nat.le_of_ble_eq_true rfl) ?_
  intro p e s m args below meth c H ls E hret hnm hI hl
  have hX : pm_X M M := pm_X.rf
  have hl : lv_has ls 3 [(0, .ref (H0.size + th)), (1, .ref (H0.size + a1)), (2, .int a2)] := hl
  have hx := E.1
  have hb := E.2.1
  have hown := E.2.2.2.1
  have hts := E.2.2.2.2.1
  unfold w_X0_readEven at hw
  refine lv_aload_n hx hb dX0_readEven_0 rfl (lv_at hl 0 rfl) ?_
  refine lv_iconst (v := (1 : Int32)) hx hb dX0_readEven_1 (by decide) ?_
  refine pf_X0_18 E hI t_th dX0_readEven_2 (fun H locs M_1 e_M_1 hX1 hI => ?_)
  replace hw := hw M_1 e_M_1
  replace t_th := t_th.x hX1
  replace t_a1 := t_a1.x hX1
  replace hX := hX.tr hX1
  refine lv_aload_n hx hb dX0_readEven_5 rfl (lv_at hl 0 rfl) ?_
  obtain ⟨q_2, e_q_2, hw⟩ := hw
  refine gf_X0_9 E hI t_th dX0_readEven_6 e_q_2 (fun t_q_2 => ?_)
  refine lv_iconst (v := (0 : Int32)) hx hb dX0_readEven_9 (by decide) ?_
  refine lv_iload_n hx hb dX0_readEven_10 rfl (lv_at hl 2 rfl) ?_
  obtain ⟨h_3, hw⟩ := hw
  refine ps_iast E hI t_q_2 h_3 dX0_readEven_11 (fun H locs M_4 e_M_4 hX1 hI => ?_)
  replace hw := hw M_4 e_M_4
  replace t_th := t_th.x hX1
  replace t_a1 := t_a1.x hX1
  replace hX := hX.tr hX1
  refine lv_aload_n hx hb dX0_readEven_12 rfl (lv_at hl 0 rfl) ?_
  obtain ⟨q_5, e_q_5, hw⟩ := hw
  refine gf_X0_15 E hI t_th dX0_readEven_13 e_q_5 (fun t_q_5 => ?_)
  refine lv_iconst (v := (0 : Int32)) hx hb dX0_readEven_16 (by decide) ?_
  refine lv_aload_n hx hb dX0_readEven_17 rfl (lv_at hl 1 rfl) ?_
  refine lv_iconst (v := (0 : Int32)) hx hb dX0_readEven_18 (by decide) ?_
  refine lv_bipush (v := (12 : Int32)) hx hb dX0_readEven_19 (by decide) ?_
  refine pm_callV (As := [.int (0 : Int32), .int (12 : Int32)]) (rest := [.int (0 : Int32), .ref (H0.size + q_5)]) 2 E hI (k_X4_next t_a1 hw) t_a1 (by decide) rfl kc_X4_next kl_X0_22 km_X4_next ks_X4_next ki_X4 (by decide +kernel) ⟨by decide, by decide⟩ rfl hl.1 rfl (by first | exact Nat.le_of_ble_eq_true rfl | (simp only [List.map, pm_rf_cat]; exact Nat.le_of_ble_eq_true rfl)) dX0_readEven_21 ⟨by decide, by decide⟩ (fun r9 M_6 H locs hp hX1 hI => ?_)
  clear hw
  obtain ⟨r_7, rfl, hw⟩ := hp
  replace t_th := t_th.x hX1
  replace t_a1 := t_a1.x hX1
  replace t_q_5 := t_q_5.x hX1
  replace hX := hX.tr hX1
  refine pm_nrm (cells' := 0) (slots' := 0) (g2 := F0 m 24 ls [.int r_7, .int (0 : Int32), .ref (H0.size + q_5)]) rfl rfl rfl ?_
  obtain ⟨h_8, hw⟩ := hw
  refine ps_iast E hI t_q_5 h_8 dX0_readEven_24 (fun H locs M_9 e_M_9 hX1 hI => ?_)
  replace hw := hw M_9 e_M_9
  replace t_th := t_th.x hX1
  replace t_a1 := t_a1.x hX1
  replace hX := hX.tr hX1
  exact pm_vret E hret hI hX ⟨rfl, hw⟩ (by decide) (by decide) dX0_readEven_25
set_option maxHeartbeats 4000000 in
set_option maxRecDepth 100000 in
theorem c_J9_max_7cf53_10 {p : Program} {l : Launch} {e : Env} {s : State} {m : MethodId} {args : Array Value} {below : List Frame} {meth : Method} {c : Code} {G : pm_G} {H0 : Heap} {Post : Int32 → Prop} {s0 : Int32} {M : pm_M} (E : pm_E G p s m args meth c cJ9_max_7cf53 2 RJ9) (hret : meth.sig.returnType = (some .int)) {H : Heap} {locs : List Loc} {ls : Array Slot} (hI : pm_I G H0 M H locs) (hl : lv_has ls 2 []) (hw : w_J9_max_7cf53_10 Post s0 M) : W p l e rm_J9_max_7cf53 s m args below meth c H locs 0 0 (pm_Z G H0 M (pm_Pi (fun r9 M9 => M = M9 ∧ Post r9)) below args s rm_J9_max_7cf53.cells rm_J9_max_7cf53.slots) (F0 m 10 ls [.int s0]) := by
  have hx := E.1
  have hb := E.2.1
  have hown := E.2.2.2.1
  have hts := E.2.2.2.2.1
  unfold w_J9_max_7cf53_10 at hw
  exact pm_iret E hret hI pm_X.rf ⟨_, rfl, rfl, hw⟩ (by decide) (by decide) dJ9_max_7cf53_10
set_option maxHeartbeats 4000000 in
set_option maxRecDepth 100000 in
theorem k_J9_max_7cf53 {l : Launch} {G : pm_G} {H0 : Heap} {a0 : Int32} {a1 : Int32} {M : pm_M} {Post : Int32 → Prop} (hw : w_J9_max_7cf53 a0 a1 M Post) : pm_C l G H0 yJ9_max_7cf53 cJ9_max_7cf53 2 (some .int) rm_J9_max_7cf53 [.int a0, .int a1] M (pm_Pi (fun r9 M9 => M = M9 ∧ Post r9)) := by
  refine pm_startF (by decide +kernel) (Nat.le_of_ble_eq_true rfl) ?_
  intro p e s m args below meth c H ls E hret hnm hI hl
  have hl : lv_has ls 2 [(0, .int a0), (1, .int a1)] := hl
  have hx := E.1
  have hb := E.2.1
  have hown := E.2.2.2.1
  have hts := E.2.2.2.2.1
  unfold w_J9_max_7cf53 at hw
  refine lv_iload_n hx hb dJ9_max_7cf53_0 rfl (lv_at hl 0 rfl) ?_
  refine lv_iload_n hx hb dJ9_max_7cf53_1 rfl (lv_at hl 1 rfl) ?_
  refine lv_icmp_lt (tgt := 9) hx hb dJ9_max_7cf53_2 (by decide) (fun h_1 => ?_) (fun h_1 => ?_)
  · replace hw := hw.1 h_1
    refine lv_iload_n hx hb dJ9_max_7cf53_9 rfl (lv_at hl 1 rfl) ?_
    exact c_J9_max_7cf53_10 E hret hI (lv_sub hl [] rfl) hw
  · replace hw := hw.2 h_1
    refine lv_iload_n hx hb dJ9_max_7cf53_5 rfl (lv_at hl 0 rfl) ?_
    refine lv_goto (tgt := 10) hx hb dJ9_max_7cf53_6 (by decide) ?_
    exact c_J9_max_7cf53_10 E hret hI (lv_sub hl [] rfl) hw
set_option maxHeartbeats 4000000 in
set_option maxRecDepth 100000 in
theorem c_X0_readParts_81 {p : Program} {l : Launch} {e : Env} {s : State} {m : MethodId} {args : Array Value} {below : List Frame} {meth : Method} {c : Code} {G : pm_G} {H0 : Heap} {M0 : pm_M} {Post : pm_M → Prop} {v0 : Nat} {v1 : Nat} (E : pm_E G p s m args meth c cX0_readParts 5 RX0) (hret : meth.sig.returnType = none) : ∀ (n : Nat) (v3 : Int32) (M : pm_M) (H : Heap) (locs : List Loc) (ls : Array Slot), pm_X M0 M → pm_I G H0 M H locs → (pm_is M v0 0) → (pm_is M v1 3) → lv_has ls 5 [(0, .ref (H0.size + v0)), (1, .ref (H0.size + v1)), (3, .int v3)] → w_X0_readParts_81 Post v0 v1 n v3 M → W p l e rm_X0_readParts s m args below meth c H locs 0 0 (pm_Z G H0 M0 (pm_Pv Post) below args s rm_X0_readParts.cells rm_X0_readParts.slots) (F0 m 81 ls []) := by
  have hx := E.1
  have hb := E.2.1
  have hown := E.2.2.2.1
  have hts := E.2.2.2.2.1
  intro n
  induction n with
  | zero =>
    intro v3 M H locs ls hX hI t_v0 t_v1 hl hw
    unfold w_X0_readParts_81 at hw
    exact hw.elim
  | succ n ih =>
    intro v3 M H locs ls hX hI t_v0 t_v1 hl hw
    unfold w_X0_readParts_81 at hw
    refine lv_iload_n hx hb dX0_readParts_81 rfl (lv_at hl 2 rfl) ?_
    refine lv_aload_n hx hb dX0_readParts_82 rfl (lv_at hl 0 rfl) ?_
    refine gf_X0_18 E hI t_v0 dX0_readParts_83 ?_
    refine lv_icmp_ge (tgt := 108) hx hb dX0_readParts_86 (by decide) (fun h_1 => ?_) (fun h_1 => ?_)
    · replace hw := hw.1 h_1
      exact pm_vret E hret hI hX ⟨rfl, hw⟩ (by decide) (by decide) dX0_readParts_108
    · replace hw := hw.2 h_1
      refine lv_aload_n hx hb dX0_readParts_89 rfl (lv_at hl 0 rfl) ?_
      obtain ⟨q_2, e_q_2, hw⟩ := hw
      refine gf_X0_15 E hI t_v0 dX0_readParts_90 e_q_2 (fun t_q_2 => ?_)
      refine lv_iload_n hx hb dX0_readParts_93 rfl (lv_at hl 2 rfl) ?_
      refine lv_aload_n hx hb dX0_readParts_94 rfl (lv_at hl 1 rfl) ?_
      refine lv_iconst (v := (0 : Int32)) hx hb dX0_readParts_95 (by decide) ?_
      refine lv_bipush (v := (12 : Int32)) hx hb dX0_readParts_96 (by decide) ?_
      refine pm_callV (As := [.int (0 : Int32), .int (12 : Int32)]) (rest := [.int v3, .ref (H0.size + q_2)]) 2 E hI (k_X4_next t_v1 hw) t_v1 (by decide) rfl kc_X4_next kl_X0_22 km_X4_next ks_X4_next ki_X4 (by decide +kernel) ⟨by decide, by decide⟩ rfl hl.1 rfl (by first | exact Nat.le_of_ble_eq_true rfl | (simp only [List.map, pm_rf_cat]; exact Nat.le_of_ble_eq_true rfl)) dX0_readParts_98 ⟨by decide, by decide⟩ (fun r9 M_3 H locs hp hX1 hI => ?_)
      clear hw
      obtain ⟨r_4, rfl, hw⟩ := hp
      replace t_v0 := t_v0.x hX1
      replace t_v1 := t_v1.x hX1
      replace t_q_2 := t_q_2.x hX1
      replace hX := hX.tr hX1
      refine pm_nrm (cells' := 0) (slots' := 0) (g2 := F0 m 101 ls [.int r_4, .int v3, .ref (H0.size + q_2)]) rfl rfl rfl ?_
      obtain ⟨h_5, hw⟩ := hw
      refine ps_iast E hI t_q_2 h_5 dX0_readParts_101 (fun H locs M_6 e_M_6 hX1 hI => ?_)
      replace hw := hw M_6 e_M_6
      replace t_v0 := t_v0.x hX1
      replace t_v1 := t_v1.x hX1
      replace hX := hX.tr hX1
      obtain ⟨x_7, e_x_7⟩ : ∃ z : Int32, z = v3 + (1 : Int32) := ⟨_, rfl⟩
      refine lv_iinc (v := x_7) (lv' := [(3, .int x_7), (0, .ref (H0.size + v0)), (1, .ref (H0.size + v1))]) hx hb dX0_readParts_102 hl (k := 2) rfl (by rw [e_x_7]; rfl) (by decide) rfl (fun ls hl_8 => ?_)
      replace hw := hw x_7 e_x_7
      refine lv_goto (tgt := 81) hx hb dX0_readParts_105 (by decide) ?_
      exact ih _ _ _ _ _ hX hI t_v0 t_v1 (lv_sub hl_8 [1, 2, 0] rfl) hw
set_option maxHeartbeats 4000000 in
set_option maxRecDepth 100000 in
theorem c_X0_readParts_31 {p : Program} {l : Launch} {e : Env} {s : State} {m : MethodId} {args : Array Value} {below : List Frame} {meth : Method} {c : Code} {G : pm_G} {H0 : Heap} {M0 : pm_M} {Post : pm_M → Prop} {v0 : Nat} {v1 : Nat} {v2 : Int32} (E : pm_E G p s m args meth c cX0_readParts 5 RX0) (hret : meth.sig.returnType = none) : ∀ (n : Nat) (v3 : Int32) (M : pm_M) (H : Heap) (locs : List Loc) (ls : Array Slot), pm_X M0 M → pm_I G H0 M H locs → (pm_is M v0 0) → (pm_is M v1 3) → lv_has ls 5 [(0, .ref (H0.size + v0)), (1, .ref (H0.size + v1)), (2, .int v2), (3, .int v3)] → w_X0_readParts_31 Post v0 v1 v2 n v3 M → W p l e rm_X0_readParts s m args below meth c H locs 0 0 (pm_Z G H0 M0 (pm_Pv Post) below args s rm_X0_readParts.cells rm_X0_readParts.slots) (F0 m 31 ls []) := by
  have hx := E.1
  have hb := E.2.1
  have hown := E.2.2.2.1
  have hts := E.2.2.2.2.1
  intro n
  induction n with
  | zero =>
    intro v3 M H locs ls hX hI t_v0 t_v1 hl hw
    unfold w_X0_readParts_31 at hw
    exact hw.elim
  | succ n ih =>
    intro v3 M H locs ls hX hI t_v0 t_v1 hl hw
    unfold w_X0_readParts_31 at hw
    refine lv_iload_n hx hb dX0_readParts_31 rfl (lv_at hl 3 rfl) ?_
    refine lv_iload_n hx hb dX0_readParts_32 rfl (lv_at hl 2 rfl) ?_
    refine lv_icmp_ge (tgt := 79) hx hb dX0_readParts_33 (by decide) (fun h_1 => ?_) (fun h_1 => ?_)
    · replace hw := hw.1 h_1
      refine lv_iconst (v := (0 : Int32)) hx hb dX0_readParts_79 (by decide) ?_
      refine lv_istore_n (lv' := [(3, .int (0 : Int32)), (0, .ref (H0.size + v0)), (1, .ref (H0.size + v1)), (2, .int v2)]) hx hb dX0_readParts_80 rfl hl (by decide) rfl (fun ls hl_2 => ?_)
      obtain ⟨n_3, hw⟩ := hw
      exact c_X0_readParts_81 E hret n_3 _ _ _ _ _ hX hI t_v0 t_v1 (lv_sub hl_2 [1, 2, 0] rfl) hw
    · replace hw := hw.2 h_1
      refine lv_aload_n hx hb dX0_readParts_36 rfl (lv_at hl 1 rfl) ?_
      refine lv_iconst (v := (0 : Int32)) hx hb dX0_readParts_37 (by decide) ?_
      refine lv_bipush (v := (11 : Int32)) hx hb dX0_readParts_38 (by decide) ?_
      refine pm_callV (As := [.int (0 : Int32), .int (11 : Int32)]) (rest := []) 2 E hI (k_X4_next t_v1 hw) t_v1 (by decide) rfl kc_X4_next kl_X0_22 km_X4_next ks_X4_next ki_X4 (by decide +kernel) ⟨by decide, by decide⟩ rfl hl.1 rfl (by first | exact Nat.le_of_ble_eq_true rfl | (simp only [List.map, pm_rf_cat]; exact Nat.le_of_ble_eq_true rfl)) dX0_readParts_40 ⟨by decide, by decide⟩ (fun r9 M_4 H locs hp hX1 hI => ?_)
      clear hw
      obtain ⟨r_5, rfl, hw⟩ := hp
      replace t_v0 := t_v0.x hX1
      replace t_v1 := t_v1.x hX1
      replace hX := hX.tr hX1
      refine pm_nrm (cells' := 0) (slots' := 0) (g2 := F0 m 43 ls [.int r_5]) rfl rfl rfl ?_
      refine lv_istore (lv' := [(4, .int r_5), (0, .ref (H0.size + v0)), (1, .ref (H0.size + v1)), (2, .int v2), (3, .int v3)]) hx hb dX0_readParts_43 hl (by decide) rfl (fun ls hl_6 => ?_)
      refine lv_aload_n hx hb dX0_readParts_45 rfl (lv_at hl_6 1 rfl) ?_
      obtain ⟨q_7, e_q_7, hw⟩ := hw
      refine gf_X0_9 E hI t_v0 dX0_readParts_46 e_q_7 (fun t_q_7 => ?_)
      refine lv_iload hx hb dX0_readParts_49 (lv_at hl_6 0 rfl) ?_
      refine lv_dup2_11 hx hb dX0_readParts_51 rfl rfl ?_
      obtain ⟨h_8, hw⟩ := hw
      refine pm_iald E hI t_q_7 h_8 dX0_readParts_52 ?_
      refine lv_iconst (v := (1 : Int32)) hx hb dX0_readParts_53 (by decide) ?_
      refine lv_iload_n hx hb dX0_readParts_54 rfl (lv_at hl_6 4 rfl) ?_
      refine lv_ishl hx hb dX0_readParts_55 ?_
      refine lv_ior hx hb dX0_readParts_56 ?_
      obtain ⟨h_9, hw⟩ := hw
      refine ps_iast E hI t_q_7 h_9 dX0_readParts_57 (fun H locs M_10 e_M_10 hX1 hI => ?_)
      replace hw := hw M_10 e_M_10
      replace t_v0 := t_v0.x hX1
      replace t_v1 := t_v1.x hX1
      replace hX := hX.tr hX1
      refine lv_aload_n hx hb dX0_readParts_58 rfl (lv_at hl_6 1 rfl) ?_
      refine lv_aload_n hx hb dX0_readParts_59 rfl (lv_at hl_6 1 rfl) ?_
      refine gf_X0_18 E hI t_v0 dX0_readParts_60 ?_
      refine lv_iload hx hb dX0_readParts_63 (lv_at hl_6 0 rfl) ?_
      refine lv_iconst (v := (1 : Int32)) hx hb dX0_readParts_65 (by decide) ?_
      refine lv_iadd hx hb dX0_readParts_66 ?_
      refine pm_callS (As := [.int (mI M_10 v0 2), .int (r_5 + (1 : Int32))]) (rest := [.ref (H0.size + v0)]) 2 E hI (k_J9_max_7cf53 hw) kc_J9_max_7cf53 kl_X0_28 kt_J9_max_7cf53 ki_J9 (by decide +kernel) ⟨by decide, by decide⟩ rfl hl_6.1 rfl (by first | exact Nat.le_of_ble_eq_true rfl | (simp only [List.map, pm_rf_cat]; exact Nat.le_of_ble_eq_true rfl)) dX0_readParts_67 ⟨by decide, by decide⟩ (fun r9 M9 H locs hp hX1 hI => ?_)
      clear hw
      obtain ⟨r_11, rfl, rfl, hw⟩ := hp
      refine pm_nrm (cells' := 0) (slots' := 0) (g2 := F0 m 70 ls [.int r_11, .ref (H0.size + v0)]) rfl rfl rfl ?_
      refine pf_X0_18 E hI t_v0 dX0_readParts_70 (fun H locs M_12 e_M_12 hX1 hI => ?_)
      replace hw := hw M_12 e_M_12
      replace t_v0 := t_v0.x hX1
      replace t_v1 := t_v1.x hX1
      replace hX := hX.tr hX1
      obtain ⟨x_13, e_x_13⟩ : ∃ z : Int32, z = v3 + (1 : Int32) := ⟨_, rfl⟩
      refine lv_iinc (v := x_13) (lv' := [(3, .int x_13), (4, .int r_5), (0, .ref (H0.size + v0)), (1, .ref (H0.size + v1)), (2, .int v2)]) hx hb dX0_readParts_73 hl_6 (k := 4) rfl (by rw [e_x_13]; rfl) (by decide) rfl (fun ls hl_14 => ?_)
      replace hw := hw x_13 e_x_13
      refine lv_goto (tgt := 31) hx hb dX0_readParts_76 (by decide) ?_
      exact ih _ _ _ _ _ hX hI t_v0 t_v1 (lv_sub hl_14 [2, 3, 4, 0] rfl) hw
set_option maxHeartbeats 4000000 in
set_option maxRecDepth 100000 in
theorem c_X0_readParts_2 {p : Program} {l : Launch} {e : Env} {s : State} {m : MethodId} {args : Array Value} {below : List Frame} {meth : Method} {c : Code} {G : pm_G} {H0 : Heap} {M0 : pm_M} {Post : pm_M → Prop} {v0 : Nat} {v1 : Nat} {v2 : Int32} (E : pm_E G p s m args meth c cX0_readParts 5 RX0) (hret : meth.sig.returnType = none) : ∀ (n : Nat) (v3 : Int32) (M : pm_M) (H : Heap) (locs : List Loc) (ls : Array Slot), pm_X M0 M → pm_I G H0 M H locs → (pm_is M v0 0) → (pm_is M v1 3) → lv_has ls 5 [(0, .ref (H0.size + v0)), (1, .ref (H0.size + v1)), (2, .int v2), (3, .int v3)] → w_X0_readParts_2 Post v0 v1 v2 n v3 M → W p l e rm_X0_readParts s m args below meth c H locs 0 0 (pm_Z G H0 M0 (pm_Pv Post) below args s rm_X0_readParts.cells rm_X0_readParts.slots) (F0 m 2 ls []) := by
  have hx := E.1
  have hb := E.2.1
  have hown := E.2.2.2.1
  have hts := E.2.2.2.2.1
  intro n
  induction n with
  | zero =>
    intro v3 M H locs ls hX hI t_v0 t_v1 hl hw
    unfold w_X0_readParts_2 at hw
    exact hw.elim
  | succ n ih =>
    intro v3 M H locs ls hX hI t_v0 t_v1 hl hw
    unfold w_X0_readParts_2 at hw
    refine lv_iload_n hx hb dX0_readParts_2 rfl (lv_at hl 3 rfl) ?_
    refine lv_aload_n hx hb dX0_readParts_3 rfl (lv_at hl 0 rfl) ?_
    obtain ⟨q_1, e_q_1, hw⟩ := hw
    refine gf_X0_9 E hI t_v0 dX0_readParts_4 e_q_1 (fun t_q_1 => ?_)
    refine ps_alenI E hI t_q_1 dX0_readParts_7 ?_
    refine lv_icmp_ge (tgt := 24) hx hb dX0_readParts_8 (by decide) (fun h_2 => ?_) (fun h_2 => ?_)
    · replace hw := hw.1 h_2
      refine lv_aload_n hx hb dX0_readParts_24 rfl (lv_at hl 0 rfl) ?_
      refine lv_iconst (v := (0 : Int32)) hx hb dX0_readParts_25 (by decide) ?_
      refine pf_X0_18 E hI t_v0 dX0_readParts_26 (fun H locs M_3 e_M_3 hX1 hI => ?_)
      replace hw := hw M_3 e_M_3
      replace t_v0 := t_v0.x hX1
      replace t_v1 := t_v1.x hX1
      replace hX := hX.tr hX1
      refine lv_iconst (v := (0 : Int32)) hx hb dX0_readParts_29 (by decide) ?_
      refine lv_istore_n (lv' := [(3, .int (0 : Int32)), (0, .ref (H0.size + v0)), (1, .ref (H0.size + v1)), (2, .int v2)]) hx hb dX0_readParts_30 rfl hl (by decide) rfl (fun ls hl_4 => ?_)
      obtain ⟨n_5, hw⟩ := hw
      exact c_X0_readParts_31 E hret n_5 _ _ _ _ _ hX hI t_v0 t_v1 (lv_sub hl_4 [1, 2, 3, 0] rfl) hw
    · replace hw := hw.2 h_2
      refine lv_aload_n hx hb dX0_readParts_11 rfl (lv_at hl 0 rfl) ?_
      refine gf_X0_9 E hI t_v0 dX0_readParts_12 e_q_1 (fun _ => ?_)
      refine lv_iload_n hx hb dX0_readParts_15 rfl (lv_at hl 3 rfl) ?_
      refine lv_iconst (v := (0 : Int32)) hx hb dX0_readParts_16 (by decide) ?_
      obtain ⟨h_6, hw⟩ := hw
      refine ps_iast E hI t_q_1 h_6 dX0_readParts_17 (fun H locs M_7 e_M_7 hX1 hI => ?_)
      replace hw := hw M_7 e_M_7
      replace t_v0 := t_v0.x hX1
      replace t_v1 := t_v1.x hX1
      replace hX := hX.tr hX1
      obtain ⟨x_8, e_x_8⟩ : ∃ z : Int32, z = v3 + (1 : Int32) := ⟨_, rfl⟩
      refine lv_iinc (v := x_8) (lv' := [(3, .int x_8), (0, .ref (H0.size + v0)), (1, .ref (H0.size + v1)), (2, .int v2)]) hx hb dX0_readParts_18 hl (k := 3) rfl (by rw [e_x_8]; rfl) (by decide) rfl (fun ls hl_9 => ?_)
      replace hw := hw x_8 e_x_8
      refine lv_goto (tgt := 2) hx hb dX0_readParts_21 (by decide) ?_
      exact ih _ _ _ _ _ hX hI t_v0 t_v1 (lv_sub hl_9 [1, 2, 3, 0] rfl) hw
set_option maxHeartbeats 4000000 in
set_option maxRecDepth 100000 in
theorem k_X0_readParts {l : Launch} {G : pm_G} {H0 : Heap} {th : Nat} {a1 : Nat} {a2 : Int32} {M : pm_M} {Post : pm_M → Prop} (t_th : pm_is M th 0) (t_a1 : pm_is M a1 3) (hw : w_X0_readParts th a1 a2 M Post) : pm_C l G H0 yX0_readParts cX0_readParts 5 none rm_X0_readParts [.ref (H0.size + th), .ref (H0.size + a1), .int a2] M (pm_Pv Post) := by
  refine pm_start (by decide +kernel) (Nat.le_of_ble_eq_true rfl) ?_
  intro p e s m args below meth c H ls E hret hnm hI hl
  have hX : pm_X M M := pm_X.rf
  have hl : lv_has ls 5 [(0, .ref (H0.size + th)), (1, .ref (H0.size + a1)), (2, .int a2)] := hl
  have hx := E.1
  have hb := E.2.1
  have hown := E.2.2.2.1
  have hts := E.2.2.2.2.1
  unfold w_X0_readParts at hw
  refine lv_iconst (v := (0 : Int32)) hx hb dX0_readParts_0 (by decide) ?_
  refine lv_istore_n (lv' := [(3, .int (0 : Int32)), (0, .ref (H0.size + th)), (1, .ref (H0.size + a1)), (2, .int a2)]) hx hb dX0_readParts_1 rfl hl (by decide) rfl (fun ls hl_1 => ?_)
  obtain ⟨n_2, hw⟩ := hw
  exact c_X0_readParts_2 E hret n_2 _ _ _ _ _ hX hI t_th t_a1 (lv_sub hl_1 [1, 2, 3, 0] rfl) hw
set_option maxHeartbeats 4000000 in
set_option maxRecDepth 100000 in
theorem c_X0_readNested_13 {p : Program} {l : Launch} {e : Env} {s : State} {m : MethodId} {args : Array Value} {below : List Frame} {meth : Method} {c : Code} {G : pm_G} {H0 : Heap} {M0 : pm_M} {Post : pm_M → Prop} {v0 : Nat} {v1 : Nat} {v2 : Int32} (E : pm_E G p s m args meth c cX0_readNested 4 RX0) (hret : meth.sig.returnType = none) : ∀ (n : Nat) (v3 : Int32) (M : pm_M) (H : Heap) (locs : List Loc) (ls : Array Slot), pm_X M0 M → pm_I G H0 M H locs → (pm_is M v0 0) → (pm_is M v1 3) → lv_has ls 4 [(0, .ref (H0.size + v0)), (1, .ref (H0.size + v1)), (2, .int v2), (3, .int v3)] → w_X0_readNested_13 Post v0 v1 v2 n v3 M → W p l e rm_X0_readNested s m args below meth c H locs 0 0 (pm_Z G H0 M0 (pm_Pv Post) below args s rm_X0_readNested.cells rm_X0_readNested.slots) (F0 m 13 ls []) := by
  have hx := E.1
  have hb := E.2.1
  have hown := E.2.2.2.1
  have hts := E.2.2.2.2.1
  intro n
  induction n with
  | zero =>
    intro v3 M H locs ls hX hI t_v0 t_v1 hl hw
    unfold w_X0_readNested_13 at hw
    exact hw.elim
  | succ n ih =>
    intro v3 M H locs ls hX hI t_v0 t_v1 hl hw
    unfold w_X0_readNested_13 at hw
    refine lv_iload_n hx hb dX0_readNested_13 rfl (lv_at hl 3 rfl) ?_
    refine lv_aload_n hx hb dX0_readNested_14 rfl (lv_at hl 0 rfl) ?_
    refine gf_X0_18 E hI t_v0 dX0_readNested_15 ?_
    refine lv_icmp_ge (tgt := 52) hx hb dX0_readNested_18 (by decide) (fun h_1 => ?_) (fun h_1 => ?_)
    · replace hw := hw.1 h_1
      exact pm_vret E hret hI hX ⟨rfl, hw⟩ (by decide) (by decide) dX0_readNested_52
    · replace hw := hw.2 h_1
      refine lv_aload_n hx hb dX0_readNested_21 rfl (lv_at hl 0 rfl) ?_
      obtain ⟨q_2, e_q_2, hw⟩ := hw
      refine gf_X0_9 E hI t_v0 dX0_readNested_22 e_q_2 (fun t_q_2 => ?_)
      refine lv_iload_n hx hb dX0_readNested_25 rfl (lv_at hl 3 rfl) ?_
      refine lv_aload_n hx hb dX0_readNested_26 rfl (lv_at hl 1 rfl) ?_
      refine lv_iconst (v := (0 : Int32)) hx hb dX0_readNested_27 (by decide) ?_
      refine lv_iload_n hx hb dX0_readNested_28 rfl (lv_at hl 2 rfl) ?_
      refine pm_callV (As := [.int (0 : Int32), .int v2]) (rest := [.int v3, .ref (H0.size + q_2)]) 2 E hI (k_X4_next t_v1 hw) t_v1 (by decide) rfl kc_X4_next kl_X0_22 km_X4_next ks_X4_next ki_X4 (by decide +kernel) ⟨by decide, by decide⟩ rfl hl.1 rfl (by first | exact Nat.le_of_ble_eq_true rfl | (simp only [List.map, pm_rf_cat]; exact Nat.le_of_ble_eq_true rfl)) dX0_readNested_29 ⟨by decide, by decide⟩ (fun r9 M_3 H locs hp hX1 hI => ?_)
      clear hw
      obtain ⟨r_4, rfl, hw⟩ := hp
      replace t_v0 := t_v0.x hX1
      replace t_v1 := t_v1.x hX1
      replace t_q_2 := t_q_2.x hX1
      replace hX := hX.tr hX1
      refine pm_nrm (cells' := 0) (slots' := 0) (g2 := F0 m 32 ls [.int r_4, .int v3, .ref (H0.size + q_2)]) rfl rfl rfl ?_
      obtain ⟨h_5, hw⟩ := hw
      refine ps_iast E hI t_q_2 h_5 dX0_readNested_32 (fun H locs M_6 e_M_6 hX1 hI => ?_)
      replace hw := hw M_6 e_M_6
      replace t_v0 := t_v0.x hX1
      replace t_v1 := t_v1.x hX1
      replace hX := hX.tr hX1
      refine lv_aload_n hx hb dX0_readNested_33 rfl (lv_at hl 0 rfl) ?_
      obtain ⟨q_7, e_q_7, hw⟩ := hw
      refine gf_X0_15 E hI t_v0 dX0_readNested_34 e_q_7 (fun t_q_7 => ?_)
      refine lv_iload_n hx hb dX0_readNested_37 rfl (lv_at hl 3 rfl) ?_
      refine lv_aload_n hx hb dX0_readNested_38 rfl (lv_at hl 1 rfl) ?_
      refine lv_iconst (v := (0 : Int32)) hx hb dX0_readNested_39 (by decide) ?_
      refine lv_bipush (v := (12 : Int32)) hx hb dX0_readNested_40 (by decide) ?_
      refine pm_callV (As := [.int (0 : Int32), .int (12 : Int32)]) (rest := [.int v3, .ref (H0.size + q_7)]) 2 E hI (k_X4_next t_v1 hw) t_v1 (by decide) rfl kc_X4_next kl_X0_22 km_X4_next ks_X4_next ki_X4 (by decide +kernel) ⟨by decide, by decide⟩ rfl hl.1 rfl (by first | exact Nat.le_of_ble_eq_true rfl | (simp only [List.map, pm_rf_cat]; exact Nat.le_of_ble_eq_true rfl)) dX0_readNested_42 ⟨by decide, by decide⟩ (fun r9 M_8 H locs hp hX1 hI => ?_)
      clear hw
      obtain ⟨r_9, rfl, hw⟩ := hp
      replace t_v0 := t_v0.x hX1
      replace t_v1 := t_v1.x hX1
      replace t_q_7 := t_q_7.x hX1
      replace hX := hX.tr hX1
      refine pm_nrm (cells' := 0) (slots' := 0) (g2 := F0 m 45 ls [.int r_9, .int v3, .ref (H0.size + q_7)]) rfl rfl rfl ?_
      obtain ⟨h_10, hw⟩ := hw
      refine ps_iast E hI t_q_7 h_10 dX0_readNested_45 (fun H locs M_11 e_M_11 hX1 hI => ?_)
      replace hw := hw M_11 e_M_11
      replace t_v0 := t_v0.x hX1
      replace t_v1 := t_v1.x hX1
      replace hX := hX.tr hX1
      obtain ⟨x_12, e_x_12⟩ : ∃ z : Int32, z = v3 + (1 : Int32) := ⟨_, rfl⟩
      refine lv_iinc (v := x_12) (lv' := [(3, .int x_12), (0, .ref (H0.size + v0)), (1, .ref (H0.size + v1)), (2, .int v2)]) hx hb dX0_readNested_46 hl (k := 3) rfl (by rw [e_x_12]; rfl) (by decide) rfl (fun ls hl_13 => ?_)
      replace hw := hw x_12 e_x_12
      refine lv_goto (tgt := 13) hx hb dX0_readNested_49 (by decide) ?_
      exact ih _ _ _ _ _ hX hI t_v0 t_v1 (lv_sub hl_13 [1, 2, 3, 0] rfl) hw
set_option maxHeartbeats 4000000 in
set_option maxRecDepth 100000 in
theorem k_X0_readNested {l : Launch} {G : pm_G} {H0 : Heap} {th : Nat} {a1 : Nat} {a2 : Int32} {M : pm_M} {Post : pm_M → Prop} (t_th : pm_is M th 0) (t_a1 : pm_is M a1 3) (hw : w_X0_readNested th a1 a2 M Post) : pm_C l G H0 yX0_readNested cX0_readNested 4 none rm_X0_readNested [.ref (H0.size + th), .ref (H0.size + a1), .int a2] M (pm_Pv Post) := by
  refine pm_start (by decide +kernel) (Nat.le_of_ble_eq_true rfl) ?_
  intro p e s m args below meth c H ls E hret hnm hI hl
  have hX : pm_X M M := pm_X.rf
  have hl : lv_has ls 4 [(0, .ref (H0.size + th)), (1, .ref (H0.size + a1)), (2, .int a2)] := hl
  have hx := E.1
  have hb := E.2.1
  have hown := E.2.2.2.1
  have hts := E.2.2.2.2.1
  unfold w_X0_readNested at hw
  refine lv_aload_n hx hb dX0_readNested_0 rfl (lv_at hl 0 rfl) ?_
  refine lv_aload_n hx hb dX0_readNested_1 rfl (lv_at hl 1 rfl) ?_
  refine lv_iconst (v := (0 : Int32)) hx hb dX0_readNested_2 (by decide) ?_
  refine lv_bipush (v := (40 : Int32)) hx hb dX0_readNested_3 (by decide) ?_
  refine pm_callV (As := [.int (0 : Int32), .int (40 : Int32)]) (rest := [.ref (H0.size + th)]) 2 E hI (k_X4_next t_a1 hw) t_a1 (by decide) rfl kc_X4_next kl_X0_22 km_X4_next ks_X4_next ki_X4 (by decide +kernel) ⟨by decide, by decide⟩ rfl hl.1 rfl (by first | exact Nat.le_of_ble_eq_true rfl | (simp only [List.map, pm_rf_cat]; exact Nat.le_of_ble_eq_true rfl)) dX0_readNested_5 ⟨by decide, by decide⟩ (fun r9 M_1 H locs hp hX1 hI => ?_)
  clear hw
  obtain ⟨r_2, rfl, hw⟩ := hp
  replace t_th := t_th.x hX1
  replace t_a1 := t_a1.x hX1
  replace hX := hX.tr hX1
  refine pm_nrm (cells' := 0) (slots' := 0) (g2 := F0 m 8 ls [.int r_2, .ref (H0.size + th)]) rfl rfl rfl ?_
  refine pf_X0_18 E hI t_th dX0_readNested_8 (fun H locs M_3 e_M_3 hX1 hI => ?_)
  replace hw := hw M_3 e_M_3
  replace t_th := t_th.x hX1
  replace t_a1 := t_a1.x hX1
  replace hX := hX.tr hX1
  refine lv_iconst (v := (0 : Int32)) hx hb dX0_readNested_11 (by decide) ?_
  refine lv_istore_n (lv' := [(3, .int (0 : Int32)), (0, .ref (H0.size + th)), (1, .ref (H0.size + a1)), (2, .int a2)]) hx hb dX0_readNested_12 rfl hl (by decide) rfl (fun ls hl_4 => ?_)
  obtain ⟨n_5, hw⟩ := hw
  exact c_X0_readNested_13 E hret n_5 _ _ _ _ _ hX hI t_th t_a1 (lv_sub hl_4 [1, 2, 3, 0] rfl) hw
set_option maxHeartbeats 4000000 in
set_option maxRecDepth 100000 in
theorem c_X0_lieNested_57 {p : Program} {l : Launch} {e : Env} {s : State} {m : MethodId} {args : Array Value} {below : List Frame} {meth : Method} {c : Code} {G : pm_G} {H0 : Heap} {Post : Int32 → Prop} {v0 : Nat} {v1 : Int32} {v2 : Int32} {M : pm_M} {k_2 : Int32 → Prop} {k_12 : Int32 → Prop} (E : pm_E G p s m args meth c cX0_lieNested 4 RX0) (hret : meth.sig.returnType = (some .boolean)) (hk_2 : ∀ (v1 : Int32) (H : Heap) (locs : List Loc) (ls : Array Slot), pm_I G H0 M H locs → (pm_is M v0 0) → lv_has ls 4 [(0, .ref (H0.size + v0)), (1, .int v1)] → k_2 v1 → W p l e rm_X0_lieNested s m args below meth c H locs 0 0 (pm_Z G H0 M (pm_Pi (fun r9 M9 => M = M9 ∧ Post r9)) below args s rm_X0_lieNested.cells rm_X0_lieNested.slots) (F0 m 2 ls [])) (hk_12 : ∀ (v2 : Int32) (H : Heap) (locs : List Loc) (ls : Array Slot), pm_I G H0 M H locs → (pm_is M v0 0) → lv_has ls 4 [(0, .ref (H0.size + v0)), (1, .int v1), (2, .int v2)] → k_12 v2 → W p l e rm_X0_lieNested s m args below meth c H locs 0 0 (pm_Z G H0 M (pm_Pi (fun r9 M9 => M = M9 ∧ Post r9)) below args s rm_X0_lieNested.cells rm_X0_lieNested.slots) (F0 m 12 ls [])) {H : Heap} {locs : List Loc} {ls : Array Slot} (hI : pm_I G H0 M H locs) (t_v0 : pm_is M v0 0) (hl : lv_has ls 4 [(0, .ref (H0.size + v0)), (1, .int v1), (2, .int v2)]) (hw : w_X0_lieNested_57 Post k_2 k_12 v0 v1 v2 M) : W p l e rm_X0_lieNested s m args below meth c H locs 0 0 (pm_Z G H0 M (pm_Pi (fun r9 M9 => M = M9 ∧ Post r9)) below args s rm_X0_lieNested.cells rm_X0_lieNested.slots) (F0 m 57 ls []) := by
  have hx := E.1
  have hb := E.2.1
  have hown := E.2.2.2.1
  have hts := E.2.2.2.2.1
  unfold w_X0_lieNested_57 at hw
  obtain ⟨x_1, e_x_1⟩ : ∃ z : Int32, z = v2 + (1 : Int32) := ⟨_, rfl⟩
  refine lv_iinc (v := x_1) (lv' := [(2, .int x_1), (0, .ref (H0.size + v0)), (1, .int v1)]) hx hb dX0_lieNested_57 hl (k := 2) rfl (by rw [e_x_1]; rfl) (by decide) rfl (fun ls hl_2 => ?_)
  replace hw := hw x_1 e_x_1
  refine lv_goto (tgt := 12) hx hb dX0_lieNested_60 (by decide) ?_
  exact hk_12 _ _ _ _ hI t_v0 (lv_sub hl_2 [1, 2, 0] rfl) hw
set_option maxHeartbeats 4000000 in
set_option maxRecDepth 100000 in
theorem c_X0_lieNested_12 {p : Program} {l : Launch} {e : Env} {s : State} {m : MethodId} {args : Array Value} {below : List Frame} {meth : Method} {c : Code} {G : pm_G} {H0 : Heap} {Post : Int32 → Prop} {v0 : Nat} {v1 : Int32} {M : pm_M} {k_2 : Int32 → Prop} (E : pm_E G p s m args meth c cX0_lieNested 4 RX0) (hret : meth.sig.returnType = (some .boolean)) (hk_2 : ∀ (v1 : Int32) (H : Heap) (locs : List Loc) (ls : Array Slot), pm_I G H0 M H locs → (pm_is M v0 0) → lv_has ls 4 [(0, .ref (H0.size + v0)), (1, .int v1)] → k_2 v1 → W p l e rm_X0_lieNested s m args below meth c H locs 0 0 (pm_Z G H0 M (pm_Pi (fun r9 M9 => M = M9 ∧ Post r9)) below args s rm_X0_lieNested.cells rm_X0_lieNested.slots) (F0 m 2 ls [])) : ∀ (n : Nat) (v2 : Int32) (H : Heap) (locs : List Loc) (ls : Array Slot), pm_I G H0 M H locs → (pm_is M v0 0) → lv_has ls 4 [(0, .ref (H0.size + v0)), (1, .int v1), (2, .int v2)] → w_X0_lieNested_12 Post k_2 v0 v1 M n v2 → W p l e rm_X0_lieNested s m args below meth c H locs 0 0 (pm_Z G H0 M (pm_Pi (fun r9 M9 => M = M9 ∧ Post r9)) below args s rm_X0_lieNested.cells rm_X0_lieNested.slots) (F0 m 12 ls []) := by
  have hx := E.1
  have hb := E.2.1
  have hown := E.2.2.2.1
  have hts := E.2.2.2.2.1
  intro n
  induction n with
  | zero =>
    intro v2 H locs ls hI t_v0 hl hw
    unfold w_X0_lieNested_12 at hw
    exact hw.elim
  | succ n ih =>
    intro v2 H locs ls hI t_v0 hl hw
    unfold w_X0_lieNested_12 at hw
    refine lv_iload_n hx hb dX0_lieNested_12 rfl (lv_at hl 2 rfl) ?_
    refine lv_iload_n hx hb dX0_lieNested_13 rfl (lv_at hl 1 rfl) ?_
    refine lv_icmp_ge (tgt := 63) hx hb dX0_lieNested_14 (by decide) (fun h_1 => ?_) (fun h_1 => ?_)
    · replace hw := hw.1 h_1
      obtain ⟨x_2, e_x_2⟩ : ∃ z : Int32, z = v1 + (1 : Int32) := ⟨_, rfl⟩
      refine lv_iinc (v := x_2) (lv' := [(1, .int x_2), (0, .ref (H0.size + v0)), (2, .int v2)]) hx hb dX0_lieNested_63 hl (k := 1) rfl (by rw [e_x_2]; rfl) (by decide) rfl (fun ls hl_3 => ?_)
      replace hw := hw x_2 e_x_2
      refine lv_goto (tgt := 2) hx hb dX0_lieNested_66 (by decide) ?_
      exact hk_2 _ _ _ _ hI t_v0 (lv_sub hl_3 [1, 0] rfl) hw
    · replace hw := hw.2 h_1
      refine lv_aload_n hx hb dX0_lieNested_17 rfl (lv_at hl 0 rfl) ?_
      obtain ⟨q_4, e_q_4, hw⟩ := hw
      refine gf_X0_9 E hI t_v0 dX0_lieNested_18 e_q_4 (fun t_q_4 => ?_)
      refine lv_iload_n hx hb dX0_lieNested_21 rfl (lv_at hl 1 rfl) ?_
      obtain ⟨h_5, hw⟩ := hw
      refine pm_iald E hI t_q_4 h_5 dX0_lieNested_22 ?_
      refine lv_aload_n hx hb dX0_lieNested_23 rfl (lv_at hl 0 rfl) ?_
      refine gf_X0_9 E hI t_v0 dX0_lieNested_24 e_q_4 (fun _ => ?_)
      refine lv_iload_n hx hb dX0_lieNested_27 rfl (lv_at hl 2 rfl) ?_
      obtain ⟨h_6, hw⟩ := hw
      refine pm_iald E hI t_q_4 h_6 dX0_lieNested_28 ?_
      refine lv_iand hx hb dX0_lieNested_29 ?_
      refine lv_topi (fun x_7 e_x_7 => ?_)
      replace hw := hw x_7 e_x_7
      refine lv_istore_n (lv' := [(3, .int x_7), (0, .ref (H0.size + v0)), (1, .int v1), (2, .int v2)]) hx hb dX0_lieNested_30 rfl hl (by decide) rfl (fun ls hl_8 => ?_)
      refine lv_iload_n hx hb dX0_lieNested_31 rfl (lv_at hl_8 0 rfl) ?_
      refine lv_if_eq (tgt := 57) hx hb dX0_lieNested_32 (by decide) (fun h_9 => ?_) (fun h_9 => ?_)
      · replace hw := hw.1 h_9
        exact c_X0_lieNested_57 E hret hk_2 ih hI t_v0 (lv_sub hl_8 [1, 2, 3] rfl) hw
      · replace hw := hw.2 h_9
        refine lv_iload_n hx hb dX0_lieNested_35 rfl (lv_at hl_8 0 rfl) ?_
        refine lv_aload_n hx hb dX0_lieNested_36 rfl (lv_at hl_8 1 rfl) ?_
        refine gf_X0_9 E hI t_v0 dX0_lieNested_37 e_q_4 (fun _ => ?_)
        refine lv_iload_n hx hb dX0_lieNested_40 rfl (lv_at hl_8 2 rfl) ?_
        obtain ⟨h_10, hw⟩ := hw
        refine pm_iald E hI t_q_4 h_10 dX0_lieNested_41 ?_
        refine lv_icmp_eq (tgt := 57) hx hb dX0_lieNested_42 (by decide) (fun h_11 => ?_) (fun h_11 => ?_)
        · replace hw := hw.1 h_11
          exact c_X0_lieNested_57 E hret hk_2 ih hI t_v0 (lv_sub hl_8 [1, 2, 3] rfl) hw
        · replace hw := hw.2 h_11
          refine lv_iload_n hx hb dX0_lieNested_45 rfl (lv_at hl_8 0 rfl) ?_
          refine lv_aload_n hx hb dX0_lieNested_46 rfl (lv_at hl_8 1 rfl) ?_
          refine gf_X0_9 E hI t_v0 dX0_lieNested_47 e_q_4 (fun _ => ?_)
          refine lv_iload_n hx hb dX0_lieNested_50 rfl (lv_at hl_8 3 rfl) ?_
          obtain ⟨h_12, hw⟩ := hw
          refine pm_iald E hI t_q_4 h_12 dX0_lieNested_51 ?_
          refine lv_icmp_eq (tgt := 57) hx hb dX0_lieNested_52 (by decide) (fun h_13 => ?_) (fun h_13 => ?_)
          · replace hw := hw.1 h_13
            exact c_X0_lieNested_57 E hret hk_2 ih hI t_v0 (lv_sub hl_8 [1, 2, 3] rfl) hw
          · replace hw := hw.2 h_13
            refine lv_iconst (v := (0 : Int32)) hx hb dX0_lieNested_55 (by decide) ?_
            exact pm_zret E hret hI pm_X.rf rfl ⟨_, rfl, rfl, hw⟩ (by decide) (by decide) dX0_lieNested_56
set_option maxHeartbeats 4000000 in
set_option maxRecDepth 100000 in
theorem c_X0_lieNested_2 {p : Program} {l : Launch} {e : Env} {s : State} {m : MethodId} {args : Array Value} {below : List Frame} {meth : Method} {c : Code} {G : pm_G} {H0 : Heap} {Post : Int32 → Prop} {v0 : Nat} {M : pm_M} (E : pm_E G p s m args meth c cX0_lieNested 4 RX0) (hret : meth.sig.returnType = (some .boolean)) : ∀ (n : Nat) (v1 : Int32) (H : Heap) (locs : List Loc) (ls : Array Slot), pm_I G H0 M H locs → (pm_is M v0 0) → lv_has ls 4 [(0, .ref (H0.size + v0)), (1, .int v1)] → w_X0_lieNested_2 Post v0 M n v1 → W p l e rm_X0_lieNested s m args below meth c H locs 0 0 (pm_Z G H0 M (pm_Pi (fun r9 M9 => M = M9 ∧ Post r9)) below args s rm_X0_lieNested.cells rm_X0_lieNested.slots) (F0 m 2 ls []) := by
  have hx := E.1
  have hb := E.2.1
  have hown := E.2.2.2.1
  have hts := E.2.2.2.2.1
  intro n
  induction n with
  | zero =>
    intro v1 H locs ls hI t_v0 hl hw
    unfold w_X0_lieNested_2 at hw
    exact hw.elim
  | succ n ih =>
    intro v1 H locs ls hI t_v0 hl hw
    unfold w_X0_lieNested_2 at hw
    refine lv_iload_n hx hb dX0_lieNested_2 rfl (lv_at hl 1 rfl) ?_
    refine lv_aload_n hx hb dX0_lieNested_3 rfl (lv_at hl 0 rfl) ?_
    refine gf_X0_18 E hI t_v0 dX0_lieNested_4 ?_
    refine lv_icmp_ge (tgt := 69) hx hb dX0_lieNested_7 (by decide) (fun h_1 => ?_) (fun h_1 => ?_)
    · replace hw := hw.1 h_1
      refine lv_iconst (v := (1 : Int32)) hx hb dX0_lieNested_69 (by decide) ?_
      exact pm_zret E hret hI pm_X.rf rfl ⟨_, rfl, rfl, hw⟩ (by decide) (by decide) dX0_lieNested_70
    · replace hw := hw.2 h_1
      refine lv_iconst (v := (0 : Int32)) hx hb dX0_lieNested_10 (by decide) ?_
      refine lv_istore_n (lv' := [(2, .int (0 : Int32)), (0, .ref (H0.size + v0)), (1, .int v1)]) hx hb dX0_lieNested_11 rfl hl (by decide) rfl (fun ls hl_2 => ?_)
      obtain ⟨n_3, hw⟩ := hw
      exact c_X0_lieNested_12 E hret ih n_3 _ _ _ _ hI t_v0 (lv_sub hl_2 [1, 2, 0] rfl) hw
set_option maxHeartbeats 4000000 in
set_option maxRecDepth 100000 in
theorem k_X0_lieNested {l : Launch} {G : pm_G} {H0 : Heap} {th : Nat} {M : pm_M} {Post : Int32 → Prop} (t_th : pm_is M th 0) (hw : w_X0_lieNested th M Post) : pm_C l G H0 yX0_lieNested cX0_lieNested 4 (some .boolean) rm_X0_lieNested [.ref (H0.size + th)] M (pm_Pi (fun r9 M9 => M = M9 ∧ Post r9)) := by
  refine pm_start (by decide +kernel) (Nat.le_of_ble_eq_true rfl) ?_
  intro p e s m args below meth c H ls E hret hnm hI hl
  have hl : lv_has ls 4 [(0, .ref (H0.size + th))] := hl
  have hx := E.1
  have hb := E.2.1
  have hown := E.2.2.2.1
  have hts := E.2.2.2.2.1
  unfold w_X0_lieNested at hw
  refine lv_iconst (v := (0 : Int32)) hx hb dX0_lieNested_0 (by decide) ?_
  refine lv_istore_n (lv' := [(1, .int (0 : Int32)), (0, .ref (H0.size + th))]) hx hb dX0_lieNested_1 rfl hl (by decide) rfl (fun ls hl_1 => ?_)
  obtain ⟨n_2, hw⟩ := hw
  exact c_X0_lieNested_2 E hret n_2 _ _ _ _ hI t_th (lv_sub hl_1 [1, 0] rfl) hw
set_option maxHeartbeats 4000000 in
set_option maxRecDepth 100000 in
theorem k_J6_bitCount_0f7a4 {l : Launch} {G : pm_G} {H0 : Heap} {a0 : Int32} {M : pm_M} {Post : Int32 → Prop} (hw : w_J6_bitCount_0f7a4 a0 M Post) : pm_C l G H0 yJ6_bitCount_0f7a4 cJ6_bitCount_0f7a4 1 (some .int) rm_J6_bitCount_0f7a4 [.int a0] M (pm_Pi (fun r9 M9 => M = M9 ∧ Post r9)) := by
  refine pm_startF (by decide +kernel) (Nat.le_of_ble_eq_true rfl) ?_
  intro p e s m args below meth c H ls E hret hnm hI hl
  have hl : lv_has ls 1 [(0, .int a0)] := hl
  have hx := E.1
  have hb := E.2.1
  have hown := E.2.2.2.1
  have hts := E.2.2.2.2.1
  unfold w_J6_bitCount_0f7a4 at hw
  refine lv_iload_n hx hb dJ6_bitCount_0f7a4_0 rfl (lv_at hl 0 rfl) ?_
  refine lv_iload_n hx hb dJ6_bitCount_0f7a4_1 rfl (lv_at hl 0 rfl) ?_
  refine lv_iconst (v := (1 : Int32)) hx hb dJ6_bitCount_0f7a4_2 (by decide) ?_
  refine lv_iushr hx hb dJ6_bitCount_0f7a4_3 rfl ?_
  refine lv_ldcw (v := (1431655765 : Int32)) hx hb hown (hts _ kl_J6_265) dJ6_bitCount_0f7a4_4 ?_
  refine lv_iand hx hb dJ6_bitCount_0f7a4_7 ?_
  refine lv_isub hx hb dJ6_bitCount_0f7a4_8 ?_
  refine lv_topi (fun x_1 e_x_1 => ?_)
  replace hw := hw x_1 e_x_1
  refine lv_istore_n (lv' := [(0, .int x_1)]) hx hb dJ6_bitCount_0f7a4_9 rfl hl (by decide) rfl (fun ls hl_2 => ?_)
  refine lv_iload_n hx hb dJ6_bitCount_0f7a4_10 rfl (lv_at hl_2 0 rfl) ?_
  refine lv_ldcw (v := (858993459 : Int32)) hx hb hown (hts _ kl_J6_266) dJ6_bitCount_0f7a4_11 ?_
  refine lv_iand hx hb dJ6_bitCount_0f7a4_14 ?_
  refine lv_iload_n hx hb dJ6_bitCount_0f7a4_15 rfl (lv_at hl_2 0 rfl) ?_
  refine lv_iconst (v := (2 : Int32)) hx hb dJ6_bitCount_0f7a4_16 (by decide) ?_
  refine lv_iushr hx hb dJ6_bitCount_0f7a4_17 rfl ?_
  refine lv_ldcw (v := (858993459 : Int32)) hx hb hown (hts _ kl_J6_266) dJ6_bitCount_0f7a4_18 ?_
  refine lv_iand hx hb dJ6_bitCount_0f7a4_21 ?_
  refine lv_iadd hx hb dJ6_bitCount_0f7a4_22 ?_
  refine lv_topi (fun x_3 e_x_3 => ?_)
  replace hw := hw x_3 e_x_3
  refine lv_istore_n (lv' := [(0, .int x_3)]) hx hb dJ6_bitCount_0f7a4_23 rfl hl_2 (by decide) rfl (fun ls hl_4 => ?_)
  refine lv_iload_n hx hb dJ6_bitCount_0f7a4_24 rfl (lv_at hl_4 0 rfl) ?_
  refine lv_iload_n hx hb dJ6_bitCount_0f7a4_25 rfl (lv_at hl_4 0 rfl) ?_
  refine lv_iconst (v := (4 : Int32)) hx hb dJ6_bitCount_0f7a4_26 (by decide) ?_
  refine lv_iushr hx hb dJ6_bitCount_0f7a4_27 rfl ?_
  refine lv_iadd hx hb dJ6_bitCount_0f7a4_28 ?_
  refine lv_ldcw (v := (252645135 : Int32)) hx hb hown (hts _ kl_J6_267) dJ6_bitCount_0f7a4_29 ?_
  refine lv_iand hx hb dJ6_bitCount_0f7a4_32 ?_
  refine lv_topi (fun x_5 e_x_5 => ?_)
  replace hw := hw x_5 e_x_5
  refine lv_istore_n (lv' := [(0, .int x_5)]) hx hb dJ6_bitCount_0f7a4_33 rfl hl_4 (by decide) rfl (fun ls hl_6 => ?_)
  refine lv_iload_n hx hb dJ6_bitCount_0f7a4_34 rfl (lv_at hl_6 0 rfl) ?_
  refine lv_iload_n hx hb dJ6_bitCount_0f7a4_35 rfl (lv_at hl_6 0 rfl) ?_
  refine lv_bipush (v := (8 : Int32)) hx hb dJ6_bitCount_0f7a4_36 (by decide) ?_
  refine lv_iushr hx hb dJ6_bitCount_0f7a4_38 rfl ?_
  refine lv_iadd hx hb dJ6_bitCount_0f7a4_39 ?_
  refine lv_topi (fun x_7 e_x_7 => ?_)
  replace hw := hw x_7 e_x_7
  refine lv_istore_n (lv' := [(0, .int x_7)]) hx hb dJ6_bitCount_0f7a4_40 rfl hl_6 (by decide) rfl (fun ls hl_8 => ?_)
  refine lv_iload_n hx hb dJ6_bitCount_0f7a4_41 rfl (lv_at hl_8 0 rfl) ?_
  refine lv_iload_n hx hb dJ6_bitCount_0f7a4_42 rfl (lv_at hl_8 0 rfl) ?_
  refine lv_bipush (v := (16 : Int32)) hx hb dJ6_bitCount_0f7a4_43 (by decide) ?_
  refine lv_iushr hx hb dJ6_bitCount_0f7a4_45 rfl ?_
  refine lv_iadd hx hb dJ6_bitCount_0f7a4_46 ?_
  refine lv_topi (fun x_9 e_x_9 => ?_)
  replace hw := hw x_9 e_x_9
  refine lv_istore_n (lv' := [(0, .int x_9)]) hx hb dJ6_bitCount_0f7a4_47 rfl hl_8 (by decide) rfl (fun ls hl_10 => ?_)
  refine lv_iload_n hx hb dJ6_bitCount_0f7a4_48 rfl (lv_at hl_10 0 rfl) ?_
  refine lv_bipush (v := (63 : Int32)) hx hb dJ6_bitCount_0f7a4_49 (by decide) ?_
  refine lv_iand hx hb dJ6_bitCount_0f7a4_51 ?_
  exact pm_iret E hret hI pm_X.rf ⟨_, rfl, rfl, hw⟩ (by decide) (by decide) dJ6_bitCount_0f7a4_52
set_option maxHeartbeats 4000000 in
set_option maxRecDepth 100000 in
theorem c_X0_fits_2 {p : Program} {l : Launch} {e : Env} {s : State} {m : MethodId} {args : Array Value} {below : List Frame} {meth : Method} {c : Code} {G : pm_G} {H0 : Heap} {Post : Int32 → Prop} {v0 : Nat} {v1 : Int32} {M : pm_M} (E : pm_E G p s m args meth c cX0_fits 3 RX0) (hret : meth.sig.returnType = (some .boolean)) : ∀ (n : Nat) (v2 : Int32) (H : Heap) (locs : List Loc) (ls : Array Slot), pm_I G H0 M H locs → (pm_is M v0 0) → lv_has ls 3 [(0, .ref (H0.size + v0)), (1, .int v1), (2, .int v2)] → w_X0_fits_2 Post v0 v1 M n v2 → W p l e rm_X0_fits s m args below meth c H locs 0 0 (pm_Z G H0 M (pm_Pi (fun r9 M9 => M = M9 ∧ Post r9)) below args s rm_X0_fits.cells rm_X0_fits.slots) (F0 m 2 ls []) := by
  have hx := E.1
  have hb := E.2.1
  have hown := E.2.2.2.1
  have hts := E.2.2.2.2.1
  intro n
  induction n with
  | zero =>
    intro v2 H locs ls hI t_v0 hl hw
    unfold w_X0_fits_2 at hw
    exact hw.elim
  | succ n ih =>
    intro v2 H locs ls hI t_v0 hl hw
    unfold w_X0_fits_2 at hw
    refine lv_iload_n hx hb dX0_fits_2 rfl (lv_at hl 2 rfl) ?_
    refine lv_aload_n hx hb dX0_fits_3 rfl (lv_at hl 0 rfl) ?_
    refine gf_X0_18 E hI t_v0 dX0_fits_4 ?_
    refine lv_icmp_ge (tgt := 38) hx hb dX0_fits_7 (by decide) (fun h_1 => ?_) (fun h_1 => ?_)
    · replace hw := hw.1 h_1
      refine lv_iconst (v := (1 : Int32)) hx hb dX0_fits_38 (by decide) ?_
      exact pm_zret E hret hI pm_X.rf rfl ⟨_, rfl, rfl, hw⟩ (by decide) (by decide) dX0_fits_39
    · replace hw := hw.2 h_1
      refine lv_iload_n hx hb dX0_fits_10 rfl (lv_at hl 1 rfl) ?_
      refine lv_aload_n hx hb dX0_fits_11 rfl (lv_at hl 0 rfl) ?_
      obtain ⟨q_2, e_q_2, hw⟩ := hw
      refine gf_X0_9 E hI t_v0 dX0_fits_12 e_q_2 (fun t_q_2 => ?_)
      refine lv_iload_n hx hb dX0_fits_15 rfl (lv_at hl 2 rfl) ?_
      obtain ⟨h_3, hw⟩ := hw
      refine pm_iald E hI t_q_2 h_3 dX0_fits_16 ?_
      refine lv_iand hx hb dX0_fits_17 ?_
      refine pm_callS (As := [.int (v1 &&& (mI M q_2 v2.toNatClampNeg))]) (rest := []) 1 E hI (k_J6_bitCount_0f7a4 hw) kc_J6_bitCount_0f7a4 kl_X0_33 kt_J6_bitCount_0f7a4 ki_J6 (by decide +kernel) ⟨by decide, by decide⟩ rfl hl.1 rfl (by first | exact Nat.le_of_ble_eq_true rfl | (simp only [List.map, pm_rf_cat]; exact Nat.le_of_ble_eq_true rfl)) dX0_fits_18 ⟨by decide, by decide⟩ (fun r9 M9 H locs hp hX1 hI => ?_)
      clear hw
      obtain ⟨r_4, rfl, rfl, hw⟩ := hp
      refine pm_nrm (cells' := 0) (slots' := 0) (g2 := F0 m 21 ls [.int r_4]) rfl rfl rfl ?_
      refine lv_aload_n hx hb dX0_fits_21 rfl (lv_at hl 0 rfl) ?_
      obtain ⟨q_5, e_q_5, hw⟩ := hw
      refine gf_X0_15 E hI t_v0 dX0_fits_22 e_q_5 (fun t_q_5 => ?_)
      refine lv_iload_n hx hb dX0_fits_25 rfl (lv_at hl 2 rfl) ?_
      obtain ⟨h_6, hw⟩ := hw
      refine pm_iald E hI t_q_5 h_6 dX0_fits_26 ?_
      refine lv_icmp_le (tgt := 32) hx hb dX0_fits_27 (by decide) (fun h_7 => ?_) (fun h_7 => ?_)
      · replace hw := hw.1 h_7
        obtain ⟨x_8, e_x_8⟩ : ∃ z : Int32, z = v2 + (1 : Int32) := ⟨_, rfl⟩
        refine lv_iinc (v := x_8) (lv' := [(2, .int x_8), (0, .ref (H0.size + v0)), (1, .int v1)]) hx hb dX0_fits_32 hl (k := 2) rfl (by rw [e_x_8]; rfl) (by decide) rfl (fun ls hl_9 => ?_)
        replace hw := hw x_8 e_x_8
        refine lv_goto (tgt := 2) hx hb dX0_fits_35 (by decide) ?_
        exact ih _ _ _ _ hI t_v0 (lv_sub hl_9 [1, 2, 0] rfl) hw
      · replace hw := hw.2 h_7
        refine lv_iconst (v := (0 : Int32)) hx hb dX0_fits_30 (by decide) ?_
        exact pm_zret E hret hI pm_X.rf rfl ⟨_, rfl, rfl, hw⟩ (by decide) (by decide) dX0_fits_31
set_option maxHeartbeats 4000000 in
set_option maxRecDepth 100000 in
theorem k_X0_fits {l : Launch} {G : pm_G} {H0 : Heap} {th : Nat} {a1 : Int32} {M : pm_M} {Post : Int32 → Prop} (t_th : pm_is M th 0) (hw : w_X0_fits th a1 M Post) : pm_C l G H0 yX0_fits cX0_fits 3 (some .boolean) rm_X0_fits [.ref (H0.size + th), .int a1] M (pm_Pi (fun r9 M9 => M = M9 ∧ Post r9)) := by
  refine pm_start (by decide +kernel) (Nat.le_of_ble_eq_true rfl) ?_
  intro p e s m args below meth c H ls E hret hnm hI hl
  have hl : lv_has ls 3 [(0, .ref (H0.size + th)), (1, .int a1)] := hl
  have hx := E.1
  have hb := E.2.1
  have hown := E.2.2.2.1
  have hts := E.2.2.2.2.1
  unfold w_X0_fits at hw
  refine lv_iconst (v := (0 : Int32)) hx hb dX0_fits_0 (by decide) ?_
  refine lv_istore_n (lv' := [(2, .int (0 : Int32)), (0, .ref (H0.size + th)), (1, .int a1)]) hx hb dX0_fits_1 rfl hl (by decide) rfl (fun ls hl_1 => ?_)
  obtain ⟨n_2, hw⟩ := hw
  exact c_X0_fits_2 E hret n_2 _ _ _ _ hI t_th (lv_sub hl_1 [1, 2, 0] rfl) hw
set_option maxHeartbeats 4000000 in
set_option maxRecDepth 100000 in
theorem k_X2_init {l : Launch} {G : pm_G} {H0 : Heap} {th : Nat} {a1 : Int32} {a2 : Nat} {a3 : Nat} {a4 : Int32} {a5 : Int32} {M : pm_M} {Post : pm_M → Prop} (t_th : pm_is M th 1) (t_a2 : pm_is M a2 4) (t_a3 : pm_is M a3 4) (hw : w_X2_init th a1 a2 a3 a4 a5 M Post) : pm_C l G H0 yX2_init cX2_init 6 none rm_X2_init [.ref (H0.size + th), .int a1, .ref (H0.size + a2), .ref (H0.size + a3), .int a4, .int a5] M (pm_Pv Post) := by
  refine pm_start (by decide +kernel) (Nat.le_of_ble_eq_true rfl) ?_
  intro p e s m args below meth c H ls E hret hnm hI hl
  have hX : pm_X M M := pm_X.rf
  have hl : lv_has ls 6 [(0, .ref (H0.size + th)), (1, .int a1), (2, .ref (H0.size + a2)), (3, .ref (H0.size + a3)), (4, .int a4), (5, .int a5)] := hl
  have hx := E.1
  have hb := E.2.1
  have hown := E.2.2.2.1
  have hts := E.2.2.2.2.1
  unfold w_X2_init at hw
  refine lv_aload_n hx hb dX2_init_0 rfl (lv_at hl 0 rfl) ?_
  refine pm_objInit E hl.1 kl_X2_3 ko_init ko_code dX2_init_1 (by decide) (Nat.le_of_ble_eq_true rfl) ?_
  refine lv_aload_n hx hb dX2_init_4 rfl (lv_at hl 0 rfl) ?_
  refine lv_iload_n hx hb dX2_init_5 rfl (lv_at hl 1 rfl) ?_
  refine pf_X2_9 E hI t_th dX2_init_6 hnm (fun H locs M_1 e_M_1 hX1 hI => ?_)
  replace hw := hw M_1 e_M_1
  replace t_th := t_th.x hX1
  replace t_a2 := t_a2.x hX1
  replace t_a3 := t_a3.x hX1
  replace hX := hX.tr hX1
  refine lv_aload_n hx hb dX2_init_9 rfl (lv_at hl 0 rfl) ?_
  refine lv_aload_n hx hb dX2_init_10 rfl (lv_at hl 2 rfl) ?_
  refine pf_X2_15 E hI t_th dX2_init_11 hnm t_a2 (fun H locs M_2 e_M_2 hX1 hI => ?_)
  replace hw := hw M_2 e_M_2
  replace t_th := t_th.x hX1
  replace t_a2 := t_a2.x hX1
  replace t_a3 := t_a3.x hX1
  replace hX := hX.tr hX1
  refine lv_aload_n hx hb dX2_init_14 rfl (lv_at hl 0 rfl) ?_
  refine lv_aload_n hx hb dX2_init_15 rfl (lv_at hl 3 rfl) ?_
  refine pf_X2_19 E hI t_th dX2_init_16 hnm t_a3 (fun H locs M_3 e_M_3 hX1 hI => ?_)
  replace hw := hw M_3 e_M_3
  replace t_th := t_th.x hX1
  replace t_a2 := t_a2.x hX1
  replace t_a3 := t_a3.x hX1
  replace hX := hX.tr hX1
  refine lv_aload_n hx hb dX2_init_19 rfl (lv_at hl 0 rfl) ?_
  refine lv_iload hx hb dX2_init_20 (lv_at hl 4 rfl) ?_
  refine pf_X2_22 E hI t_th dX2_init_22 hnm (fun H locs M_4 e_M_4 hX1 hI => ?_)
  replace hw := hw M_4 e_M_4
  replace t_th := t_th.x hX1
  replace t_a2 := t_a2.x hX1
  replace t_a3 := t_a3.x hX1
  replace hX := hX.tr hX1
  refine lv_aload_n hx hb dX2_init_25 rfl (lv_at hl 0 rfl) ?_
  refine lv_iload hx hb dX2_init_26 (lv_at hl 5 rfl) ?_
  refine pf_X2_25 E hI t_th dX2_init_28 hnm (fun H locs M_5 e_M_5 hX1 hI => ?_)
  replace hw := hw M_5 e_M_5
  replace t_th := t_th.x hX1
  replace t_a2 := t_a2.x hX1
  replace t_a3 := t_a3.x hX1
  replace hX := hX.tr hX1
  exact pm_vret E hret hI hX ⟨rfl, hw⟩ (by decide) (by decide) dX2_init_31
set_option maxHeartbeats 4000000 in
set_option maxRecDepth 100000 in
theorem c_X5_rankOf_23 {p : Program} {l : Launch} {e : Env} {s : State} {m : MethodId} {args : Array Value} {below : List Frame} {meth : Method} {c : Code} {G : pm_G} {H0 : Heap} {Post : Int32 → Prop} {s0 : Int32} {M : pm_M} (E : pm_E G p s m args meth c cX5_rankOf 2 RX5) (hret : meth.sig.returnType = (some .int)) {H : Heap} {locs : List Loc} {ls : Array Slot} (hI : pm_I G H0 M H locs) (hl : lv_has ls 2 []) (hw : w_X5_rankOf_23 Post s0 M) : W p l e rm_X5_rankOf s m args below meth c H locs 0 0 (pm_Z G H0 M (pm_Pi (fun r9 M9 => M = M9 ∧ Post r9)) below args s rm_X5_rankOf.cells rm_X5_rankOf.slots) (F0 m 23 ls [.int s0]) := by
  have hx := E.1
  have hb := E.2.1
  have hown := E.2.2.2.1
  have hts := E.2.2.2.2.1
  unfold w_X5_rankOf_23 at hw
  exact pm_iret E hret hI pm_X.rf ⟨_, rfl, rfl, hw⟩ (by decide) (by decide) dX5_rankOf_23
set_option maxHeartbeats 4000000 in
set_option maxRecDepth 100000 in
theorem c_X5_rankOf_22 {p : Program} {l : Launch} {e : Env} {s : State} {m : MethodId} {args : Array Value} {below : List Frame} {meth : Method} {c : Code} {G : pm_G} {H0 : Heap} {Post : Int32 → Prop} {M : pm_M} (E : pm_E G p s m args meth c cX5_rankOf 2 RX5) (hret : meth.sig.returnType = (some .int)) {H : Heap} {locs : List Loc} {ls : Array Slot} (hI : pm_I G H0 M H locs) (hl : lv_has ls 2 []) (hw : w_X5_rankOf_22 Post M) : W p l e rm_X5_rankOf s m args below meth c H locs 0 0 (pm_Z G H0 M (pm_Pi (fun r9 M9 => M = M9 ∧ Post r9)) below args s rm_X5_rankOf.cells rm_X5_rankOf.slots) (F0 m 22 ls []) := by
  have hx := E.1
  have hb := E.2.1
  have hown := E.2.2.2.1
  have hts := E.2.2.2.2.1
  unfold w_X5_rankOf_22 at hw
  refine lv_iconst (v := (0 : Int32)) hx hb dX5_rankOf_22 (by decide) ?_
  exact c_X5_rankOf_23 E hret hI (lv_sub hl [] rfl) hw
set_option maxHeartbeats 4000000 in
set_option maxRecDepth 100000 in
theorem k_X5_rankOf {l : Launch} {G : pm_G} {H0 : Heap} {th : Nat} {a1 : Int32} {M : pm_M} {Post : Int32 → Prop} (t_th : pm_is M th 4) (hw : w_X5_rankOf th a1 M Post) : pm_C l G H0 yX5_rankOf cX5_rankOf 2 (some .int) rm_X5_rankOf [.ref (H0.size + th), .int a1] M (pm_Pi (fun r9 M9 => M = M9 ∧ Post r9)) := by
  refine pm_start (by decide +kernel) (Nat.le_of_ble_eq_true rfl) ?_
  intro p e s m args below meth c H ls E hret hnm hI hl
  have hl : lv_has ls 2 [(0, .ref (H0.size + th)), (1, .int a1)] := hl
  have hx := E.1
  have hb := E.2.1
  have hown := E.2.2.2.1
  have hts := E.2.2.2.2.1
  unfold w_X5_rankOf at hw
  refine lv_iload_n hx hb dX5_rankOf_0 rfl (lv_at hl 1 rfl) ?_
  refine lv_if_lt (tgt := 22) hx hb dX5_rankOf_1 (by decide) (fun h_1 => ?_) (fun h_1 => ?_)
  · replace hw := hw.1 h_1
    exact c_X5_rankOf_22 E hret hI (lv_sub hl [] rfl) hw
  · replace hw := hw.2 h_1
    refine lv_iload_n hx hb dX5_rankOf_4 rfl (lv_at hl 1 rfl) ?_
    refine lv_aload_n hx hb dX5_rankOf_5 rfl (lv_at hl 0 rfl) ?_
    obtain ⟨q_2, e_q_2, hw⟩ := hw
    refine gf_X5_9 E hI t_th dX5_rankOf_6 e_q_2 (fun t_q_2 => ?_)
    refine ps_alenB E hI t_q_2 dX5_rankOf_9 ?_
    refine lv_icmp_ge (tgt := 22) hx hb dX5_rankOf_10 (by decide) (fun h_3 => ?_) (fun h_3 => ?_)
    · replace hw := hw.1 h_3
      exact c_X5_rankOf_22 E hret hI (lv_sub hl [] rfl) hw
    · replace hw := hw.2 h_3
      refine lv_aload_n hx hb dX5_rankOf_13 rfl (lv_at hl 0 rfl) ?_
      refine gf_X5_9 E hI t_th dX5_rankOf_14 e_q_2 (fun _ => ?_)
      refine lv_iload_n hx hb dX5_rankOf_17 rfl (lv_at hl 1 rfl) ?_
      obtain ⟨h_4, hw⟩ := hw
      refine pm_bald E hI t_q_2 h_4 dX5_rankOf_18 ?_
      refine lv_goto (tgt := 23) hx hb dX5_rankOf_19 (by decide) ?_
      exact c_X5_rankOf_23 E hret hI (lv_sub hl [] rfl) hw
set_option maxHeartbeats 4000000 in
set_option maxRecDepth 100000 in
theorem c_X2_fits_168 {p : Program} {l : Launch} {e : Env} {s : State} {m : MethodId} {args : Array Value} {below : List Frame} {meth : Method} {c : Code} {G : pm_G} {H0 : Heap} {Post : Int32 → Prop} {s0 : Int32} {M : pm_M} (E : pm_E G p s m args meth c cX2_fits 3 RX2) (hret : meth.sig.returnType = (some .boolean)) {H : Heap} {locs : List Loc} {ls : Array Slot} (hI : pm_I G H0 M H locs) (hl : lv_has ls 3 []) (hw : w_X2_fits_168 Post s0 M) : W p l e rm_X2_fits s m args below meth c H locs 0 0 (pm_Z G H0 M (pm_Pi (fun r9 M9 => M = M9 ∧ Post r9)) below args s rm_X2_fits.cells rm_X2_fits.slots) (F0 m 168 ls [.int s0]) := by
  have hx := E.1
  have hb := E.2.1
  have hown := E.2.2.2.1
  have hts := E.2.2.2.2.1
  unfold w_X2_fits_168 at hw
  exact pm_zret E hret hI pm_X.rf (pm_nb hw.1) ⟨_, rfl, rfl, hw.2⟩ (by decide) (by decide) dX2_fits_168
set_option maxHeartbeats 4000000 in
set_option maxRecDepth 100000 in
theorem c_X2_fits_141 {p : Program} {l : Launch} {e : Env} {s : State} {m : MethodId} {args : Array Value} {below : List Frame} {meth : Method} {c : Code} {G : pm_G} {H0 : Heap} {Post : Int32 → Prop} {s0 : Int32} {M : pm_M} (E : pm_E G p s m args meth c cX2_fits 3 RX2) (hret : meth.sig.returnType = (some .boolean)) {H : Heap} {locs : List Loc} {ls : Array Slot} (hI : pm_I G H0 M H locs) (hl : lv_has ls 3 []) (hw : w_X2_fits_141 Post s0 M) : W p l e rm_X2_fits s m args below meth c H locs 0 0 (pm_Z G H0 M (pm_Pi (fun r9 M9 => M = M9 ∧ Post r9)) below args s rm_X2_fits.cells rm_X2_fits.slots) (F0 m 141 ls [.int s0]) := by
  have hx := E.1
  have hb := E.2.1
  have hown := E.2.2.2.1
  have hts := E.2.2.2.2.1
  unfold w_X2_fits_141 at hw
  exact pm_zret E hret hI pm_X.rf (pm_nb hw.1) ⟨_, rfl, rfl, hw.2⟩ (by decide) (by decide) dX2_fits_141
set_option maxHeartbeats 4000000 in
set_option maxRecDepth 100000 in
theorem c_X2_fits_106 {p : Program} {l : Launch} {e : Env} {s : State} {m : MethodId} {args : Array Value} {below : List Frame} {meth : Method} {c : Code} {G : pm_G} {H0 : Heap} {Post : Int32 → Prop} {s0 : Int32} {M : pm_M} (E : pm_E G p s m args meth c cX2_fits 3 RX2) (hret : meth.sig.returnType = (some .boolean)) {H : Heap} {locs : List Loc} {ls : Array Slot} (hI : pm_I G H0 M H locs) (hl : lv_has ls 3 []) (hw : w_X2_fits_106 Post s0 M) : W p l e rm_X2_fits s m args below meth c H locs 0 0 (pm_Z G H0 M (pm_Pi (fun r9 M9 => M = M9 ∧ Post r9)) below args s rm_X2_fits.cells rm_X2_fits.slots) (F0 m 106 ls [.int s0]) := by
  have hx := E.1
  have hb := E.2.1
  have hown := E.2.2.2.1
  have hts := E.2.2.2.2.1
  unfold w_X2_fits_106 at hw
  exact pm_zret E hret hI pm_X.rf (pm_nb hw.1) ⟨_, rfl, rfl, hw.2⟩ (by decide) (by decide) dX2_fits_106
set_option maxHeartbeats 4000000 in
set_option maxRecDepth 100000 in
theorem c_X2_fits_105 {p : Program} {l : Launch} {e : Env} {s : State} {m : MethodId} {args : Array Value} {below : List Frame} {meth : Method} {c : Code} {G : pm_G} {H0 : Heap} {Post : Int32 → Prop} {M : pm_M} (E : pm_E G p s m args meth c cX2_fits 3 RX2) (hret : meth.sig.returnType = (some .boolean)) {H : Heap} {locs : List Loc} {ls : Array Slot} (hI : pm_I G H0 M H locs) (hl : lv_has ls 3 []) (hw : w_X2_fits_105 Post M) : W p l e rm_X2_fits s m args below meth c H locs 0 0 (pm_Z G H0 M (pm_Pi (fun r9 M9 => M = M9 ∧ Post r9)) below args s rm_X2_fits.cells rm_X2_fits.slots) (F0 m 105 ls []) := by
  have hx := E.1
  have hb := E.2.1
  have hown := E.2.2.2.1
  have hts := E.2.2.2.2.1
  unfold w_X2_fits_105 at hw
  refine lv_iconst (v := (0 : Int32)) hx hb dX2_fits_105 (by decide) ?_
  exact c_X2_fits_106 E hret hI (lv_sub hl [] rfl) hw
set_option maxHeartbeats 4000000 in
set_option maxRecDepth 100000 in
theorem c_X2_fits_62 {p : Program} {l : Launch} {e : Env} {s : State} {m : MethodId} {args : Array Value} {below : List Frame} {meth : Method} {c : Code} {G : pm_G} {H0 : Heap} {Post : Int32 → Prop} {s0 : Int32} {M : pm_M} (E : pm_E G p s m args meth c cX2_fits 3 RX2) (hret : meth.sig.returnType = (some .boolean)) {H : Heap} {locs : List Loc} {ls : Array Slot} (hI : pm_I G H0 M H locs) (hl : lv_has ls 3 []) (hw : w_X2_fits_62 Post s0 M) : W p l e rm_X2_fits s m args below meth c H locs 0 0 (pm_Z G H0 M (pm_Pi (fun r9 M9 => M = M9 ∧ Post r9)) below args s rm_X2_fits.cells rm_X2_fits.slots) (F0 m 62 ls [.int s0]) := by
  have hx := E.1
  have hb := E.2.1
  have hown := E.2.2.2.1
  have hts := E.2.2.2.2.1
  unfold w_X2_fits_62 at hw
  exact pm_zret E hret hI pm_X.rf (pm_nb hw.1) ⟨_, rfl, rfl, hw.2⟩ (by decide) (by decide) dX2_fits_62
set_option maxHeartbeats 4000000 in
set_option maxRecDepth 100000 in
theorem c_X2_fits_61 {p : Program} {l : Launch} {e : Env} {s : State} {m : MethodId} {args : Array Value} {below : List Frame} {meth : Method} {c : Code} {G : pm_G} {H0 : Heap} {Post : Int32 → Prop} {M : pm_M} (E : pm_E G p s m args meth c cX2_fits 3 RX2) (hret : meth.sig.returnType = (some .boolean)) {H : Heap} {locs : List Loc} {ls : Array Slot} (hI : pm_I G H0 M H locs) (hl : lv_has ls 3 []) (hw : w_X2_fits_61 Post M) : W p l e rm_X2_fits s m args below meth c H locs 0 0 (pm_Z G H0 M (pm_Pi (fun r9 M9 => M = M9 ∧ Post r9)) below args s rm_X2_fits.cells rm_X2_fits.slots) (F0 m 61 ls []) := by
  have hx := E.1
  have hb := E.2.1
  have hown := E.2.2.2.1
  have hts := E.2.2.2.2.1
  unfold w_X2_fits_61 at hw
  refine lv_iconst (v := (0 : Int32)) hx hb dX2_fits_61 (by decide) ?_
  exact c_X2_fits_62 E hret hI (lv_sub hl [] rfl) hw
set_option maxHeartbeats 4000000 in
set_option maxRecDepth 100000 in
theorem k_X2_fits {l : Launch} {G : pm_G} {H0 : Heap} {th : Nat} {a1 : Int32} {M : pm_M} {Post : Int32 → Prop} (t_th : pm_is M th 1) (hw : w_X2_fits th a1 M Post) : pm_C l G H0 yX2_fits cX2_fits 3 (some .boolean) rm_X2_fits [.ref (H0.size + th), .int a1] M (pm_Pi (fun r9 M9 => M = M9 ∧ Post r9)) := by
  refine pm_start (by decide +kernel) (Nat.le_of_ble_eq_true rfl) ?_
  intro p e s m args below meth c H ls E hret hnm hI hl
  have hl : lv_has ls 3 [(0, .ref (H0.size + th)), (1, .int a1)] := hl
  have hx := E.1
  have hb := E.2.1
  have hown := E.2.2.2.1
  have hts := E.2.2.2.2.1
  unfold w_X2_fits at hw
  refine lv_iload_n hx hb dX2_fits_0 rfl (lv_at hl 1 rfl) ?_
  refine pm_callS (As := [.int a1]) (rest := []) 1 E hI (k_J6_bitCount_0f7a4 hw) kc_J6_bitCount_0f7a4 kl_X2_28 kt_J6_bitCount_0f7a4 ki_J6 (by decide +kernel) ⟨by decide, by decide⟩ rfl hl.1 rfl (by first | exact Nat.le_of_ble_eq_true rfl | (simp only [List.map, pm_rf_cat]; exact Nat.le_of_ble_eq_true rfl)) dX2_fits_1 ⟨by decide, by decide⟩ (fun r9 M9 H locs hp hX1 hI => ?_)
  clear hw
  obtain ⟨r_1, rfl, rfl, hw⟩ := hp
  refine pm_nrm (cells' := 0) (slots' := 0) (g2 := F0 m 4 ls [.int r_1]) rfl rfl rfl ?_
  refine lv_istore_n (lv' := [(2, .int r_1), (0, .ref (H0.size + th)), (1, .int a1)]) hx hb dX2_fits_4 rfl hl (by decide) rfl (fun ls hl_2 => ?_)
  refine lv_aload_n hx hb dX2_fits_5 rfl (lv_at hl_2 1 rfl) ?_
  refine gf_X2_9 E hI t_th dX2_fits_6 ?_
  refine pm_cases (x := (mI M th 0)) 7 3 (fun j hj h9 => ?_) (fun h9 => ?_)
  · match j, hj, h9 with
    | 0, hj, h9 =>
      refine lv_tableIn (tgt := 36) hx hb dX2_fits_9 (by rw [h9]; decide) (by rw [h9]; decide) (by rw [h9]; rfl) (by decide) ?_
      replace hw := hw.1 h9
      refine lv_iload_n hx hb dX2_fits_36 rfl (lv_at hl_2 2 rfl) ?_
      refine lv_aload_n hx hb dX2_fits_37 rfl (lv_at hl_2 1 rfl) ?_
      refine gf_X2_22 E hI t_th dX2_fits_38 ?_
      refine lv_iand hx hb dX2_fits_41 ?_
      refine lv_if_ne (tgt := 61) hx hb dX2_fits_42 (by decide) (fun h_3 => ?_) (fun h_3 => ?_)
      · replace hw := hw.1 h_3
        exact c_X2_fits_61 E hret hI (lv_sub hl_2 [] rfl) hw
      · replace hw := hw.2 h_3
        refine lv_aload_n hx hb dX2_fits_45 rfl (lv_at hl_2 1 rfl) ?_
        obtain ⟨q_4, e_q_4, hw⟩ := hw
        refine gf_X2_15 E hI t_th dX2_fits_46 e_q_4 (fun t_q_4 => ?_)
        refine lv_iload_n hx hb dX2_fits_49 rfl (lv_at hl_2 2 rfl) ?_
        refine pm_callV (As := [.int a1]) (rest := []) 1 E hI (k_X5_rankOf t_q_4 hw) t_q_4 (by decide) rfl kc_X5_rankOf kl_X2_34 km_X5_rankOf ks_X5_rankOf ki_X5 (by decide +kernel) ⟨by decide, by decide⟩ rfl hl_2.1 rfl (by first | exact Nat.le_of_ble_eq_true rfl | (simp only [List.map, pm_rf_cat]; exact Nat.le_of_ble_eq_true rfl)) dX2_fits_50 ⟨by decide, by decide⟩ (fun r9 M9 H locs hp hX1 hI => ?_)
        clear hw
        obtain ⟨r_5, rfl, rfl, hw⟩ := hp
        refine pm_nrm (cells' := 0) (slots' := 0) (g2 := F0 m 53 ls [.int r_5]) rfl rfl rfl ?_
        refine lv_iload_n hx hb dX2_fits_53 rfl (lv_at hl_2 0 rfl) ?_
        refine lv_icmp_ne (tgt := 61) hx hb dX2_fits_54 (by decide) (fun h_6 => ?_) (fun h_6 => ?_)
        · replace hw := hw.1 h_6
          exact c_X2_fits_61 E hret hI (lv_sub hl_2 [] rfl) hw
        · replace hw := hw.2 h_6
          refine lv_iconst (v := (1 : Int32)) hx hb dX2_fits_57 (by decide) ?_
          refine lv_goto (tgt := 62) hx hb dX2_fits_58 (by decide) ?_
          exact c_X2_fits_62 E hret hI (lv_sub hl_2 [] rfl) hw
    | 1, hj, h9 =>
      refine lv_tableIn (tgt := 63) hx hb dX2_fits_9 (by rw [h9]; decide) (by rw [h9]; decide) (by rw [h9]; rfl) (by decide) ?_
      replace hw := hw.2.1 h9
      refine lv_iload_n hx hb dX2_fits_63 rfl (lv_at hl_2 2 rfl) ?_
      refine lv_aload_n hx hb dX2_fits_64 rfl (lv_at hl_2 1 rfl) ?_
      refine gf_X2_22 E hI t_th dX2_fits_65 ?_
      refine lv_iand hx hb dX2_fits_68 ?_
      refine lv_if_ne (tgt := 105) hx hb dX2_fits_69 (by decide) (fun h_7 => ?_) (fun h_7 => ?_)
      · replace hw := hw.1 h_7
        exact c_X2_fits_105 E hret hI (lv_sub hl_2 [] rfl) hw
      · replace hw := hw.2 h_7
        refine lv_aload_n hx hb dX2_fits_72 rfl (lv_at hl_2 1 rfl) ?_
        obtain ⟨q_8, e_q_8, hw⟩ := hw
        refine gf_X2_15 E hI t_th dX2_fits_73 e_q_8 (fun t_q_8 => ?_)
        refine lv_iload_n hx hb dX2_fits_76 rfl (lv_at hl_2 2 rfl) ?_
        refine lv_aload_n hx hb dX2_fits_77 rfl (lv_at hl_2 1 rfl) ?_
        refine gf_X2_22 E hI t_th dX2_fits_78 ?_
        refine lv_ior hx hb dX2_fits_81 ?_
        refine pm_callV (As := [.int (a1 ||| (mI M th 3))]) (rest := []) 1 E hI (k_X5_rankOf t_q_8 hw) t_q_8 (by decide) rfl kc_X5_rankOf kl_X2_34 km_X5_rankOf ks_X5_rankOf ki_X5 (by decide +kernel) ⟨by decide, by decide⟩ rfl hl_2.1 rfl (by first | exact Nat.le_of_ble_eq_true rfl | (simp only [List.map, pm_rf_cat]; exact Nat.le_of_ble_eq_true rfl)) dX2_fits_82 ⟨by decide, by decide⟩ (fun r9 M9 H locs hp hX1 hI => ?_)
        clear hw
        obtain ⟨r_9, rfl, rfl, hw⟩ := hp
        refine pm_nrm (cells' := 0) (slots' := 0) (g2 := F0 m 85 ls [.int r_9]) rfl rfl rfl ?_
        refine lv_aload_n hx hb dX2_fits_85 rfl (lv_at hl_2 1 rfl) ?_
        refine gf_X2_15 E hI t_th dX2_fits_86 e_q_8 (fun _ => ?_)
        refine lv_aload_n hx hb dX2_fits_89 rfl (lv_at hl_2 1 rfl) ?_
        refine gf_X2_22 E hI t_th dX2_fits_90 ?_
        refine pm_callV (As := [.int (mI M th 3)]) (rest := [.int r_9]) 1 E hI (k_X5_rankOf t_q_8 hw) t_q_8 (by decide) rfl kc_X5_rankOf kl_X2_34 km_X5_rankOf ks_X5_rankOf ki_X5 (by decide +kernel) ⟨by decide, by decide⟩ rfl hl_2.1 rfl (by first | exact Nat.le_of_ble_eq_true rfl | (simp only [List.map, pm_rf_cat]; exact Nat.le_of_ble_eq_true rfl)) dX2_fits_93 ⟨by decide, by decide⟩ (fun r9 M9 H locs hp hX1 hI => ?_)
        clear hw
        obtain ⟨r_10, rfl, rfl, hw⟩ := hp
        refine pm_nrm (cells' := 0) (slots' := 0) (g2 := F0 m 96 ls [.int r_10, .int r_9]) rfl rfl rfl ?_
        refine lv_iload_n hx hb dX2_fits_96 rfl (lv_at hl_2 0 rfl) ?_
        refine lv_iadd hx hb dX2_fits_97 ?_
        refine lv_icmp_ne (tgt := 105) hx hb dX2_fits_98 (by decide) (fun h_11 => ?_) (fun h_11 => ?_)
        · replace hw := hw.1 h_11
          exact c_X2_fits_105 E hret hI (lv_sub hl_2 [] rfl) hw
        · replace hw := hw.2 h_11
          refine lv_iconst (v := (1 : Int32)) hx hb dX2_fits_101 (by decide) ?_
          refine lv_goto (tgt := 106) hx hb dX2_fits_102 (by decide) ?_
          exact c_X2_fits_106 E hret hI (lv_sub hl_2 [] rfl) hw
    | 2, hj, h9 =>
      refine lv_tableIn (tgt := 107) hx hb dX2_fits_9 (by rw [h9]; decide) (by rw [h9]; decide) (by rw [h9]; rfl) (by decide) ?_
      replace hw := hw.2.2.1 h9
      refine lv_aload_n hx hb dX2_fits_107 rfl (lv_at hl_2 1 rfl) ?_
      obtain ⟨q_12, e_q_12, hw⟩ := hw
      refine gf_X2_15 E hI t_th dX2_fits_108 e_q_12 (fun t_q_12 => ?_)
      refine lv_aload_n hx hb dX2_fits_111 rfl (lv_at hl_2 1 rfl) ?_
      refine gf_X2_25 E hI t_th dX2_fits_112 ?_
      refine lv_iload_n hx hb dX2_fits_115 rfl (lv_at hl_2 2 rfl) ?_
      refine lv_iconst (v := (-1 : Int32)) hx hb dX2_fits_116 (by decide) ?_
      refine lv_ixor hx hb dX2_fits_117 ?_
      refine lv_iand hx hb dX2_fits_118 ?_
      refine pm_callV (As := [.int ((mI M th 4) &&& (a1 ^^^ (-1 : Int32)))]) (rest := []) 1 E hI (k_X5_rankOf t_q_12 hw) t_q_12 (by decide) rfl kc_X5_rankOf kl_X2_34 km_X5_rankOf ks_X5_rankOf ki_X5 (by decide +kernel) ⟨by decide, by decide⟩ rfl hl_2.1 rfl (by first | exact Nat.le_of_ble_eq_true rfl | (simp only [List.map, pm_rf_cat]; exact Nat.le_of_ble_eq_true rfl)) dX2_fits_119 ⟨by decide, by decide⟩ (fun r9 M9 H locs hp hX1 hI => ?_)
      clear hw
      obtain ⟨r_13, rfl, rfl, hw⟩ := hp
      refine pm_nrm (cells' := 0) (slots' := 0) (g2 := F0 m 122 ls [.int r_13]) rfl rfl rfl ?_
      refine lv_aload_n hx hb dX2_fits_122 rfl (lv_at hl_2 1 rfl) ?_
      refine gf_X2_15 E hI t_th dX2_fits_123 e_q_12 (fun _ => ?_)
      refine lv_aload_n hx hb dX2_fits_126 rfl (lv_at hl_2 1 rfl) ?_
      refine gf_X2_25 E hI t_th dX2_fits_127 ?_
      refine pm_callV (As := [.int (mI M th 4)]) (rest := [.int r_13]) 1 E hI (k_X5_rankOf t_q_12 hw) t_q_12 (by decide) rfl kc_X5_rankOf kl_X2_34 km_X5_rankOf ks_X5_rankOf ki_X5 (by decide +kernel) ⟨by decide, by decide⟩ rfl hl_2.1 rfl (by first | exact Nat.le_of_ble_eq_true rfl | (simp only [List.map, pm_rf_cat]; exact Nat.le_of_ble_eq_true rfl)) dX2_fits_130 ⟨by decide, by decide⟩ (fun r9 M9 H locs hp hX1 hI => ?_)
      clear hw
      obtain ⟨r_14, rfl, rfl, hw⟩ := hp
      refine pm_nrm (cells' := 0) (slots' := 0) (g2 := F0 m 133 ls [.int r_14, .int r_13]) rfl rfl rfl ?_
      refine lv_icmp_ne (tgt := 140) hx hb dX2_fits_133 (by decide) (fun h_15 => ?_) (fun h_15 => ?_)
      · replace hw := hw.1 h_15
        refine lv_iconst (v := (0 : Int32)) hx hb dX2_fits_140 (by decide) ?_
        exact c_X2_fits_141 E hret hI (lv_sub hl_2 [] rfl) hw
      · replace hw := hw.2 h_15
        refine lv_iconst (v := (1 : Int32)) hx hb dX2_fits_136 (by decide) ?_
        refine lv_goto (tgt := 141) hx hb dX2_fits_137 (by decide) ?_
        exact c_X2_fits_141 E hret hI (lv_sub hl_2 [] rfl) hw
    | (j + 3), hj, h9 => exact absurd hj (by omega)
  · refine lv_tableOut (tgt := 142) hx hb dX2_fits_9 (pm_out h9) (by decide) ?_
    replace hw := hw.2.2.2 h9
    refine lv_aload_n hx hb dX2_fits_142 rfl (lv_at hl_2 1 rfl) ?_
    obtain ⟨q_16, e_q_16, hw⟩ := hw
    refine gf_X2_15 E hI t_th dX2_fits_143 e_q_16 (fun t_q_16 => ?_)
    refine lv_iload_n hx hb dX2_fits_146 rfl (lv_at hl_2 2 rfl) ?_
    refine pm_callV (As := [.int a1]) (rest := []) 1 E hI (k_X5_rankOf t_q_16 hw) t_q_16 (by decide) rfl kc_X5_rankOf kl_X2_34 km_X5_rankOf ks_X5_rankOf ki_X5 (by decide +kernel) ⟨by decide, by decide⟩ rfl hl_2.1 rfl (by first | exact Nat.le_of_ble_eq_true rfl | (simp only [List.map, pm_rf_cat]; exact Nat.le_of_ble_eq_true rfl)) dX2_fits_147 ⟨by decide, by decide⟩ (fun r9 M9 H locs hp hX1 hI => ?_)
    clear hw
    obtain ⟨r_17, rfl, rfl, hw⟩ := hp
    refine pm_nrm (cells' := 0) (slots' := 0) (g2 := F0 m 150 ls [.int r_17]) rfl rfl rfl ?_
    refine lv_aload_n hx hb dX2_fits_150 rfl (lv_at hl_2 1 rfl) ?_
    obtain ⟨q_18, e_q_18, hw⟩ := hw
    refine gf_X2_19 E hI t_th dX2_fits_151 e_q_18 (fun t_q_18 => ?_)
    refine lv_iload_n hx hb dX2_fits_154 rfl (lv_at hl_2 2 rfl) ?_
    refine pm_callV (As := [.int a1]) (rest := [.int r_17]) 1 E hI (k_X5_rankOf t_q_18 hw) t_q_18 (by decide) rfl kc_X5_rankOf kl_X2_34 km_X5_rankOf ks_X5_rankOf ki_X5 (by decide +kernel) ⟨by decide, by decide⟩ rfl hl_2.1 rfl (by first | exact Nat.le_of_ble_eq_true rfl | (simp only [List.map, pm_rf_cat]; exact Nat.le_of_ble_eq_true rfl)) dX2_fits_155 ⟨by decide, by decide⟩ (fun r9 M9 H locs hp hX1 hI => ?_)
    clear hw
    obtain ⟨r_19, rfl, rfl, hw⟩ := hp
    refine pm_nrm (cells' := 0) (slots' := 0) (g2 := F0 m 158 ls [.int r_19, .int r_17]) rfl rfl rfl ?_
    refine lv_iadd hx hb dX2_fits_158 ?_
    refine lv_iload_n hx hb dX2_fits_159 rfl (lv_at hl_2 0 rfl) ?_
    refine lv_icmp_lt (tgt := 167) hx hb dX2_fits_160 (by decide) (fun h_20 => ?_) (fun h_20 => ?_)
    · replace hw := hw.1 h_20
      refine lv_iconst (v := (0 : Int32)) hx hb dX2_fits_167 (by decide) ?_
      exact c_X2_fits_168 E hret hI (lv_sub hl_2 [] rfl) hw
    · replace hw := hw.2 h_20
      refine lv_iconst (v := (1 : Int32)) hx hb dX2_fits_163 (by decide) ?_
      refine lv_goto (tgt := 168) hx hb dX2_fits_164 (by decide) ?_
      exact c_X2_fits_168 E hret hI (lv_sub hl_2 [] rfl) hw
set_option maxHeartbeats 4000000 in
set_option maxRecDepth 100000 in
theorem k_X3_init {l : Launch} {G : pm_G} {H0 : Heap} {th : Nat} {M : pm_M} {Post : pm_M → Prop} (t_th : pm_is M th 2) (hw : w_X3_init th M Post) : pm_C l G H0 yX3_init cX3_init 1 none rm_X3_init [.ref (H0.size + th)] M (pm_Pv Post) := by
  refine pm_start (by decide +kernel) (Nat.le_of_ble_eq_true rfl) ?_
  intro p e s m args below meth c H ls E hret hnm hI hl
  have hX : pm_X M M := pm_X.rf
  have hl : lv_has ls 1 [(0, .ref (H0.size + th))] := hl
  have hx := E.1
  have hb := E.2.1
  have hown := E.2.2.2.1
  have hts := E.2.2.2.2.1
  unfold w_X3_init at hw
  refine lv_aload_n hx hb dX3_init_0 rfl (lv_at hl 0 rfl) ?_
  refine pm_objInit E hl.1 kl_X3_3 ko_init ko_code dX3_init_1 (by decide) (Nat.le_of_ble_eq_true rfl) ?_
  refine lv_aload_n hx hb dX3_init_4 rfl (lv_at hl 0 rfl) ?_
  refine lv_bipush (v := (12 : Int32)) hx hb dX3_init_5 (by decide) ?_
  refine newI (N := 12) E hI (by decide) (by decide) (by decide) (by decide) (by decide) dX3_init_7 (fun H M_1 e_M_1 hX1 tn_2 hI => ?_)
  replace hw := hw M_1 e_M_1
  replace t_th := t_th.x hX1
  replace hX := hX.tr hX1
  refine pm_nrm (cells' := 1) (slots' := 12) (g2 := F0 m 9 ls [.ref (H0.size + (mZ M)), .ref (H0.size + th)]) rfl rfl rfl ?_
  refine pf_X3_9 E hI t_th dX3_init_9 hnm tn_2 (fun H locs M_3 e_M_3 hX1 hI => ?_)
  replace hw := hw M_3 e_M_3
  replace t_th := t_th.x hX1
  replace hX := hX.tr hX1
  exact pm_vret E hret hI hX ⟨rfl, hw⟩ (by decide) (by decide) dX3_init_12
set_option maxHeartbeats 4000000 in
set_option maxRecDepth 100000 in
theorem c_X3_readEdges_60 {p : Program} {l : Launch} {e : Env} {s : State} {m : MethodId} {args : Array Value} {below : List Frame} {meth : Method} {c : Code} {G : pm_G} {H0 : Heap} {M0 : pm_M} {Post : pm_M → Prop} {M : pm_M} (E : pm_E G p s m args meth c cX3_readEdges 6 RX3) (hret : meth.sig.returnType = none) {H : Heap} {locs : List Loc} {ls : Array Slot} (hX : pm_X M0 M) (hI : pm_I G H0 M H locs) (hl : lv_has ls 6 []) (hw : w_X3_readEdges_60 Post M) : W p l e rm_X3_readEdges s m args below meth c H locs 0 0 (pm_Z G H0 M0 (pm_Pv Post) below args s rm_X3_readEdges.cells rm_X3_readEdges.slots) (F0 m 60 ls []) := by
  have hx := E.1
  have hb := E.2.1
  have hown := E.2.2.2.1
  have hts := E.2.2.2.2.1
  unfold w_X3_readEdges_60 at hw
  exact pm_vret E hret hI hX ⟨rfl, hw⟩ (by decide) (by decide) dX3_readEdges_60
set_option maxHeartbeats 4000000 in
set_option maxRecDepth 100000 in
theorem c_X3_readEdges_7 {p : Program} {l : Launch} {e : Env} {s : State} {m : MethodId} {args : Array Value} {below : List Frame} {meth : Method} {c : Code} {G : pm_G} {H0 : Heap} {M0 : pm_M} {Post : pm_M → Prop} {v0 : Nat} {v1 : Nat} {v2 : Int32} (E : pm_E G p s m args meth c cX3_readEdges 6 RX3) (hret : meth.sig.returnType = none) : ∀ (n : Nat) (v3 : Int32) (M : pm_M) (H : Heap) (locs : List Loc) (ls : Array Slot), pm_X M0 M → pm_I G H0 M H locs → (pm_is M v0 2) → (pm_is M v1 3) → lv_has ls 6 [(0, .ref (H0.size + v0)), (1, .ref (H0.size + v1)), (2, .int v2), (3, .int v3)] → w_X3_readEdges_7 Post v0 v1 v2 n v3 M → W p l e rm_X3_readEdges s m args below meth c H locs 0 0 (pm_Z G H0 M0 (pm_Pv Post) below args s rm_X3_readEdges.cells rm_X3_readEdges.slots) (F0 m 7 ls []) := by
  have hx := E.1
  have hb := E.2.1
  have hown := E.2.2.2.1
  have hts := E.2.2.2.2.1
  intro n
  induction n with
  | zero =>
    intro v3 M H locs ls hX hI t_v0 t_v1 hl hw
    unfold w_X3_readEdges_7 at hw
    exact hw.elim
  | succ n ih =>
    intro v3 M H locs ls hX hI t_v0 t_v1 hl hw
    unfold w_X3_readEdges_7 at hw
    refine lv_iload_n hx hb dX3_readEdges_7 rfl (lv_at hl 3 rfl) ?_
    refine lv_iload_n hx hb dX3_readEdges_8 rfl (lv_at hl 2 rfl) ?_
    refine lv_icmp_ge (tgt := 60) hx hb dX3_readEdges_9 (by decide) (fun h_1 => ?_) (fun h_1 => ?_)
    · replace hw := hw.1 h_1
      exact c_X3_readEdges_60 E hret hX hI (lv_sub hl [] rfl) hw
    · replace hw := hw.2 h_1
      refine lv_iload_n hx hb dX3_readEdges_12 rfl (lv_at hl 3 rfl) ?_
      refine lv_aload_n hx hb dX3_readEdges_13 rfl (lv_at hl 0 rfl) ?_
      obtain ⟨q_2, e_q_2, hw⟩ := hw
      refine gf_X3_9 E hI t_v0 dX3_readEdges_14 e_q_2 (fun t_q_2 => ?_)
      refine ps_alenI E hI t_q_2 dX3_readEdges_17 ?_
      refine lv_icmp_ge (tgt := 60) hx hb dX3_readEdges_18 (by decide) (fun h_3 => ?_) (fun h_3 => ?_)
      · replace hw := hw.1 h_3
        exact c_X3_readEdges_60 E hret hX hI (lv_sub hl [] rfl) hw
      · replace hw := hw.2 h_3
        refine lv_aload_n hx hb dX3_readEdges_21 rfl (lv_at hl 1 rfl) ?_
        refine lv_iconst (v := (0 : Int32)) hx hb dX3_readEdges_22 (by decide) ?_
        refine lv_bipush (v := (15 : Int32)) hx hb dX3_readEdges_23 (by decide) ?_
        refine pm_callV (As := [.int (0 : Int32), .int (15 : Int32)]) (rest := []) 2 E hI (k_X4_next t_v1 hw) t_v1 (by decide) rfl kc_X4_next kl_X3_19 km_X4_next ks_X4_next ki_X4 (by decide +kernel) ⟨by decide, by decide⟩ rfl hl.1 rfl (by first | exact Nat.le_of_ble_eq_true rfl | (simp only [List.map, pm_rf_cat]; exact Nat.le_of_ble_eq_true rfl)) dX3_readEdges_25 ⟨by decide, by decide⟩ (fun r9 M_4 H locs hp hX1 hI => ?_)
        clear hw
        obtain ⟨r_5, rfl, hw⟩ := hp
        replace t_v0 := t_v0.x hX1
        replace t_v1 := t_v1.x hX1
        replace hX := hX.tr hX1
        refine pm_nrm (cells' := 0) (slots' := 0) (g2 := F0 m 28 ls [.int r_5]) rfl rfl rfl ?_
        refine lv_istore (lv' := [(4, .int r_5), (0, .ref (H0.size + v0)), (1, .ref (H0.size + v1)), (2, .int v2), (3, .int v3)]) hx hb dX3_readEdges_28 hl (by decide) rfl (fun ls hl_6 => ?_)
        refine lv_aload_n hx hb dX3_readEdges_30 rfl (lv_at hl_6 2 rfl) ?_
        refine lv_iconst (v := (0 : Int32)) hx hb dX3_readEdges_31 (by decide) ?_
        refine lv_bipush (v := (15 : Int32)) hx hb dX3_readEdges_32 (by decide) ?_
        refine pm_callV (As := [.int (0 : Int32), .int (15 : Int32)]) (rest := []) 2 E hI (k_X4_next t_v1 hw) t_v1 (by decide) rfl kc_X4_next kl_X3_19 km_X4_next ks_X4_next ki_X4 (by decide +kernel) ⟨by decide, by decide⟩ rfl hl_6.1 rfl (by first | exact Nat.le_of_ble_eq_true rfl | (simp only [List.map, pm_rf_cat]; exact Nat.le_of_ble_eq_true rfl)) dX3_readEdges_34 ⟨by decide, by decide⟩ (fun r9 M_7 H locs hp hX1 hI => ?_)
        clear hw
        obtain ⟨r_8, rfl, hw⟩ := hp
        replace t_v0 := t_v0.x hX1
        replace t_v1 := t_v1.x hX1
        replace hX := hX.tr hX1
        refine pm_nrm (cells' := 0) (slots' := 0) (g2 := F0 m 37 ls [.int r_8]) rfl rfl rfl ?_
        refine lv_istore (lv' := [(5, .int r_8), (4, .int r_5), (0, .ref (H0.size + v0)), (1, .ref (H0.size + v1)), (2, .int v2), (3, .int v3)]) hx hb dX3_readEdges_37 hl_6 (by decide) rfl (fun ls hl_9 => ?_)
        refine lv_aload_n hx hb dX3_readEdges_39 rfl (lv_at hl_9 2 rfl) ?_
        obtain ⟨q_10, e_q_10, hw⟩ := hw
        refine gf_X3_9 E hI t_v0 dX3_readEdges_40 e_q_10 (fun t_q_10 => ?_)
        refine lv_iload_n hx hb dX3_readEdges_43 rfl (lv_at hl_9 5 rfl) ?_
        refine lv_iconst (v := (1 : Int32)) hx hb dX3_readEdges_44 (by decide) ?_
        refine lv_iload hx hb dX3_readEdges_45 (lv_at hl_9 1 rfl) ?_
        refine lv_ishl hx hb dX3_readEdges_47 ?_
        refine lv_iconst (v := (1 : Int32)) hx hb dX3_readEdges_48 (by decide) ?_
        refine lv_iload hx hb dX3_readEdges_49 (lv_at hl_9 0 rfl) ?_
        refine lv_ishl hx hb dX3_readEdges_51 ?_
        refine lv_ior hx hb dX3_readEdges_52 ?_
        obtain ⟨h_11, hw⟩ := hw
        refine ps_iast E hI t_q_10 h_11 dX3_readEdges_53 (fun H locs M_12 e_M_12 hX1 hI => ?_)
        replace hw := hw M_12 e_M_12
        replace t_v0 := t_v0.x hX1
        replace t_v1 := t_v1.x hX1
        replace hX := hX.tr hX1
        obtain ⟨x_13, e_x_13⟩ : ∃ z : Int32, z = v3 + (1 : Int32) := ⟨_, rfl⟩
        refine lv_iinc (v := x_13) (lv' := [(3, .int x_13), (5, .int r_8), (4, .int r_5), (0, .ref (H0.size + v0)), (1, .ref (H0.size + v1)), (2, .int v2)]) hx hb dX3_readEdges_54 hl_9 (k := 5) rfl (by rw [e_x_13]; rfl) (by decide) rfl (fun ls hl_14 => ?_)
        replace hw := hw x_13 e_x_13
        refine lv_goto (tgt := 7) hx hb dX3_readEdges_57 (by decide) ?_
        exact ih _ _ _ _ _ hX hI t_v0 t_v1 (lv_sub hl_14 [3, 4, 5, 0] rfl) hw
set_option maxHeartbeats 4000000 in
set_option maxRecDepth 100000 in
theorem k_X3_readEdges {l : Launch} {G : pm_G} {H0 : Heap} {th : Nat} {a1 : Nat} {a2 : Int32} {M : pm_M} {Post : pm_M → Prop} (t_th : pm_is M th 2) (t_a1 : pm_is M a1 3) (hw : w_X3_readEdges th a1 a2 M Post) : pm_C l G H0 yX3_readEdges cX3_readEdges 6 none rm_X3_readEdges [.ref (H0.size + th), .ref (H0.size + a1), .int a2] M (pm_Pv Post) := by
  refine pm_start (by decide +kernel) (Nat.le_of_ble_eq_true rfl) ?_
  intro p e s m args below meth c H ls E hret hnm hI hl
  have hX : pm_X M M := pm_X.rf
  have hl : lv_has ls 6 [(0, .ref (H0.size + th)), (1, .ref (H0.size + a1)), (2, .int a2)] := hl
  have hx := E.1
  have hb := E.2.1
  have hown := E.2.2.2.1
  have hts := E.2.2.2.2.1
  unfold w_X3_readEdges at hw
  refine lv_aload_n hx hb dX3_readEdges_0 rfl (lv_at hl 0 rfl) ?_
  refine lv_iconst (v := (1 : Int32)) hx hb dX3_readEdges_1 (by decide) ?_
  refine pf_X3_15 E hI t_th dX3_readEdges_2 (fun H locs M_1 e_M_1 hX1 hI => ?_)
  replace hw := hw M_1 e_M_1
  replace t_th := t_th.x hX1
  replace t_a1 := t_a1.x hX1
  replace hX := hX.tr hX1
  refine lv_iconst (v := (0 : Int32)) hx hb dX3_readEdges_5 (by decide) ?_
  refine lv_istore_n (lv' := [(3, .int (0 : Int32)), (0, .ref (H0.size + th)), (1, .ref (H0.size + a1)), (2, .int a2)]) hx hb dX3_readEdges_6 rfl hl (by decide) rfl (fun ls hl_2 => ?_)
  obtain ⟨n_3, hw⟩ := hw
  exact c_X3_readEdges_7 E hret n_3 _ _ _ _ _ hX hI t_th t_a1 (lv_sub hl_2 [1, 2, 3, 0] rfl) hw
set_option maxHeartbeats 4000000 in
set_option maxRecDepth 100000 in
theorem c_X3_readPlaces_41 {p : Program} {l : Launch} {e : Env} {s : State} {m : MethodId} {args : Array Value} {below : List Frame} {meth : Method} {c : Code} {G : pm_G} {H0 : Heap} {M0 : pm_M} {Post : pm_M → Prop} {M : pm_M} (E : pm_E G p s m args meth c cX3_readPlaces 4 RX3) (hret : meth.sig.returnType = none) {H : Heap} {locs : List Loc} {ls : Array Slot} (hX : pm_X M0 M) (hI : pm_I G H0 M H locs) (hl : lv_has ls 4 []) (hw : w_X3_readPlaces_41 Post M) : W p l e rm_X3_readPlaces s m args below meth c H locs 0 0 (pm_Z G H0 M0 (pm_Pv Post) below args s rm_X3_readPlaces.cells rm_X3_readPlaces.slots) (F0 m 41 ls []) := by
  have hx := E.1
  have hb := E.2.1
  have hown := E.2.2.2.1
  have hts := E.2.2.2.2.1
  unfold w_X3_readPlaces_41 at hw
  exact pm_vret E hret hI hX ⟨rfl, hw⟩ (by decide) (by decide) dX3_readPlaces_41
set_option maxHeartbeats 4000000 in
set_option maxRecDepth 100000 in
theorem c_X3_readPlaces_7 {p : Program} {l : Launch} {e : Env} {s : State} {m : MethodId} {args : Array Value} {below : List Frame} {meth : Method} {c : Code} {G : pm_G} {H0 : Heap} {M0 : pm_M} {Post : pm_M → Prop} {v0 : Nat} {v1 : Nat} {v2 : Int32} (E : pm_E G p s m args meth c cX3_readPlaces 4 RX3) (hret : meth.sig.returnType = none) : ∀ (n : Nat) (v3 : Int32) (M : pm_M) (H : Heap) (locs : List Loc) (ls : Array Slot), pm_X M0 M → pm_I G H0 M H locs → (pm_is M v0 2) → (pm_is M v1 3) → lv_has ls 4 [(0, .ref (H0.size + v0)), (1, .ref (H0.size + v1)), (2, .int v2), (3, .int v3)] → w_X3_readPlaces_7 Post v0 v1 v2 n v3 M → W p l e rm_X3_readPlaces s m args below meth c H locs 0 0 (pm_Z G H0 M0 (pm_Pv Post) below args s rm_X3_readPlaces.cells rm_X3_readPlaces.slots) (F0 m 7 ls []) := by
  have hx := E.1
  have hb := E.2.1
  have hown := E.2.2.2.1
  have hts := E.2.2.2.2.1
  intro n
  induction n with
  | zero =>
    intro v3 M H locs ls hX hI t_v0 t_v1 hl hw
    unfold w_X3_readPlaces_7 at hw
    exact hw.elim
  | succ n ih =>
    intro v3 M H locs ls hX hI t_v0 t_v1 hl hw
    unfold w_X3_readPlaces_7 at hw
    refine lv_iload_n hx hb dX3_readPlaces_7 rfl (lv_at hl 3 rfl) ?_
    refine lv_iload_n hx hb dX3_readPlaces_8 rfl (lv_at hl 2 rfl) ?_
    refine lv_icmp_ge (tgt := 41) hx hb dX3_readPlaces_9 (by decide) (fun h_1 => ?_) (fun h_1 => ?_)
    · replace hw := hw.1 h_1
      exact c_X3_readPlaces_41 E hret hX hI (lv_sub hl [] rfl) hw
    · replace hw := hw.2 h_1
      refine lv_iload_n hx hb dX3_readPlaces_12 rfl (lv_at hl 3 rfl) ?_
      refine lv_aload_n hx hb dX3_readPlaces_13 rfl (lv_at hl 0 rfl) ?_
      obtain ⟨q_2, e_q_2, hw⟩ := hw
      refine gf_X3_9 E hI t_v0 dX3_readPlaces_14 e_q_2 (fun t_q_2 => ?_)
      refine ps_alenI E hI t_q_2 dX3_readPlaces_17 ?_
      refine lv_icmp_ge (tgt := 41) hx hb dX3_readPlaces_18 (by decide) (fun h_3 => ?_) (fun h_3 => ?_)
      · replace hw := hw.1 h_3
        exact c_X3_readPlaces_41 E hret hX hI (lv_sub hl [] rfl) hw
      · replace hw := hw.2 h_3
        refine lv_aload_n hx hb dX3_readPlaces_21 rfl (lv_at hl 0 rfl) ?_
        refine gf_X3_9 E hI t_v0 dX3_readPlaces_22 e_q_2 (fun _ => ?_)
        refine lv_iload_n hx hb dX3_readPlaces_25 rfl (lv_at hl 3 rfl) ?_
        refine lv_aload_n hx hb dX3_readPlaces_26 rfl (lv_at hl 1 rfl) ?_
        refine lv_iconst (v := (0 : Int32)) hx hb dX3_readPlaces_27 (by decide) ?_
        refine lv_sipush (v := (4095 : Int32)) hx hb dX3_readPlaces_28 (by decide) ?_
        refine pm_callV (As := [.int (0 : Int32), .int (4095 : Int32)]) (rest := [.int v3, .ref (H0.size + q_2)]) 2 E hI (k_X4_next t_v1 hw) t_v1 (by decide) rfl kc_X4_next kl_X3_19 km_X4_next ks_X4_next ki_X4 (by decide +kernel) ⟨by decide, by decide⟩ rfl hl.1 rfl (by first | exact Nat.le_of_ble_eq_true rfl | (simp only [List.map, pm_rf_cat]; exact Nat.le_of_ble_eq_true rfl)) dX3_readPlaces_31 ⟨by decide, by decide⟩ (fun r9 M_4 H locs hp hX1 hI => ?_)
        clear hw
        obtain ⟨r_5, rfl, hw⟩ := hp
        replace t_v0 := t_v0.x hX1
        replace t_v1 := t_v1.x hX1
        replace t_q_2 := t_q_2.x hX1
        replace hX := hX.tr hX1
        refine pm_nrm (cells' := 0) (slots' := 0) (g2 := F0 m 34 ls [.int r_5, .int v3, .ref (H0.size + q_2)]) rfl rfl rfl ?_
        obtain ⟨h_6, hw⟩ := hw
        refine ps_iast E hI t_q_2 h_6 dX3_readPlaces_34 (fun H locs M_7 e_M_7 hX1 hI => ?_)
        replace hw := hw M_7 e_M_7
        replace t_v0 := t_v0.x hX1
        replace t_v1 := t_v1.x hX1
        replace hX := hX.tr hX1
        obtain ⟨x_8, e_x_8⟩ : ∃ z : Int32, z = v3 + (1 : Int32) := ⟨_, rfl⟩
        refine lv_iinc (v := x_8) (lv' := [(3, .int x_8), (0, .ref (H0.size + v0)), (1, .ref (H0.size + v1)), (2, .int v2)]) hx hb dX3_readPlaces_35 hl (k := 3) rfl (by rw [e_x_8]; rfl) (by decide) rfl (fun ls hl_9 => ?_)
        replace hw := hw x_8 e_x_8
        refine lv_goto (tgt := 7) hx hb dX3_readPlaces_38 (by decide) ?_
        exact ih _ _ _ _ _ hX hI t_v0 t_v1 (lv_sub hl_9 [1, 2, 3, 0] rfl) hw
set_option maxHeartbeats 4000000 in
set_option maxRecDepth 100000 in
theorem k_X3_readPlaces {l : Launch} {G : pm_G} {H0 : Heap} {th : Nat} {a1 : Nat} {a2 : Int32} {M : pm_M} {Post : pm_M → Prop} (t_th : pm_is M th 2) (t_a1 : pm_is M a1 3) (hw : w_X3_readPlaces th a1 a2 M Post) : pm_C l G H0 yX3_readPlaces cX3_readPlaces 4 none rm_X3_readPlaces [.ref (H0.size + th), .ref (H0.size + a1), .int a2] M (pm_Pv Post) := by
  refine pm_start (by decide +kernel) (Nat.le_of_ble_eq_true rfl) ?_
  intro p e s m args below meth c H ls E hret hnm hI hl
  have hX : pm_X M M := pm_X.rf
  have hl : lv_has ls 4 [(0, .ref (H0.size + th)), (1, .ref (H0.size + a1)), (2, .int a2)] := hl
  have hx := E.1
  have hb := E.2.1
  have hown := E.2.2.2.1
  have hts := E.2.2.2.2.1
  unfold w_X3_readPlaces at hw
  refine lv_aload_n hx hb dX3_readPlaces_0 rfl (lv_at hl 0 rfl) ?_
  refine lv_iconst (v := (0 : Int32)) hx hb dX3_readPlaces_1 (by decide) ?_
  refine pf_X3_15 E hI t_th dX3_readPlaces_2 (fun H locs M_1 e_M_1 hX1 hI => ?_)
  replace hw := hw M_1 e_M_1
  replace t_th := t_th.x hX1
  replace t_a1 := t_a1.x hX1
  replace hX := hX.tr hX1
  refine lv_iconst (v := (0 : Int32)) hx hb dX3_readPlaces_5 (by decide) ?_
  refine lv_istore_n (lv' := [(3, .int (0 : Int32)), (0, .ref (H0.size + th)), (1, .ref (H0.size + a1)), (2, .int a2)]) hx hb dX3_readPlaces_6 rfl hl (by decide) rfl (fun ls hl_2 => ?_)
  obtain ⟨n_3, hw⟩ := hw
  exact c_X3_readPlaces_7 E hret n_3 _ _ _ _ _ hX hI t_th t_a1 (lv_sub hl_2 [1, 2, 3, 0] rfl) hw
set_option maxHeartbeats 4000000 in
set_option maxRecDepth 100000 in
theorem c_X3_fits_57 {p : Program} {l : Launch} {e : Env} {s : State} {m : MethodId} {args : Array Value} {below : List Frame} {meth : Method} {c : Code} {G : pm_G} {H0 : Heap} {Post : Int32 → Prop} {s0 : Int32} {M : pm_M} (E : pm_E G p s m args meth c cX3_fits 4 RX3) (hret : meth.sig.returnType = (some .boolean)) {H : Heap} {locs : List Loc} {ls : Array Slot} (hI : pm_I G H0 M H locs) (hl : lv_has ls 4 []) (hw : w_X3_fits_57 Post s0 M) : W p l e rm_X3_fits s m args below meth c H locs 0 0 (pm_Z G H0 M (pm_Pi (fun r9 M9 => M = M9 ∧ Post r9)) below args s rm_X3_fits.cells rm_X3_fits.slots) (F0 m 57 ls [.int s0]) := by
  have hx := E.1
  have hb := E.2.1
  have hown := E.2.2.2.1
  have hts := E.2.2.2.2.1
  unfold w_X3_fits_57 at hw
  exact pm_zret E hret hI pm_X.rf (pm_nb hw.1) ⟨_, rfl, rfl, hw.2⟩ (by decide) (by decide) dX3_fits_57
set_option maxHeartbeats 4000000 in
set_option maxRecDepth 100000 in
theorem c_X3_fits_30 {p : Program} {l : Launch} {e : Env} {s : State} {m : MethodId} {args : Array Value} {below : List Frame} {meth : Method} {c : Code} {G : pm_G} {H0 : Heap} {Post : Int32 → Prop} {v0 : Nat} {v1 : Int32} {v2 : Int32} {v3 : Int32} {M : pm_M} {k_4 : Int32 → Int32 → Prop} (E : pm_E G p s m args meth c cX3_fits 4 RX3) (hret : meth.sig.returnType = (some .boolean)) (hk_4 : ∀ (v2 : Int32) (v3 : Int32) (H : Heap) (locs : List Loc) (ls : Array Slot), pm_I G H0 M H locs → (pm_is M v0 2) → lv_has ls 4 [(0, .ref (H0.size + v0)), (1, .int v1), (2, .int v2), (3, .int v3)] → k_4 v2 v3 → W p l e rm_X3_fits s m args below meth c H locs 0 0 (pm_Z G H0 M (pm_Pi (fun r9 M9 => M = M9 ∧ Post r9)) below args s rm_X3_fits.cells rm_X3_fits.slots) (F0 m 4 ls [])) {H : Heap} {locs : List Loc} {ls : Array Slot} (hI : pm_I G H0 M H locs) (t_v0 : pm_is M v0 2) (hl : lv_has ls 4 [(0, .ref (H0.size + v0)), (1, .int v1), (2, .int v2), (3, .int v3)]) (hw : w_X3_fits_30 Post k_4 v0 v1 v2 v3 M) : W p l e rm_X3_fits s m args below meth c H locs 0 0 (pm_Z G H0 M (pm_Pi (fun r9 M9 => M = M9 ∧ Post r9)) below args s rm_X3_fits.cells rm_X3_fits.slots) (F0 m 30 ls []) := by
  have hx := E.1
  have hb := E.2.1
  have hown := E.2.2.2.1
  have hts := E.2.2.2.2.1
  unfold w_X3_fits_30 at hw
  obtain ⟨x_1, e_x_1⟩ : ∃ z : Int32, z = v3 + (1 : Int32) := ⟨_, rfl⟩
  refine lv_iinc (v := x_1) (lv' := [(3, .int x_1), (0, .ref (H0.size + v0)), (1, .int v1), (2, .int v2)]) hx hb dX3_fits_30 hl (k := 3) rfl (by rw [e_x_1]; rfl) (by decide) rfl (fun ls hl_2 => ?_)
  replace hw := hw x_1 e_x_1
  refine lv_goto (tgt := 4) hx hb dX3_fits_33 (by decide) ?_
  exact hk_4 _ _ _ _ _ hI t_v0 (lv_sub hl_2 [1, 2, 3, 0] rfl) hw
set_option maxHeartbeats 4000000 in
set_option maxRecDepth 100000 in
theorem c_X3_fits_4 {p : Program} {l : Launch} {e : Env} {s : State} {m : MethodId} {args : Array Value} {below : List Frame} {meth : Method} {c : Code} {G : pm_G} {H0 : Heap} {Post : Int32 → Prop} {v0 : Nat} {v1 : Int32} {M : pm_M} (E : pm_E G p s m args meth c cX3_fits 4 RX3) (hret : meth.sig.returnType = (some .boolean)) : ∀ (n : Nat) (v2 : Int32) (v3 : Int32) (H : Heap) (locs : List Loc) (ls : Array Slot), pm_I G H0 M H locs → (pm_is M v0 2) → lv_has ls 4 [(0, .ref (H0.size + v0)), (1, .int v1), (2, .int v2), (3, .int v3)] → w_X3_fits_4 Post v0 v1 M n v2 v3 → W p l e rm_X3_fits s m args below meth c H locs 0 0 (pm_Z G H0 M (pm_Pi (fun r9 M9 => M = M9 ∧ Post r9)) below args s rm_X3_fits.cells rm_X3_fits.slots) (F0 m 4 ls []) := by
  have hx := E.1
  have hb := E.2.1
  have hown := E.2.2.2.1
  have hts := E.2.2.2.2.1
  intro n
  induction n with
  | zero =>
    intro v2 v3 H locs ls hI t_v0 hl hw
    unfold w_X3_fits_4 at hw
    exact hw.elim
  | succ n ih =>
    intro v2 v3 H locs ls hI t_v0 hl hw
    unfold w_X3_fits_4 at hw
    refine lv_iload_n hx hb dX3_fits_4 rfl (lv_at hl 3 rfl) ?_
    refine lv_aload_n hx hb dX3_fits_5 rfl (lv_at hl 0 rfl) ?_
    obtain ⟨q_1, e_q_1, hw⟩ := hw
    refine gf_X3_9 E hI t_v0 dX3_fits_6 e_q_1 (fun t_q_1 => ?_)
    refine ps_alenI E hI t_q_1 dX3_fits_9 ?_
    refine lv_icmp_ge (tgt := 36) hx hb dX3_fits_10 (by decide) (fun h_2 => ?_) (fun h_2 => ?_)
    · replace hw := hw.1 h_2
      refine lv_iload_n hx hb dX3_fits_36 rfl (lv_at hl 2 rfl) ?_
      refine pm_callS (As := [.int v2]) (rest := []) 1 E hI (k_J6_bitCount_0f7a4 hw) kc_J6_bitCount_0f7a4 kl_X3_25 kt_J6_bitCount_0f7a4 ki_J6 (by decide +kernel) ⟨by decide, by decide⟩ rfl hl.1 rfl (by first | exact Nat.le_of_ble_eq_true rfl | (simp only [List.map, pm_rf_cat]; exact Nat.le_of_ble_eq_true rfl)) dX3_fits_37 ⟨by decide, by decide⟩ (fun r9 M9 H locs hp hX1 hI => ?_)
      clear hw
      obtain ⟨r_3, rfl, rfl, hw⟩ := hp
      refine pm_nrm (cells' := 0) (slots' := 0) (g2 := F0 m 40 ls [.int r_3]) rfl rfl rfl ?_
      refine lv_iload_n hx hb dX3_fits_40 rfl (lv_at hl 1 rfl) ?_
      refine pm_callS (As := [.int v1]) (rest := [.int r_3]) 1 E hI (k_J6_bitCount_0f7a4 hw) kc_J6_bitCount_0f7a4 kl_X3_25 kt_J6_bitCount_0f7a4 ki_J6 (by decide +kernel) ⟨by decide, by decide⟩ rfl hl.1 rfl (by first | exact Nat.le_of_ble_eq_true rfl | (simp only [List.map, pm_rf_cat]; exact Nat.le_of_ble_eq_true rfl)) dX3_fits_41 ⟨by decide, by decide⟩ (fun r9 M9 H locs hp hX1 hI => ?_)
      clear hw
      obtain ⟨r_4, rfl, rfl, hw⟩ := hp
      refine pm_nrm (cells' := 0) (slots' := 0) (g2 := F0 m 44 ls [.int r_4, .int r_3]) rfl rfl rfl ?_
      refine lv_aload_n hx hb dX3_fits_44 rfl (lv_at hl 0 rfl) ?_
      refine gf_X3_15 E hI t_v0 dX3_fits_45 ?_
      refine lv_iadd hx hb dX3_fits_48 ?_
      refine lv_icmp_lt (tgt := 56) hx hb dX3_fits_49 (by decide) (fun h_5 => ?_) (fun h_5 => ?_)
      · replace hw := hw.1 h_5
        refine lv_iconst (v := (0 : Int32)) hx hb dX3_fits_56 (by decide) ?_
        exact c_X3_fits_57 E hret hI (lv_sub hl [] rfl) hw
      · replace hw := hw.2 h_5
        refine lv_iconst (v := (1 : Int32)) hx hb dX3_fits_52 (by decide) ?_
        refine lv_goto (tgt := 57) hx hb dX3_fits_53 (by decide) ?_
        exact c_X3_fits_57 E hret hI (lv_sub hl [] rfl) hw
    · replace hw := hw.2 h_2
      refine lv_iload_n hx hb dX3_fits_13 rfl (lv_at hl 1 rfl) ?_
      refine lv_iload_n hx hb dX3_fits_14 rfl (lv_at hl 3 rfl) ?_
      refine lv_ishr hx hb dX3_fits_15 ?_
      refine lv_iconst (v := (1 : Int32)) hx hb dX3_fits_16 (by decide) ?_
      refine lv_iand hx hb dX3_fits_17 ?_
      refine lv_if_eq (tgt := 30) hx hb dX3_fits_18 (by decide) (fun h_6 => ?_) (fun h_6 => ?_)
      · replace hw := hw.1 h_6
        exact c_X3_fits_30 E hret ih hI t_v0 (lv_sub hl [0, 1, 2, 3] rfl) hw
      · replace hw := hw.2 h_6
        refine lv_iload_n hx hb dX3_fits_21 rfl (lv_at hl 2 rfl) ?_
        refine lv_aload_n hx hb dX3_fits_22 rfl (lv_at hl 0 rfl) ?_
        refine gf_X3_9 E hI t_v0 dX3_fits_23 e_q_1 (fun _ => ?_)
        refine lv_iload_n hx hb dX3_fits_26 rfl (lv_at hl 3 rfl) ?_
        obtain ⟨h_7, hw⟩ := hw
        refine pm_iald E hI t_q_1 h_7 dX3_fits_27 ?_
        refine lv_ior hx hb dX3_fits_28 ?_
        refine lv_topi (fun x_8 e_x_8 => ?_)
        replace hw := hw x_8 e_x_8
        refine lv_istore_n (lv' := [(2, .int x_8), (0, .ref (H0.size + v0)), (1, .int v1), (3, .int v3)]) hx hb dX3_fits_29 rfl hl (by decide) rfl (fun ls hl_9 => ?_)
        exact c_X3_fits_30 E hret ih hI t_v0 (lv_sub hl_9 [1, 2, 0, 3] rfl) hw
set_option maxHeartbeats 4000000 in
set_option maxRecDepth 100000 in
theorem k_X3_fits {l : Launch} {G : pm_G} {H0 : Heap} {th : Nat} {a1 : Int32} {M : pm_M} {Post : Int32 → Prop} (t_th : pm_is M th 2) (hw : w_X3_fits th a1 M Post) : pm_C l G H0 yX3_fits cX3_fits 4 (some .boolean) rm_X3_fits [.ref (H0.size + th), .int a1] M (pm_Pi (fun r9 M9 => M = M9 ∧ Post r9)) := by
  refine pm_start (by decide +kernel) (Nat.le_of_ble_eq_true rfl) ?_
  intro p e s m args below meth c H ls E hret hnm hI hl
  have hl : lv_has ls 4 [(0, .ref (H0.size + th)), (1, .int a1)] := hl
  have hx := E.1
  have hb := E.2.1
  have hown := E.2.2.2.1
  have hts := E.2.2.2.2.1
  unfold w_X3_fits at hw
  refine lv_iconst (v := (0 : Int32)) hx hb dX3_fits_0 (by decide) ?_
  refine lv_istore_n (lv' := [(2, .int (0 : Int32)), (0, .ref (H0.size + th)), (1, .int a1)]) hx hb dX3_fits_1 rfl hl (by decide) rfl (fun ls hl_1 => ?_)
  refine lv_iconst (v := (0 : Int32)) hx hb dX3_fits_2 (by decide) ?_
  refine lv_istore_n (lv' := [(3, .int (0 : Int32)), (2, .int (0 : Int32)), (0, .ref (H0.size + th)), (1, .int a1)]) hx hb dX3_fits_3 rfl hl_1 (by decide) rfl (fun ls hl_2 => ?_)
  obtain ⟨n_3, hw⟩ := hw
  exact c_X3_fits_4 E hret n_3 _ _ _ _ _ hI t_th (lv_sub hl_2 [2, 3, 1, 0] rfl) hw
