set_option maxHeartbeats 4000000 in
set_option maxRecDepth 100000 in
theorem c_X9_read_28 {p : Program} {l : Launch} {e : Env} {s : State} {m : MethodId} {args : Array Value} {below : List Frame} {meth : Method} {c : Code} {G : pm_G} {H0 : Heap} {Post : Int64 → Prop} {s0 : Int64} {M : pm_M} (E : pm_E G p s m args meth c cX9_read 4 RX9) (hret : meth.sig.returnType = (some .long)) {H : Heap} {locs : List Loc} {ls : Array Slot} (hI : pm_I G H0 M H locs) (hl : lv_has ls 4 []) (hw : w_X9_read_28 Post s0 M) : W p l e rm_X9_read s m args below meth c H locs 0 0 (pm_Z G H0 M (pm_Pl (fun r9 M9 => M = M9 ∧ Post r9)) below args s rm_X9_read.cells rm_X9_read.slots) (F0 m 28 ls [.long s0]) := by
  have hx := E.1
  have hb := E.2.1
  have hown := E.2.2.2.1
  have hts := E.2.2.2.2.1
  unfold w_X9_read_28 at hw
  exact pm_lret E hret hI pm_X.rf ⟨_, rfl, rfl, hw⟩ (by decide) (by decide) dX9_read_28
set_option maxHeartbeats 4000000 in
set_option maxRecDepth 100000 in
theorem c_X9_read_19 {p : Program} {l : Launch} {e : Env} {s : State} {m : MethodId} {args : Array Value} {below : List Frame} {meth : Method} {c : Code} {G : pm_G} {H0 : Heap} {Post : Int64 → Prop} {M : pm_M} (E : pm_E G p s m args meth c cX9_read 4 RX9) (hret : meth.sig.returnType = (some .long)) {H : Heap} {locs : List Loc} {ls : Array Slot} (hI : pm_I G H0 M H locs) (hl : lv_has ls 4 []) (hw : w_X9_read_19 Post M) : W p l e rm_X9_read s m args below meth c H locs 0 0 (pm_Z G H0 M (pm_Pl (fun r9 M9 => M = M9 ∧ Post r9)) below args s rm_X9_read.cells rm_X9_read.slots) (F0 m 19 ls []) := by
  have hx := E.1
  have hb := E.2.1
  have hown := E.2.2.2.1
  have hts := E.2.2.2.2.1
  unfold w_X9_read_19 at hw
  refine lv_lconst (v := (0 : Int64)) hx hb dX9_read_19 (by decide) ?_
  refine lv_goto (tgt := 28) hx hb dX9_read_20 (by decide) ?_
  exact c_X9_read_28 E hret hI (lv_sub hl [] rfl) hw
set_option maxHeartbeats 4000000 in
set_option maxRecDepth 100000 in
theorem k_X9_read {l : Launch} {G : pm_G} {H0 : Heap} {th : Nat} {a1 : Int32} {a2 : Int32} {M : pm_M} {Post : Int64 → Prop} (t_th : pm_is M th 8) (hw : w_X9_read th a1 a2 M Post) : pm_C l G H0 yX9_read cX9_read 4 (some .long) rm_X9_read [.ref (H0.size + th), .int a1, .int a2] M (pm_Pl (fun r9 M9 => M = M9 ∧ Post r9)) := by
  refine pm_start (by decide +kernel) (Nat.le_of_ble_eq_true rfl) ?_
  intro p e s m args below meth c H ls E hret hnm hI hl
  have hl : lv_has ls 4 [(0, .ref (H0.size + th)), (1, .int a1), (2, .int a2)] := hl
  have hx := E.1
  have hb := E.2.1
  have hown := E.2.2.2.1
  have hts := E.2.2.2.2.1
  unfold w_X9_read at hw
  refine lv_aload_n hx hb dX9_read_0 rfl (lv_at hl 0 rfl) ?_
  refine lv_iload_n hx hb dX9_read_1 rfl (lv_at hl 1 rfl) ?_
  refine pm_callV (As := [.int a1]) (rest := []) 1 E hI (k_X9_slotAt t_th hw) t_th (by decide) rfl kc_X9_slotAt kl_X9_73 km_X9_slotAt ks_X9_slotAt ki_X9 (by decide +kernel) ⟨by decide, by decide⟩ rfl hl.1 rfl (by first | exact Nat.le_of_ble_eq_true rfl | (simp only [List.map, pm_rf_cat]; exact Nat.le_of_ble_eq_true rfl)) dX9_read_2 ⟨by decide, by decide⟩ (fun r9 M9 H locs hp hX1 hI => ?_)
  clear hw
  obtain ⟨r_1, rfl, o_r_1, rfl, hw⟩ := hp
  refine pm_nrm (cells' := 0) (slots' := 0) (g2 := F0 m 5 ls [pm_rf H0.size r_1]) rfl rfl rfl ?_
  refine pm_astore_n (lv' := [(3, pm_rf H0.size r_1), (0, .ref (H0.size + th)), (1, .int a1), (2, .int a2)]) hx hb dX9_read_5 rfl hl (by decide) (by first | rfl | simp [List.filter, pm_rf_cat]) (fun ls hl_2 => ?_)
  refine pm_aload_n hx hb dX9_read_6 rfl (lv_at hl_2 0 rfl) ?_
  refine pm_ifnull (tgt := 19) hx hb dX9_read_7 (by decide) (fun hq => ?_) (fun q_3 hq => ?_)
  · replace hw := hw.1 hq
    subst hq
    replace hl_2 : lv_has ls 4 [(3, .null), (0, .ref (H0.size + th)), (1, .int a1), (2, .int a2)] := hl_2
    exact c_X9_read_19 E hret hI (lv_sub hl_2 [] rfl) hw
  · replace hw := hw.2 q_3 hq
    subst hq
    have t_q_3 := o_r_1 q_3 rfl
    replace hl_2 : lv_has ls 4 [(3, .ref (H0.size + q_3)), (0, .ref (H0.size + th)), (1, .int a1), (2, .int a2)] := hl_2
    refine lv_aload_n hx hb dX9_read_10 rfl (lv_at hl_2 1 rfl) ?_
    refine lv_iload_n hx hb dX9_read_11 rfl (lv_at hl_2 2 rfl) ?_
    refine lv_iload_n hx hb dX9_read_12 rfl (lv_at hl_2 3 rfl) ?_
    refine pm_callV (As := [.int a1, .int a2]) (rest := []) 2 E hI (k_X9_numberRefusal t_th hw) t_th (by decide) rfl kc_X9_numberRefusal kl_X9_88 km_X9_numberRefusal ks_X9_numberRefusal ki_X9 (by decide +kernel) ⟨by decide, by decide⟩ rfl hl_2.1 rfl (by first | exact Nat.le_of_ble_eq_true rfl | (simp only [List.map, pm_rf_cat]; exact Nat.le_of_ble_eq_true rfl)) dX9_read_13 ⟨by decide, by decide⟩ (fun r9 M9 H locs hp hX1 hI => ?_)
    clear hw
    obtain ⟨r_4, rfl, rfl, hw⟩ := hp
    refine pm_nrm (cells' := 0) (slots' := 0) (g2 := F0 m 16 ls [.int r_4]) rfl rfl rfl ?_
    refine lv_if_eq (tgt := 23) hx hb dX9_read_16 (by decide) (fun h_5 => ?_) (fun h_5 => ?_)
    · replace hw := hw.1 h_5
      refine lv_aload_n hx hb dX9_read_23 rfl (lv_at hl_2 0 rfl) ?_
      refine lv_iload_n hx hb dX9_read_24 rfl (lv_at hl_2 3 rfl) ?_
      refine pm_callV (As := [.int a2]) (rest := []) 1 E hI (k_X6_number t_q_3 hw) t_q_3 (by decide) rfl kc_X6_number kl_X9_96 km_X6_number ks_X6_number ki_X6 (by decide +kernel) ⟨by decide, by decide⟩ rfl hl_2.1 rfl (by first | exact Nat.le_of_ble_eq_true rfl | (simp only [List.map, pm_rf_cat]; exact Nat.le_of_ble_eq_true rfl)) dX9_read_25 ⟨by decide, by decide⟩ (fun r9 M9 H locs hp hX1 hI => ?_)
      clear hw
      obtain ⟨r_6, rfl, rfl, hw⟩ := hp
      refine pm_nrm (cells' := 0) (slots' := 0) (g2 := F0 m 28 ls [.long r_6]) rfl rfl rfl ?_
      exact c_X9_read_28 E hret hI (lv_sub hl_2 [] rfl) hw
    · replace hw := hw.2 h_5
      exact c_X9_read_19 E hret hI (lv_sub hl_2 [] rfl) hw
set_option maxHeartbeats 4000000 in
set_option maxRecDepth 100000 in
theorem c_X9_copy_85 {p : Program} {l : Launch} {e : Env} {s : State} {m : MethodId} {args : Array Value} {below : List Frame} {meth : Method} {c : Code} {G : pm_G} {H0 : Heap} {M0 : pm_M} {Post : Int32 → pm_M → Prop} {M : pm_M} (E : pm_E G p s m args meth c cX9_copy 8 RX9) (hret : meth.sig.returnType = (some .int)) {H : Heap} {locs : List Loc} {ls : Array Slot} (hX : pm_X M0 M) (hI : pm_I G H0 M H locs) (hl : lv_has ls 8 []) (hw : w_X9_copy_85 Post M) : W p l e rm_X9_copy s m args below meth c H locs 0 0 (pm_Z G H0 M0 (pm_Pi Post) below args s rm_X9_copy.cells rm_X9_copy.slots) (F0 m 85 ls []) := by
  have hx := E.1
  have hb := E.2.1
  have hown := E.2.2.2.1
  have hts := E.2.2.2.2.1
  unfold w_X9_copy_85 at hw
  refine lv_bipush (v := (-6 : Int32)) hx hb dX9_copy_85 (by decide) ?_
  exact pm_iret E hret hI hX ⟨_, rfl, hw⟩ (by decide) (by decide) dX9_copy_87
set_option maxHeartbeats 4000000 in
set_option maxRecDepth 100000 in
theorem c_X9_copy_43 {p : Program} {l : Launch} {e : Env} {s : State} {m : MethodId} {args : Array Value} {below : List Frame} {meth : Method} {c : Code} {G : pm_G} {H0 : Heap} {M0 : pm_M} {Post : Int32 → pm_M → Prop} {M : pm_M} (E : pm_E G p s m args meth c cX9_copy 8 RX9) (hret : meth.sig.returnType = (some .int)) {H : Heap} {locs : List Loc} {ls : Array Slot} (hX : pm_X M0 M) (hI : pm_I G H0 M H locs) (hl : lv_has ls 8 []) (hw : w_X9_copy_43 Post M) : W p l e rm_X9_copy s m args below meth c H locs 0 0 (pm_Z G H0 M0 (pm_Pi Post) below args s rm_X9_copy.cells rm_X9_copy.slots) (F0 m 43 ls []) := by
  have hx := E.1
  have hb := E.2.1
  have hown := E.2.2.2.1
  have hts := E.2.2.2.2.1
  unfold w_X9_copy_43 at hw
  refine lv_bipush (v := (-5 : Int32)) hx hb dX9_copy_43 (by decide) ?_
  exact pm_iret E hret hI hX ⟨_, rfl, hw⟩ (by decide) (by decide) dX9_copy_45
set_option maxHeartbeats 4000000 in
set_option maxRecDepth 100000 in
theorem c_X9_copy_24 {p : Program} {l : Launch} {e : Env} {s : State} {m : MethodId} {args : Array Value} {below : List Frame} {meth : Method} {c : Code} {G : pm_G} {H0 : Heap} {M0 : pm_M} {Post : Int32 → pm_M → Prop} {M : pm_M} (E : pm_E G p s m args meth c cX9_copy 8 RX9) (hret : meth.sig.returnType = (some .int)) {H : Heap} {locs : List Loc} {ls : Array Slot} (hX : pm_X M0 M) (hI : pm_I G H0 M H locs) (hl : lv_has ls 8 []) (hw : w_X9_copy_24 Post M) : W p l e rm_X9_copy s m args below meth c H locs 0 0 (pm_Z G H0 M0 (pm_Pi Post) below args s rm_X9_copy.cells rm_X9_copy.slots) (F0 m 24 ls []) := by
  have hx := E.1
  have hb := E.2.1
  have hown := E.2.2.2.1
  have hts := E.2.2.2.2.1
  unfold w_X9_copy_24 at hw
  refine lv_bipush (v := (-2 : Int32)) hx hb dX9_copy_24 (by decide) ?_
  exact pm_iret E hret hI hX ⟨_, rfl, hw⟩ (by decide) (by decide) dX9_copy_26
set_option maxHeartbeats 4000000 in
set_option maxRecDepth 100000 in
theorem k_X9_copy {l : Launch} {G : pm_G} {H0 : Heap} {th : Nat} {a1 : Int32} {a2 : Int32} {a3 : Int32} {a4 : Int32} {a5 : Int32} {M : pm_M} {Post : Int32 → pm_M → Prop} (t_th : pm_is M th 8) (hw : w_X9_copy th a1 a2 a3 a4 a5 M Post) : pm_C l G H0 yX9_copy cX9_copy 8 (some .int) rm_X9_copy [.ref (H0.size + th), .int a1, .int a2, .int a3, .int a4, .int a5] M (pm_Pi Post) := by
  refine pm_start (by decide +kernel) (Nat.le_of_ble_eq_true rfl) ?_
  intro p e s m args below meth c H ls E hret hnm hI hl
  have hX : pm_X M M := pm_X.rf
  have hl : lv_has ls 8 [(0, .ref (H0.size + th)), (1, .int a1), (2, .int a2), (3, .int a3), (4, .int a4), (5, .int a5)] := hl
  have hx := E.1
  have hb := E.2.1
  have hown := E.2.2.2.1
  have hts := E.2.2.2.2.1
  unfold w_X9_copy at hw
  refine lv_aload_n hx hb dX9_copy_0 rfl (lv_at hl 0 rfl) ?_
  refine lv_iload_n hx hb dX9_copy_1 rfl (lv_at hl 1 rfl) ?_
  refine pm_callV (As := [.int a1]) (rest := []) 1 E hI (k_X9_slotAt t_th hw) t_th (by decide) rfl kc_X9_slotAt kl_X9_73 km_X9_slotAt ks_X9_slotAt ki_X9 (by decide +kernel) ⟨by decide, by decide⟩ rfl hl.1 rfl (by first | exact Nat.le_of_ble_eq_true rfl | (simp only [List.map, pm_rf_cat]; exact Nat.le_of_ble_eq_true rfl)) dX9_copy_2 ⟨by decide, by decide⟩ (fun r9 M9 H locs hp hX1 hI => ?_)
  clear hw
  obtain ⟨r_1, rfl, o_r_1, rfl, hw⟩ := hp
  refine pm_nrm (cells' := 0) (slots' := 0) (g2 := F0 m 5 ls [pm_rf H0.size r_1]) rfl rfl rfl ?_
  refine pm_astore (lv' := [(6, pm_rf H0.size r_1), (0, .ref (H0.size + th)), (1, .int a1), (2, .int a2), (3, .int a3), (4, .int a4), (5, .int a5)]) hx hb dX9_copy_5 hl (by decide) (by first | rfl | simp [List.filter, pm_rf_cat]) (fun ls hl_2 => ?_)
  refine lv_aload_n hx hb dX9_copy_7 rfl (lv_at hl_2 1 rfl) ?_
  refine lv_iload_n hx hb dX9_copy_8 rfl (lv_at hl_2 4 rfl) ?_
  refine pm_callV (As := [.int a3]) (rest := []) 1 E hI (k_X9_slotAt t_th hw) t_th (by decide) rfl kc_X9_slotAt kl_X9_73 km_X9_slotAt ks_X9_slotAt ki_X9 (by decide +kernel) ⟨by decide, by decide⟩ rfl hl_2.1 rfl (by first | exact Nat.le_of_ble_eq_true rfl | (simp only [List.map, pm_rf_cat]; exact Nat.le_of_ble_eq_true rfl)) dX9_copy_9 ⟨by decide, by decide⟩ (fun r9 M9 H locs hp hX1 hI => ?_)
  clear hw
  obtain ⟨r_3, rfl, o_r_3, rfl, hw⟩ := hp
  refine pm_nrm (cells' := 0) (slots' := 0) (g2 := F0 m 12 ls [pm_rf H0.size r_3]) rfl rfl rfl ?_
  refine pm_astore (lv' := [(7, pm_rf H0.size r_3), (6, pm_rf H0.size r_1), (0, .ref (H0.size + th)), (1, .int a1), (2, .int a2), (3, .int a3), (4, .int a4), (5, .int a5)]) hx hb dX9_copy_12 hl_2 (by decide) (by first | rfl | simp [List.filter, pm_rf_cat]) (fun ls hl_4 => ?_)
  refine pm_aload hx hb dX9_copy_14 (lv_at hl_4 1 rfl) ?_
  refine pm_ifnull (tgt := 24) hx hb dX9_copy_16 (by decide) (fun hq => ?_) (fun q_5 hq => ?_)
  · replace hw := hw.1 hq
    subst hq
    replace hl_4 : lv_has ls 8 [(7, pm_rf H0.size r_3), (6, .null), (0, .ref (H0.size + th)), (1, .int a1), (2, .int a2), (3, .int a3), (4, .int a4), (5, .int a5)] := hl_4
    exact c_X9_copy_24 E hret hX hI (lv_sub hl_4 [] rfl) hw
  · replace hw := hw.2 q_5 hq
    subst hq
    have t_q_5 := o_r_1 q_5 rfl
    replace hl_4 : lv_has ls 8 [(7, pm_rf H0.size r_3), (6, .ref (H0.size + q_5)), (0, .ref (H0.size + th)), (1, .int a1), (2, .int a2), (3, .int a3), (4, .int a4), (5, .int a5)] := hl_4
    refine pm_aload hx hb dX9_copy_19 (lv_at hl_4 0 rfl) ?_
    refine pm_ifnonnull (tgt := 27) hx hb dX9_copy_21 (by decide) (fun q_6 hq => ?_) (fun hq => ?_)
    · replace hw := hw.2 q_6 hq
      subst hq
      have t_q_6 := o_r_3 q_6 rfl
      replace hl_4 : lv_has ls 8 [(7, .ref (H0.size + q_6)), (6, .ref (H0.size + q_5)), (0, .ref (H0.size + th)), (1, .int a1), (2, .int a2), (3, .int a3), (4, .int a4), (5, .int a5)] := hl_4
      refine lv_aload hx hb dX9_copy_27 (lv_at hl_4 1 rfl) ?_
      refine pm_callV (As := []) (rest := []) 0 E hI (k_X6_hasRow t_q_5 hw) t_q_5 (by decide) rfl kc_X6_hasRow kl_X9_81 km_X6_hasRow ks_X6_hasRow ki_X6 (by decide +kernel) ⟨by decide, by decide⟩ rfl hl_4.1 rfl (by first | exact Nat.le_of_ble_eq_true rfl | (simp only [List.map, pm_rf_cat]; exact Nat.le_of_ble_eq_true rfl)) dX9_copy_29 ⟨by decide, by decide⟩ (fun r9 M9 H locs hp hX1 hI => ?_)
      clear hw
      obtain ⟨r_7, rfl, rfl, hw⟩ := hp
      refine pm_nrm (cells' := 0) (slots' := 0) (g2 := F0 m 32 ls [.int r_7]) rfl rfl rfl ?_
      refine lv_if_eq (tgt := 43) hx hb dX9_copy_32 (by decide) (fun h_8 => ?_) (fun h_8 => ?_)
      · replace hw := hw.1 h_8
        exact c_X9_copy_43 E hret hX hI (lv_sub hl_4 [] rfl) hw
      · replace hw := hw.2 h_8
        refine lv_aload hx hb dX9_copy_35 (lv_at hl_4 0 rfl) ?_
        refine pm_callV (As := []) (rest := []) 0 E hI (k_X6_hasRow t_q_6 hw) t_q_6 (by decide) rfl kc_X6_hasRow kl_X9_81 km_X6_hasRow ks_X6_hasRow ki_X6 (by decide +kernel) ⟨by decide, by decide⟩ rfl hl_4.1 rfl (by first | exact Nat.le_of_ble_eq_true rfl | (simp only [List.map, pm_rf_cat]; exact Nat.le_of_ble_eq_true rfl)) dX9_copy_37 ⟨by decide, by decide⟩ (fun r9 M9 H locs hp hX1 hI => ?_)
        clear hw
        obtain ⟨r_9, rfl, rfl, hw⟩ := hp
        refine pm_nrm (cells' := 0) (slots' := 0) (g2 := F0 m 40 ls [.int r_9]) rfl rfl rfl ?_
        refine lv_if_ne (tgt := 46) hx hb dX9_copy_40 (by decide) (fun h_10 => ?_) (fun h_10 => ?_)
        · replace hw := hw.1 h_10
          refine lv_aload hx hb dX9_copy_46 (lv_at hl_4 1 rfl) ?_
          refine gf_X9_100 E hI t_q_5 dX9_copy_48 ?_
          refine lv_aload hx hb dX9_copy_51 (lv_at hl_4 0 rfl) ?_
          refine gf_X9_100 E hI t_q_6 dX9_copy_53 ?_
          refine lv_icmp_eq (tgt := 62) hx hb dX9_copy_56 (by decide) (fun h_11 => ?_) (fun h_11 => ?_)
          · replace hw := hw.1 h_11
            refine lv_aload hx hb dX9_copy_62 (lv_at hl_4 1 rfl) ?_
            refine lv_iload_n hx hb dX9_copy_64 rfl (lv_at hl_4 4 rfl) ?_
            refine lv_iload hx hb dX9_copy_65 (lv_at hl_4 7 rfl) ?_
            refine pm_callV (As := [.int a2, .int a5]) (rest := []) 2 E hI (k_X6_hasStretch t_q_5 hw) t_q_5 (by decide) rfl kc_X6_hasStretch kl_X9_104 km_X6_hasStretch ks_X6_hasStretch ki_X6 (by decide +kernel) ⟨by decide, by decide⟩ rfl hl_4.1 rfl (by first | exact Nat.le_of_ble_eq_true rfl | (simp only [List.map, pm_rf_cat]; exact Nat.le_of_ble_eq_true rfl)) dX9_copy_67 ⟨by decide, by decide⟩ (fun r9 M9 H locs hp hX1 hI => ?_)
            clear hw
            obtain ⟨r_12, rfl, rfl, hw⟩ := hp
            refine pm_nrm (cells' := 0) (slots' := 0) (g2 := F0 m 70 ls [.int r_12]) rfl rfl rfl ?_
            refine lv_if_eq (tgt := 85) hx hb dX9_copy_70 (by decide) (fun h_13 => ?_) (fun h_13 => ?_)
            · replace hw := hw.1 h_13
              exact c_X9_copy_85 E hret hX hI (lv_sub hl_4 [] rfl) hw
            · replace hw := hw.2 h_13
              refine lv_aload hx hb dX9_copy_73 (lv_at hl_4 0 rfl) ?_
              refine lv_iload hx hb dX9_copy_75 (lv_at hl_4 6 rfl) ?_
              refine lv_iload hx hb dX9_copy_77 (lv_at hl_4 7 rfl) ?_
              refine pm_callV (As := [.int a4, .int a5]) (rest := []) 2 E hI (k_X6_hasStretch t_q_6 hw) t_q_6 (by decide) rfl kc_X6_hasStretch kl_X9_104 km_X6_hasStretch ks_X6_hasStretch ki_X6 (by decide +kernel) ⟨by decide, by decide⟩ rfl hl_4.1 rfl (by first | exact Nat.le_of_ble_eq_true rfl | (simp only [List.map, pm_rf_cat]; exact Nat.le_of_ble_eq_true rfl)) dX9_copy_79 ⟨by decide, by decide⟩ (fun r9 M9 H locs hp hX1 hI => ?_)
              clear hw
              obtain ⟨r_14, rfl, rfl, hw⟩ := hp
              refine pm_nrm (cells' := 0) (slots' := 0) (g2 := F0 m 82 ls [.int r_14]) rfl rfl rfl ?_
              refine lv_if_ne (tgt := 88) hx hb dX9_copy_82 (by decide) (fun h_15 => ?_) (fun h_15 => ?_)
              · replace hw := hw.1 h_15
                refine lv_aload hx hb dX9_copy_88 (lv_at hl_4 1 rfl) ?_
                obtain ⟨q_16, e_q_16, hw⟩ := hw
                refine gf_X9_108 E hI t_q_5 dX9_copy_90 e_q_16 (fun t_q_16 => ?_)
                refine lv_iload_n hx hb dX9_copy_93 rfl (lv_at hl_4 4 rfl) ?_
                refine lv_aload hx hb dX9_copy_94 (lv_at hl_4 0 rfl) ?_
                obtain ⟨q_17, e_q_17, hw⟩ := hw
                refine gf_X9_108 E hI t_q_6 dX9_copy_96 e_q_17 (fun t_q_17 => ?_)
                refine lv_iload hx hb dX9_copy_99 (lv_at hl_4 6 rfl) ?_
                refine lv_iload hx hb dX9_copy_101 (lv_at hl_4 7 rfl) ?_
                obtain ⟨h_19, hw⟩ := hw
                refine pm_copyl E hI hl_4.1 kl_X9_112 ka_nat ka_st ka_ini t_q_16 t_q_17 h_19.1 h_19.2.1 h_19.2.2.1 h_19.2.2.2.1 h_19.2.2.2.2 (by decide) (Nat.le_of_ble_eq_true rfl) dX9_copy_103 (fun H locs hI => ?_)
                have hX1 : pm_X M (sC M q_16 a2.toNatClampNeg q_17 a4.toNatClampNeg a5.toNatClampNeg) := pm_Xc
                obtain ⟨M_18, e_M_18⟩ : ∃ z, z = sC M q_16 a2.toNatClampNeg q_17 a4.toNatClampNeg a5.toNatClampNeg := ⟨_, rfl⟩
                rw [← e_M_18] at hI hX1
                replace hw := hw M_18 e_M_18
                replace t_th := t_th.x hX1
                replace t_q_5 := t_q_5.x hX1
                replace t_q_6 := t_q_6.x hX1
                replace hX := hX.tr hX1
                refine lv_iconst (v := (0 : Int32)) hx hb dX9_copy_106 (by decide) ?_
                exact pm_iret E hret hI hX ⟨_, rfl, hw⟩ (by decide) (by decide) dX9_copy_107
              · replace hw := hw.2 h_15
                exact c_X9_copy_85 E hret hX hI (lv_sub hl_4 [] rfl) hw
          · replace hw := hw.2 h_11
            refine lv_bipush (v := (-7 : Int32)) hx hb dX9_copy_59 (by decide) ?_
            exact pm_iret E hret hI hX ⟨_, rfl, hw⟩ (by decide) (by decide) dX9_copy_61
        · replace hw := hw.2 h_10
          exact c_X9_copy_43 E hret hX hI (lv_sub hl_4 [] rfl) hw
    · replace hw := hw.1 hq
      subst hq
      replace hl_4 : lv_has ls 8 [(7, .null), (6, .ref (H0.size + q_5)), (0, .ref (H0.size + th)), (1, .int a1), (2, .int a2), (3, .int a3), (4, .int a4), (5, .int a5)] := hl_4
      exact c_X9_copy_24 E hret hX hI (lv_sub hl_4 [] rfl) hw
set_option maxHeartbeats 4000000 in
set_option maxRecDepth 100000 in
theorem k_X9_checkFromNumbers {l : Launch} {G : pm_G} {H0 : Heap} {th : Nat} {a1 : Int32} {M : pm_M} {Post : Nat → pm_M → Prop} (t_th : pm_is M th 8) (hw : w_X9_checkFromNumbers th a1 M Post) : pm_C l G H0 yX9_checkFromNumbers cX9_checkFromNumbers 2 (some (.object "IndependenceDesk$Check")) rm_X9_checkFromNumbers [.ref (H0.size + th), .int a1] M (pm_Pc H0.size Post) := by
  refine pm_start (by decide +kernel) (Nat.le_of_ble_eq_true rfl) ?_
  intro p e s m args below meth c H ls E hret hnm hI hl
  have hX : pm_X M M := pm_X.rf
  have hl : lv_has ls 2 [(0, .ref (H0.size + th)), (1, .int a1)] := hl
  have hx := E.1
  have hb := E.2.1
  have hown := E.2.2.2.1
  have hts := E.2.2.2.2.1
  unfold w_X9_checkFromNumbers at hw
  refine lv_iload_n hx hb dX9_checkFromNumbers_0 rfl (lv_at hl 1 rfl) ?_
  refine pm_cases (x := a1) 0 6 (fun j hj h9 => ?_) (fun h9 => ?_)
  · match j, hj, h9 with
    | 0, hj, h9 =>
      refine lv_tableIn (tgt := 40) hx hb dX9_checkFromNumbers_1 (by rw [h9]; decide) (by rw [h9]; decide) (by rw [h9]; rfl) (by decide) ?_
      replace hw := hw.1 h9
      refine lv_aload_n hx hb dX9_checkFromNumbers_40 rfl (lv_at hl 0 rfl) ?_
      obtain ⟨q_1, e_q_1, hw⟩ := hw
      refine gf_X9_38 E hI t_th dX9_checkFromNumbers_41 e_q_1 (fun t_q_1 => ?_)
      refine lv_aload_n hx hb dX9_checkFromNumbers_44 rfl (lv_at hl 0 rfl) ?_
      obtain ⟨q_2, e_q_2, hw⟩ := hw
      refine gf_X9_31 E hI t_th dX9_checkFromNumbers_45 e_q_2 (fun t_q_2 => ?_)
      refine lv_aload_n hx hb dX9_checkFromNumbers_48 rfl (lv_at hl 0 rfl) ?_
      refine gf_X9_135 E hI t_th dX9_checkFromNumbers_49 ?_
      refine pm_callV (As := [.ref (H0.size + q_2), .int (mI M th 10)]) (rest := []) 2 E hI (k_X7_readSets t_q_1 t_q_2 hw) t_q_1 (by decide) rfl kc_X7_readSets kl_X9_239 km_X7_readSets ks_X7_readSets ki_X7 (by decide +kernel) ⟨by decide, by decide⟩ rfl hl.1 rfl (by first | exact Nat.le_of_ble_eq_true rfl | (simp only [List.map, pm_rf_cat]; exact Nat.le_of_ble_eq_true rfl)) dX9_checkFromNumbers_52 ⟨by decide, by decide⟩ (fun r9 M_3 H locs hp hX1 hI => ?_)
      clear hw
      obtain ⟨rfl, hw⟩ := hp
      replace t_th := t_th.x hX1
      replace hX := hX.tr hX1
      refine pm_nrm (cells' := 0) (slots' := 0) (g2 := F0 m 55 ls []) rfl rfl rfl ?_
      refine lv_aload_n hx hb dX9_checkFromNumbers_55 rfl (lv_at hl 0 rfl) ?_
      obtain ⟨q_4, e_q_4, hw⟩ := hw
      refine gf_X9_38 E hI t_th dX9_checkFromNumbers_56 e_q_4 (fun t_q_4 => ?_)
      exact pm_aret (x := some q_4) E hret hI hX ⟨_, rfl, (pm_isC.of t_q_4 (by decide)), hw⟩ (by decide) (by decide) dX9_checkFromNumbers_59
    | 1, hj, h9 =>
      refine lv_tableIn (tgt := 60) hx hb dX9_checkFromNumbers_1 (by rw [h9]; decide) (by rw [h9]; decide) (by rw [h9]; rfl) (by decide) ?_
      replace hw := hw.2.1 h9
      refine lv_aload_n hx hb dX9_checkFromNumbers_60 rfl (lv_at hl 0 rfl) ?_
      obtain ⟨q_5, e_q_5, hw⟩ := hw
      refine gf_X9_45 E hI t_th dX9_checkFromNumbers_61 e_q_5 (fun t_q_5 => ?_)
      refine lv_aload_n hx hb dX9_checkFromNumbers_64 rfl (lv_at hl 0 rfl) ?_
      obtain ⟨q_6, e_q_6, hw⟩ := hw
      refine gf_X9_31 E hI t_th dX9_checkFromNumbers_65 e_q_6 (fun t_q_6 => ?_)
      refine lv_aload_n hx hb dX9_checkFromNumbers_68 rfl (lv_at hl 0 rfl) ?_
      refine gf_X9_135 E hI t_th dX9_checkFromNumbers_69 ?_
      refine pm_callV (As := [.ref (H0.size + q_6), .int (mI M th 10)]) (rest := []) 2 E hI (k_X0_readEven t_q_5 t_q_6 hw) t_q_5 (by decide) rfl kc_X0_readEven kl_X9_243 km_X0_readEven ks_X0_readEven ki_X0 (by decide +kernel) ⟨by decide, by decide⟩ rfl hl.1 rfl (by first | exact Nat.le_of_ble_eq_true rfl | (simp only [List.map, pm_rf_cat]; exact Nat.le_of_ble_eq_true rfl)) dX9_checkFromNumbers_72 ⟨by decide, by decide⟩ (fun r9 M_7 H locs hp hX1 hI => ?_)
      clear hw
      obtain ⟨rfl, hw⟩ := hp
      replace t_th := t_th.x hX1
      replace hX := hX.tr hX1
      refine pm_nrm (cells' := 0) (slots' := 0) (g2 := F0 m 75 ls []) rfl rfl rfl ?_
      refine lv_aload_n hx hb dX9_checkFromNumbers_75 rfl (lv_at hl 0 rfl) ?_
      obtain ⟨q_8, e_q_8, hw⟩ := hw
      refine gf_X9_45 E hI t_th dX9_checkFromNumbers_76 e_q_8 (fun t_q_8 => ?_)
      exact pm_aret (x := some q_8) E hret hI hX ⟨_, rfl, (pm_isC.of t_q_8 (by decide)), hw⟩ (by decide) (by decide) dX9_checkFromNumbers_79
    | 2, hj, h9 =>
      refine lv_tableIn (tgt := 80) hx hb dX9_checkFromNumbers_1 (by rw [h9]; decide) (by rw [h9]; decide) (by rw [h9]; rfl) (by decide) ?_
      replace hw := hw.2.2.1 h9
      refine lv_aload_n hx hb dX9_checkFromNumbers_80 rfl (lv_at hl 0 rfl) ?_
      obtain ⟨q_9, e_q_9, hw⟩ := hw
      refine gf_X9_45 E hI t_th dX9_checkFromNumbers_81 e_q_9 (fun t_q_9 => ?_)
      refine lv_aload_n hx hb dX9_checkFromNumbers_84 rfl (lv_at hl 0 rfl) ?_
      obtain ⟨q_10, e_q_10, hw⟩ := hw
      refine gf_X9_31 E hI t_th dX9_checkFromNumbers_85 e_q_10 (fun t_q_10 => ?_)
      refine lv_aload_n hx hb dX9_checkFromNumbers_88 rfl (lv_at hl 0 rfl) ?_
      refine gf_X9_187 E hI t_th dX9_checkFromNumbers_89 ?_
      refine pm_callV (As := [.ref (H0.size + q_10), .int (mI M th 9)]) (rest := []) 2 E hI (k_X0_readParts t_q_9 t_q_10 hw) t_q_9 (by decide) rfl kc_X0_readParts kl_X9_246 km_X0_readParts ks_X0_readParts ki_X0 (by decide +kernel) ⟨by decide, by decide⟩ rfl hl.1 rfl (by first | exact Nat.le_of_ble_eq_true rfl | (simp only [List.map, pm_rf_cat]; exact Nat.le_of_ble_eq_true rfl)) dX9_checkFromNumbers_92 ⟨by decide, by decide⟩ (fun r9 M_11 H locs hp hX1 hI => ?_)
      clear hw
      obtain ⟨rfl, hw⟩ := hp
      replace t_th := t_th.x hX1
      replace hX := hX.tr hX1
      refine pm_nrm (cells' := 0) (slots' := 0) (g2 := F0 m 95 ls []) rfl rfl rfl ?_
      refine lv_aload_n hx hb dX9_checkFromNumbers_95 rfl (lv_at hl 0 rfl) ?_
      obtain ⟨q_12, e_q_12, hw⟩ := hw
      refine gf_X9_45 E hI t_th dX9_checkFromNumbers_96 e_q_12 (fun t_q_12 => ?_)
      exact pm_aret (x := some q_12) E hret hI hX ⟨_, rfl, (pm_isC.of t_q_12 (by decide)), hw⟩ (by decide) (by decide) dX9_checkFromNumbers_99
    | 3, hj, h9 =>
      refine lv_tableIn (tgt := 100) hx hb dX9_checkFromNumbers_1 (by rw [h9]; decide) (by rw [h9]; decide) (by rw [h9]; rfl) (by decide) ?_
      replace hw := hw.2.2.2.1 h9
      refine lv_aload_n hx hb dX9_checkFromNumbers_100 rfl (lv_at hl 0 rfl) ?_
      obtain ⟨q_13, e_q_13, hw⟩ := hw
      refine gf_X9_45 E hI t_th dX9_checkFromNumbers_101 e_q_13 (fun t_q_13 => ?_)
      refine lv_aload_n hx hb dX9_checkFromNumbers_104 rfl (lv_at hl 0 rfl) ?_
      obtain ⟨q_14, e_q_14, hw⟩ := hw
      refine gf_X9_31 E hI t_th dX9_checkFromNumbers_105 e_q_14 (fun t_q_14 => ?_)
      refine lv_aload_n hx hb dX9_checkFromNumbers_108 rfl (lv_at hl 0 rfl) ?_
      refine gf_X9_135 E hI t_th dX9_checkFromNumbers_109 ?_
      refine pm_callV (As := [.ref (H0.size + q_14), .int (mI M th 10)]) (rest := []) 2 E hI (k_X0_readNested t_q_13 t_q_14 hw) t_q_13 (by decide) rfl kc_X0_readNested kl_X9_249 km_X0_readNested ks_X0_readNested ki_X0 (by decide +kernel) ⟨by decide, by decide⟩ rfl hl.1 rfl (by first | exact Nat.le_of_ble_eq_true rfl | (simp only [List.map, pm_rf_cat]; exact Nat.le_of_ble_eq_true rfl)) dX9_checkFromNumbers_112 ⟨by decide, by decide⟩ (fun r9 M_15 H locs hp hX1 hI => ?_)
      clear hw
      obtain ⟨rfl, hw⟩ := hp
      replace t_th := t_th.x hX1
      replace hX := hX.tr hX1
      refine pm_nrm (cells' := 0) (slots' := 0) (g2 := F0 m 115 ls []) rfl rfl rfl ?_
      refine lv_aload_n hx hb dX9_checkFromNumbers_115 rfl (lv_at hl 0 rfl) ?_
      obtain ⟨q_16, e_q_16, hw⟩ := hw
      refine gf_X9_45 E hI t_th dX9_checkFromNumbers_116 e_q_16 (fun t_q_16 => ?_)
      exact pm_aret (x := some q_16) E hret hI hX ⟨_, rfl, (pm_isC.of t_q_16 (by decide)), hw⟩ (by decide) (by decide) dX9_checkFromNumbers_119
    | 4, hj, h9 =>
      refine lv_tableIn (tgt := 120) hx hb dX9_checkFromNumbers_1 (by rw [h9]; decide) (by rw [h9]; decide) (by rw [h9]; rfl) (by decide) ?_
      replace hw := hw.2.2.2.2.1 h9
      refine lv_aload_n hx hb dX9_checkFromNumbers_120 rfl (lv_at hl 0 rfl) ?_
      obtain ⟨q_17, e_q_17, hw⟩ := hw
      refine gf_X9_52 E hI t_th dX9_checkFromNumbers_121 e_q_17 (fun t_q_17 => ?_)
      refine lv_aload_n hx hb dX9_checkFromNumbers_124 rfl (lv_at hl 0 rfl) ?_
      obtain ⟨q_18, e_q_18, hw⟩ := hw
      refine gf_X9_31 E hI t_th dX9_checkFromNumbers_125 e_q_18 (fun t_q_18 => ?_)
      refine lv_aload_n hx hb dX9_checkFromNumbers_128 rfl (lv_at hl 0 rfl) ?_
      refine gf_X9_187 E hI t_th dX9_checkFromNumbers_129 ?_
      refine pm_callV (As := [.ref (H0.size + q_18), .int (mI M th 9)]) (rest := []) 2 E hI (k_X3_readEdges t_q_17 t_q_18 hw) t_q_17 (by decide) rfl kc_X3_readEdges kl_X9_252 km_X3_readEdges ks_X3_readEdges ki_X3 (by decide +kernel) ⟨by decide, by decide⟩ rfl hl.1 rfl (by first | exact Nat.le_of_ble_eq_true rfl | (simp only [List.map, pm_rf_cat]; exact Nat.le_of_ble_eq_true rfl)) dX9_checkFromNumbers_132 ⟨by decide, by decide⟩ (fun r9 M_19 H locs hp hX1 hI => ?_)
      clear hw
      obtain ⟨rfl, hw⟩ := hp
      replace t_th := t_th.x hX1
      replace hX := hX.tr hX1
      refine pm_nrm (cells' := 0) (slots' := 0) (g2 := F0 m 135 ls []) rfl rfl rfl ?_
      refine lv_aload_n hx hb dX9_checkFromNumbers_135 rfl (lv_at hl 0 rfl) ?_
      obtain ⟨q_20, e_q_20, hw⟩ := hw
      refine gf_X9_52 E hI t_th dX9_checkFromNumbers_136 e_q_20 (fun t_q_20 => ?_)
      exact pm_aret (x := some q_20) E hret hI hX ⟨_, rfl, (pm_isC.of t_q_20 (by decide)), hw⟩ (by decide) (by decide) dX9_checkFromNumbers_139
    | 5, hj, h9 =>
      refine lv_tableIn (tgt := 140) hx hb dX9_checkFromNumbers_1 (by rw [h9]; decide) (by rw [h9]; decide) (by rw [h9]; rfl) (by decide) ?_
      replace hw := hw.2.2.2.2.2.1 h9
      refine lv_aload_n hx hb dX9_checkFromNumbers_140 rfl (lv_at hl 0 rfl) ?_
      obtain ⟨q_21, e_q_21, hw⟩ := hw
      refine gf_X9_59 E hI t_th dX9_checkFromNumbers_141 e_q_21 (fun t_q_21 => ?_)
      refine lv_aload_n hx hb dX9_checkFromNumbers_144 rfl (lv_at hl 0 rfl) ?_
      obtain ⟨q_22, e_q_22, hw⟩ := hw
      refine gf_X9_31 E hI t_th dX9_checkFromNumbers_145 e_q_22 (fun t_q_22 => ?_)
      refine lv_aload_n hx hb dX9_checkFromNumbers_148 rfl (lv_at hl 0 rfl) ?_
      refine gf_X9_187 E hI t_th dX9_checkFromNumbers_149 ?_
      refine pm_callV (As := [.ref (H0.size + q_22), .int (mI M th 9)]) (rest := []) 2 E hI (k_X8_readRows t_q_21 t_q_22 hw) t_q_21 (by decide) rfl kc_X8_readRows kl_X9_255 km_X8_readRows ks_X8_readRows ki_X8 (by decide +kernel) ⟨by decide, by decide⟩ rfl hl.1 rfl (by first | exact Nat.le_of_ble_eq_true rfl | (simp only [List.map, pm_rf_cat]; exact Nat.le_of_ble_eq_true rfl)) dX9_checkFromNumbers_152 ⟨by decide, by decide⟩ (fun r9 M_23 H locs hp hX1 hI => ?_)
      clear hw
      obtain ⟨rfl, hw⟩ := hp
      replace t_th := t_th.x hX1
      replace hX := hX.tr hX1
      refine pm_nrm (cells' := 0) (slots' := 0) (g2 := F0 m 155 ls []) rfl rfl rfl ?_
      refine lv_aload_n hx hb dX9_checkFromNumbers_155 rfl (lv_at hl 0 rfl) ?_
      obtain ⟨q_24, e_q_24, hw⟩ := hw
      refine gf_X9_59 E hI t_th dX9_checkFromNumbers_156 e_q_24 (fun t_q_24 => ?_)
      exact pm_aret (x := some q_24) E hret hI hX ⟨_, rfl, (pm_isC.of t_q_24 (by decide)), hw⟩ (by decide) (by decide) dX9_checkFromNumbers_159
    | (j + 6), hj, h9 => exact absurd hj (by omega)
  · refine lv_tableOut (tgt := 160) hx hb dX9_checkFromNumbers_1 (pm_out h9) (by decide) ?_
    replace hw := hw.2.2.2.2.2.2 h9
    refine lv_aload_n hx hb dX9_checkFromNumbers_160 rfl (lv_at hl 0 rfl) ?_
    obtain ⟨q_25, e_q_25, hw⟩ := hw
    refine gf_X9_52 E hI t_th dX9_checkFromNumbers_161 e_q_25 (fun t_q_25 => ?_)
    refine lv_aload_n hx hb dX9_checkFromNumbers_164 rfl (lv_at hl 0 rfl) ?_
    obtain ⟨q_26, e_q_26, hw⟩ := hw
    refine gf_X9_31 E hI t_th dX9_checkFromNumbers_165 e_q_26 (fun t_q_26 => ?_)
    refine lv_aload_n hx hb dX9_checkFromNumbers_168 rfl (lv_at hl 0 rfl) ?_
    refine gf_X9_187 E hI t_th dX9_checkFromNumbers_169 ?_
    refine pm_callV (As := [.ref (H0.size + q_26), .int (mI M th 9)]) (rest := []) 2 E hI (k_X3_readPlaces t_q_25 t_q_26 hw) t_q_25 (by decide) rfl kc_X3_readPlaces kl_X9_258 km_X3_readPlaces ks_X3_readPlaces ki_X3 (by decide +kernel) ⟨by decide, by decide⟩ rfl hl.1 rfl (by first | exact Nat.le_of_ble_eq_true rfl | (simp only [List.map, pm_rf_cat]; exact Nat.le_of_ble_eq_true rfl)) dX9_checkFromNumbers_172 ⟨by decide, by decide⟩ (fun r9 M_27 H locs hp hX1 hI => ?_)
    clear hw
    obtain ⟨rfl, hw⟩ := hp
    replace t_th := t_th.x hX1
    replace hX := hX.tr hX1
    refine pm_nrm (cells' := 0) (slots' := 0) (g2 := F0 m 175 ls []) rfl rfl rfl ?_
    refine lv_aload_n hx hb dX9_checkFromNumbers_175 rfl (lv_at hl 0 rfl) ?_
    obtain ⟨q_28, e_q_28, hw⟩ := hw
    refine gf_X9_52 E hI t_th dX9_checkFromNumbers_176 e_q_28 (fun t_q_28 => ?_)
    exact pm_aret (x := some q_28) E hret hI hX ⟨_, rfl, (pm_isC.of t_q_28 (by decide)), hw⟩ (by decide) (by decide) dX9_checkFromNumbers_179
set_option maxHeartbeats 4000000 in
set_option maxRecDepth 100000 in
theorem c_X9_addRule_43 {p : Program} {l : Launch} {e : Env} {s : State} {m : MethodId} {args : Array Value} {below : List Frame} {meth : Method} {c : Code} {G : pm_G} {H0 : Heap} {M0 : pm_M} {Post : Int32 → pm_M → Prop} {v0 : Nat} {v1 : Int32} {v2 : Int32} {v3 : Int32} {v4 : Int32} {v5 : Nat} {M : pm_M} (E : pm_E G p s m args meth c cX9_addRule 7 RX9) (hret : meth.sig.returnType = (some .int)) {H : Heap} {locs : List Loc} {ls : Array Slot} (hX : pm_X M0 M) (hI : pm_I G H0 M H locs) (t_v0 : pm_is M v0 8) (t_v5 : pm_isC M v5) (hl : lv_has ls 7 [(0, .ref (H0.size + v0)), (1, .int v1), (2, .int v2), (3, .int v3), (4, .int v4), (5, .ref (H0.size + v5))]) (hw : w_X9_addRule_43 Post v0 v1 v2 v3 v4 v5 M) : W p l e rm_X9_addRule s m args below meth c H locs 2 6 (pm_Z G H0 M0 (pm_Pi Post) below args s rm_X9_addRule.cells rm_X9_addRule.slots) (F0 m 43 ls []) := by
  have hx := E.1
  have hb := E.2.1
  have hown := E.2.2.2.1
  have hts := E.2.2.2.2.1
  unfold w_X9_addRule_43 at hw
  refine lv_aload_n hx hb dX9_addRule_43 rfl (lv_at hl 0 rfl) ?_
  obtain ⟨q_1, e_q_1, hw⟩ := hw
  refine gf_X9_17 E hI t_v0 dX9_addRule_44 e_q_1 (fun t_q_1 => ?_)
  refine lv_aload_n hx hb dX9_addRule_47 rfl (lv_at hl 0 rfl) ?_
  refine gf_X9_118 E hI t_v0 dX9_addRule_48 ?_
  obtain ⟨h_2, hw⟩ := hw
  refine ps_aaldRule E hI t_q_1 h_2 dX9_addRule_51 (fun o_3 e_o_3 o_o_3 => ?_)
  replace hw := hw o_3 e_o_3
  refine pm_astore (lv' := [(6, pm_rf H0.size o_3), (0, .ref (H0.size + v0)), (1, .int v1), (2, .int v2), (3, .int v3), (4, .int v4), (5, .ref (H0.size + v5))]) hx hb dX9_addRule_52 hl (by decide) (by first | rfl | simp [List.filter, pm_rf_cat]) (fun ls hl_4 => ?_)
  refine pm_aload hx hb dX9_addRule_54 (lv_at hl_4 0 rfl) ?_
  refine lv_iload_n hx hb dX9_addRule_56 rfl (lv_at hl_4 2 rfl) ?_
  obtain ⟨q_5, hq, hw⟩ := hw
  subst hq
  have t_q_5 := o_o_3 q_5 rfl
  replace hl_4 : lv_has ls 7 [(6, .ref (H0.size + q_5)), (0, .ref (H0.size + v0)), (1, .int v1), (2, .int v2), (3, .int v3), (4, .int v4), (5, .ref (H0.size + v5))] := hl_4
  refine W.eq (g2 := F0 m 57 ls [.int v1, .ref (H0.size + q_5)]) rfl ?_
  refine pf_X9_162 E hI t_q_5 dX9_addRule_57 (fun H locs M_6 e_M_6 hX1 hI => ?_)
  replace hw := hw M_6 e_M_6
  replace t_v0 := t_v0.x hX1
  replace t_v5 := t_v5.x hX1
  replace t_q_5 := t_q_5.x hX1
  replace hX := hX.tr hX1
  refine lv_aload hx hb dX9_addRule_60 (lv_at hl_4 0 rfl) ?_
  refine lv_iload_n hx hb dX9_addRule_62 rfl (lv_at hl_4 3 rfl) ?_
  refine pf_X9_172 E hI t_q_5 dX9_addRule_63 (fun H locs M_7 e_M_7 hX1 hI => ?_)
  replace hw := hw M_7 e_M_7
  replace t_v0 := t_v0.x hX1
  replace t_v5 := t_v5.x hX1
  replace t_q_5 := t_q_5.x hX1
  replace hX := hX.tr hX1
  refine lv_aload hx hb dX9_addRule_66 (lv_at hl_4 0 rfl) ?_
  refine lv_iload_n hx hb dX9_addRule_68 rfl (lv_at hl_4 4 rfl) ?_
  refine pf_X9_175 E hI t_q_5 dX9_addRule_69 (fun H locs M_8 e_M_8 hX1 hI => ?_)
  replace hw := hw M_8 e_M_8
  replace t_v0 := t_v0.x hX1
  replace t_v5 := t_v5.x hX1
  replace t_q_5 := t_q_5.x hX1
  replace hX := hX.tr hX1
  refine lv_aload hx hb dX9_addRule_72 (lv_at hl_4 0 rfl) ?_
  refine lv_iload hx hb dX9_addRule_74 (lv_at hl_4 5 rfl) ?_
  refine pf_X9_178 E hI t_q_5 dX9_addRule_76 (fun H locs M_9 e_M_9 hX1 hI => ?_)
  replace hw := hw M_9 e_M_9
  replace t_v0 := t_v0.x hX1
  replace t_v5 := t_v5.x hX1
  replace t_q_5 := t_q_5.x hX1
  replace hX := hX.tr hX1
  refine lv_aload hx hb dX9_addRule_79 (lv_at hl_4 0 rfl) ?_
  refine lv_aload_n hx hb dX9_addRule_81 rfl (lv_at hl_4 1 rfl) ?_
  refine gf_X9_135 E hI t_v0 dX9_addRule_82 ?_
  refine lv_aload hx hb dX9_addRule_85 (lv_at hl_4 6 rfl) ?_
  refine pm_callV (As := [.int (mI M_9 v0 10), .ref (H0.size + v5)]) (rest := []) 2 E hI (k_X5_fill t_q_5 t_v5 hw) t_q_5 (by decide) rfl kc_X5_fill kl_X9_267 km_X5_fill ks_X5_fill ki_X5 (by decide +kernel) ⟨by decide, by decide⟩ rfl hl_4.1 rfl (by first | exact Nat.le_of_ble_eq_true rfl | (simp only [List.map, pm_rf_cat]; exact Nat.le_of_ble_eq_true rfl)) dX9_addRule_87 ⟨by decide, by decide⟩ (fun r9 M_10 H locs hp hX1 hI => ?_)
  clear hw
  obtain ⟨rfl, hw⟩ := hp
  replace t_v0 := t_v0.x hX1
  replace t_v5 := t_v5.x hX1
  replace t_q_5 := t_q_5.x hX1
  replace hX := hX.tr hX1
  refine pm_nrm (cells' := 3) (slots' := 4102) (g2 := F0 m 90 ls []) rfl rfl rfl ?_
  refine lv_aload_n hx hb dX9_addRule_90 rfl (lv_at hl_4 1 rfl) ?_
  refine lv_dup hx hb dX9_addRule_91 rfl ?_
  refine gf_X9_118 E hI t_v0 dX9_addRule_92 ?_
  refine lv_iconst (v := (1 : Int32)) hx hb dX9_addRule_95 (by decide) ?_
  refine lv_iadd hx hb dX9_addRule_96 ?_
  refine pf_X9_118 E hI t_v0 dX9_addRule_97 (fun H locs M_11 e_M_11 hX1 hI => ?_)
  replace hw := hw M_11 e_M_11
  replace t_v0 := t_v0.x hX1
  replace t_v5 := t_v5.x hX1
  replace t_q_5 := t_q_5.x hX1
  replace hX := hX.tr hX1
  refine lv_aload_n hx hb dX9_addRule_100 rfl (lv_at hl_4 1 rfl) ?_
  refine gf_X9_118 E hI t_v0 dX9_addRule_101 ?_
  refine lv_iconst (v := (1 : Int32)) hx hb dX9_addRule_104 (by decide) ?_
  refine lv_isub hx hb dX9_addRule_105 ?_
  exact pm_iret E hret hI hX ⟨_, rfl, hw⟩ (by decide) (by decide) dX9_addRule_106
set_option maxHeartbeats 4000000 in
set_option maxRecDepth 100000 in
theorem k_X9_addRule {l : Launch} {G : pm_G} {H0 : Heap} {th : Nat} {a1 : Int32} {a2 : Int32} {a3 : Int32} {a4 : Int32} {a5 : Nat} {M : pm_M} {Post : Int32 → pm_M → Prop} (t_th : pm_is M th 8) (t_a5 : pm_isC M a5) (hw : w_X9_addRule th a1 a2 a3 a4 a5 M Post) : pm_C l G H0 yX9_addRule cX9_addRule 7 (some .int) rm_X9_addRule [.ref (H0.size + th), .int a1, .int a2, .int a3, .int a4, .ref (H0.size + a5)] M (pm_Pi Post) := by
  refine pm_start (by decide +kernel) (Nat.le_of_ble_eq_true rfl) ?_
  intro p e s m args below meth c H ls E hret hnm hI hl
  have hX : pm_X M M := pm_X.rf
  have hl : lv_has ls 7 [(0, .ref (H0.size + th)), (1, .int a1), (2, .int a2), (3, .int a3), (4, .int a4), (5, .ref (H0.size + a5))] := hl
  have hx := E.1
  have hb := E.2.1
  have hown := E.2.2.2.1
  have hts := E.2.2.2.2.1
  unfold w_X9_addRule at hw
  refine lv_aload_n hx hb dX9_addRule_0 rfl (lv_at hl 0 rfl) ?_
  refine gf_X9_118 E hI t_th dX9_addRule_1 ?_
  refine lv_aload_n hx hb dX9_addRule_4 rfl (lv_at hl 0 rfl) ?_
  obtain ⟨q_1, e_q_1, hw⟩ := hw
  refine gf_X9_17 E hI t_th dX9_addRule_5 e_q_1 (fun t_q_1 => ?_)
  refine ps_alenRule E hI t_q_1 dX9_addRule_8 ?_
  refine lv_icmp_lt (tgt := 15) hx hb dX9_addRule_9 (by decide) (fun h_2 => ?_) (fun h_2 => ?_)
  · replace hw := hw.1 h_2
    refine lv_aload_n hx hb dX9_addRule_15 rfl (lv_at hl 0 rfl) ?_
    refine gf_X9_17 E hI t_th dX9_addRule_16 e_q_1 (fun _ => ?_)
    refine lv_aload_n hx hb dX9_addRule_19 rfl (lv_at hl 0 rfl) ?_
    refine gf_X9_118 E hI t_th dX9_addRule_20 ?_
    obtain ⟨h_3, hw⟩ := hw
    refine ps_aaldRule E hI t_q_1 h_3 dX9_addRule_23 (fun o_4 e_o_4 o_o_4 => ?_)
    replace hw := hw o_4 e_o_4
    refine pm_ifnonnull (tgt := 43) hx hb dX9_addRule_24 (by decide) (fun q_5 hq => ?_) (fun hq => ?_)
    · replace hw := hw.2 q_5 hq
      subst hq
      have t_q_5 := o_o_4 q_5 rfl
      refine W.widen (k := 2) (n := 6) (by decide) (by decide) ?_
      exact c_X9_addRule_43 E hret hX hI t_th t_a5 (lv_sub hl [0, 1, 2, 3, 4, 5] rfl) hw
    · replace hw := hw.1 hq
      subst hq
      refine lv_aload_n hx hb dX9_addRule_27 rfl (lv_at hl 0 rfl) ?_
      refine gf_X9_17 E hI t_th dX9_addRule_28 e_q_1 (fun _ => ?_)
      refine lv_aload_n hx hb dX9_addRule_31 rfl (lv_at hl 0 rfl) ?_
      refine gf_X9_118 E hI t_th dX9_addRule_32 ?_
      refine nw_X9_15 E hI (by decide) (by decide) dX9_addRule_35 (fun H M_6 e_M_6 hX1 tn_7 hI => ?_)
      replace hw := hw M_6 e_M_6
      replace t_th := t_th.x hX1
      replace t_a5 := t_a5.x hX1
      replace t_q_1 := t_q_1.x hX1
      replace hX := hX.tr hX1
      refine pm_nrm (cells' := 1) (slots' := 5) (g2 := F0 m 38 ls [.ref (H0.size + (mZ M)), .int (mI M th 11), .ref (H0.size + q_1)]) rfl rfl rfl ?_
      refine lv_dup hx hb dX9_addRule_38 rfl ?_
      refine pm_callIN (As := []) (rest := [.ref (H0.size + (mZ M)), .int (mI M th 11), .ref (H0.size + q_1)]) 0 E hI (k_X5_init tn_7 hw) kc_X5_init kl_X9_266 km_X5_init ki_X5 rfl (by decide +kernel) ⟨by decide, by decide⟩ rfl hl.1 rfl (by first | exact Nat.le_of_ble_eq_true rfl | (simp only [List.map, pm_rf_cat]; exact Nat.le_of_ble_eq_true rfl)) dX9_addRule_39 ⟨by decide, by decide⟩ (fun r9 M_8 H locs hp hX1 hI => ?_)
      clear hw
      obtain ⟨rfl, hw⟩ := hp
      replace t_th := t_th.x hX1
      replace t_a5 := t_a5.x hX1
      replace t_q_1 := t_q_1.x hX1
      replace tn_7 := tn_7.x hX1
      replace hX := hX.tr hX1
      refine pm_nrm (cells' := 2) (slots' := 6) (g2 := F0 m 42 ls [.ref (H0.size + (mZ M)), .int (mI M th 11), .ref (H0.size + q_1)]) rfl rfl rfl ?_
      obtain ⟨h_9, hw⟩ := hw
      refine ps_aastRule E hI t_q_1 tn_7 h_9 dX9_addRule_42 (fun H locs M_10 e_M_10 hX1 hI => ?_)
      replace hw := hw M_10 e_M_10
      replace t_th := t_th.x hX1
      replace t_a5 := t_a5.x hX1
      replace hX := hX.tr hX1
      exact c_X9_addRule_43 E hret hX hI t_th t_a5 (lv_sub hl [0, 1, 2, 3, 4, 5] rfl) hw
  · replace hw := hw.2 h_2
    refine lv_bipush (v := (-8 : Int32)) hx hb dX9_addRule_12 (by decide) ?_
    exact pm_iret E hret hI hX ⟨_, rfl, hw⟩ (by decide) (by decide) dX9_addRule_14
set_option maxHeartbeats 4000000 in
set_option maxRecDepth 100000 in
theorem c_X9_rule_117 {p : Program} {l : Launch} {e : Env} {s : State} {m : MethodId} {args : Array Value} {below : List Frame} {meth : Method} {c : Code} {G : pm_G} {H0 : Heap} {M0 : pm_M} {Post : Int32 → pm_M → Prop} {v0 : Nat} {v1 : Int32} {v4 : Nat} {M : pm_M} (E : pm_E G p s m args meth c cX9_rule 5 RX9) (hret : meth.sig.returnType = (some .int)) {H : Heap} {locs : List Loc} {ls : Array Slot} (hX : pm_X M0 M) (hI : pm_I G H0 M H locs) (t_v0 : pm_is M v0 8) (t_v4 : pm_isC M v4) (hl : lv_has ls 5 [(0, .ref (H0.size + v0)), (1, .int v1), (4, .ref (H0.size + v4))]) (hw : w_X9_rule_117 Post v0 v1 v4 M) : W p l e rm_X9_rule s m args below meth c H locs 0 0 (pm_Z G H0 M0 (pm_Pi Post) below args s rm_X9_rule.cells rm_X9_rule.slots) (F0 m 117 ls []) := by
  have hx := E.1
  have hb := E.2.1
  have hown := E.2.2.2.1
  have hts := E.2.2.2.2.1
  unfold w_X9_rule_117 at hw
  refine lv_aload_n hx hb dX9_rule_117 rfl (lv_at hl 0 rfl) ?_
  refine lv_iload_n hx hb dX9_rule_118 rfl (lv_at hl 1 rfl) ?_
  refine lv_iconst (v := (-1 : Int32)) hx hb dX9_rule_119 (by decide) ?_
  refine lv_iconst (v := (-1 : Int32)) hx hb dX9_rule_120 (by decide) ?_
  refine lv_iconst (v := (1 : Int32)) hx hb dX9_rule_121 (by decide) ?_
  refine lv_aload hx hb dX9_rule_122 (lv_at hl 2 rfl) ?_
  refine pm_callV (As := [.int v1, .int (-1 : Int32), .int (-1 : Int32), .int (1 : Int32), .ref (H0.size + v4)]) (rest := []) 5 E hI (k_X9_addRule t_v0 t_v4 hw) t_v0 (by decide) rfl kc_X9_addRule kl_X9_141 km_X9_addRule ks_X9_addRule ki_X9 (by decide +kernel) ⟨by decide, by decide⟩ rfl hl.1 rfl (by first | exact Nat.le_of_ble_eq_true rfl | (simp only [List.map, pm_rf_cat]; exact Nat.le_of_ble_eq_true rfl)) dX9_rule_124 ⟨by decide, by decide⟩ (fun r9 M_1 H locs hp hX1 hI => ?_)
  clear hw
  obtain ⟨r_2, rfl, hw⟩ := hp
  replace t_v0 := t_v0.x hX1
  replace t_v4 := t_v4.x hX1
  replace hX := hX.tr hX1
  refine pm_nrm (cells' := 3) (slots' := 4102) (g2 := F0 m 127 ls [.int r_2]) rfl rfl rfl ?_
  exact pm_iret E hret hI hX ⟨_, rfl, hw⟩ (by decide) (by decide) dX9_rule_127
set_option maxHeartbeats 4000000 in
set_option maxRecDepth 100000 in
theorem c_X9_rule_96 {p : Program} {l : Launch} {e : Env} {s : State} {m : MethodId} {args : Array Value} {below : List Frame} {meth : Method} {c : Code} {G : pm_G} {H0 : Heap} {M0 : pm_M} {Post : Int32 → pm_M → Prop} {v0 : Nat} {v1 : Int32} {v4 : Nat} {M : pm_M} (E : pm_E G p s m args meth c cX9_rule 5 RX9) (hret : meth.sig.returnType = (some .int)) {H : Heap} {locs : List Loc} {ls : Array Slot} (hX : pm_X M0 M) (hI : pm_I G H0 M H locs) (t_v0 : pm_is M v0 8) (t_v4 : pm_isC M v4) (hl : lv_has ls 5 [(0, .ref (H0.size + v0)), (1, .int v1), (4, .ref (H0.size + v4))]) (hw : w_X9_rule_96 Post v0 v1 v4 M) : W p l e rm_X9_rule s m args below meth c H locs 0 0 (pm_Z G H0 M0 (pm_Pi Post) below args s rm_X9_rule.cells rm_X9_rule.slots) (F0 m 96 ls []) := by
  have hx := E.1
  have hb := E.2.1
  have hown := E.2.2.2.1
  have hts := E.2.2.2.2.1
  unfold w_X9_rule_96 at hw
  refine lv_iload_n hx hb dX9_rule_96 rfl (lv_at hl 1 rfl) ?_
  refine lv_if_ne (tgt := 117) hx hb dX9_rule_97 (by decide) (fun h_1 => ?_) (fun h_1 => ?_)
  · replace hw := hw.1 h_1
    exact c_X9_rule_117 E hret hX hI t_v0 t_v4 (lv_sub hl [0, 1, 2] rfl) hw
  · replace hw := hw.2 h_1
    refine lv_aload_n hx hb dX9_rule_100 rfl (lv_at hl 0 rfl) ?_
    obtain ⟨q_2, e_q_2, hw⟩ := hw
    refine gf_X9_38 E hI t_v0 dX9_rule_101 e_q_2 (fun t_q_2 => ?_)
    refine lv_aload_n hx hb dX9_rule_104 rfl (lv_at hl 0 rfl) ?_
    refine gf_X9_135 E hI t_v0 dX9_rule_105 ?_
    refine pm_callV (As := [.int (mI M v0 10)]) (rest := []) 1 E hI (k_X7_breaksLaw t_q_2 hw) t_q_2 (by decide) rfl kc_X7_breaksLaw kl_X9_138 km_X7_breaksLaw ks_X7_breaksLaw ki_X7 (by decide +kernel) ⟨by decide, by decide⟩ rfl hl.1 rfl (by first | exact Nat.le_of_ble_eq_true rfl | (simp only [List.map, pm_rf_cat]; exact Nat.le_of_ble_eq_true rfl)) dX9_rule_108 ⟨by decide, by decide⟩ (fun r9 M_3 H locs hp hX1 hI => ?_)
    clear hw
    obtain ⟨r_4, rfl, hw⟩ := hp
    replace t_v0 := t_v0.x hX1
    replace t_v4 := t_v4.x hX1
    replace hX := hX.tr hX1
    refine pm_nrm (cells' := 0) (slots' := 0) (g2 := F0 m 111 ls [.int r_4]) rfl rfl rfl ?_
    refine lv_if_eq (tgt := 117) hx hb dX9_rule_111 (by decide) (fun h_5 => ?_) (fun h_5 => ?_)
    · replace hw := hw.1 h_5
      exact c_X9_rule_117 E hret hX hI t_v0 t_v4 (lv_sub hl [0, 1, 2] rfl) hw
    · replace hw := hw.2 h_5
      refine lv_bipush (v := (-9 : Int32)) hx hb dX9_rule_114 (by decide) ?_
      exact pm_iret E hret hI hX ⟨_, rfl, hw⟩ (by decide) (by decide) dX9_rule_116
set_option maxHeartbeats 4000000 in
set_option maxRecDepth 100000 in
theorem c_X9_rule_20 {p : Program} {l : Launch} {e : Env} {s : State} {m : MethodId} {args : Array Value} {below : List Frame} {meth : Method} {c : Code} {G : pm_G} {H0 : Heap} {M0 : pm_M} {Post : Int32 → pm_M → Prop} {M : pm_M} (E : pm_E G p s m args meth c cX9_rule 5 RX9) (hret : meth.sig.returnType = (some .int)) {H : Heap} {locs : List Loc} {ls : Array Slot} (hX : pm_X M0 M) (hI : pm_I G H0 M H locs) (hl : lv_has ls 5 []) (hw : w_X9_rule_20 Post M) : W p l e rm_X9_rule s m args below meth c H locs 0 0 (pm_Z G H0 M0 (pm_Pi Post) below args s rm_X9_rule.cells rm_X9_rule.slots) (F0 m 20 ls []) := by
  have hx := E.1
  have hb := E.2.1
  have hown := E.2.2.2.1
  have hts := E.2.2.2.2.1
  unfold w_X9_rule_20 at hw
  refine lv_bipush (v := (-2 : Int32)) hx hb dX9_rule_20 (by decide) ?_
  exact pm_iret E hret hI hX ⟨_, rfl, hw⟩ (by decide) (by decide) dX9_rule_22
set_option maxHeartbeats 4000000 in
set_option maxRecDepth 100000 in
theorem k_X9_rule {l : Launch} {G : pm_G} {H0 : Heap} {th : Nat} {a1 : Int32} {a2 : Int32} {M : pm_M} {Post : Int32 → pm_M → Prop} (t_th : pm_is M th 8) (hw : w_X9_rule th a1 a2 M Post) : pm_C l G H0 yX9_rule cX9_rule 5 (some .int) rm_X9_rule [.ref (H0.size + th), .int a1, .int a2] M (pm_Pi Post) := by
  refine pm_start (by decide +kernel) (Nat.le_of_ble_eq_true rfl) ?_
  intro p e s m args below meth c H ls E hret hnm hI hl
  have hX : pm_X M M := pm_X.rf
  have hl : lv_has ls 5 [(0, .ref (H0.size + th)), (1, .int a1), (2, .int a2)] := hl
  have hx := E.1
  have hb := E.2.1
  have hown := E.2.2.2.1
  have hts := E.2.2.2.2.1
  unfold w_X9_rule at hw
  refine lv_aload_n hx hb dX9_rule_0 rfl (lv_at hl 0 rfl) ?_
  refine lv_iload_n hx hb dX9_rule_1 rfl (lv_at hl 2 rfl) ?_
  refine pm_callV (As := [.int a2]) (rest := []) 1 E hI (k_X9_slotAt t_th hw) t_th (by decide) rfl kc_X9_slotAt kl_X9_73 km_X9_slotAt ks_X9_slotAt ki_X9 (by decide +kernel) ⟨by decide, by decide⟩ rfl hl.1 rfl (by first | exact Nat.le_of_ble_eq_true rfl | (simp only [List.map, pm_rf_cat]; exact Nat.le_of_ble_eq_true rfl)) dX9_rule_2 ⟨by decide, by decide⟩ (fun r9 M9 H locs hp hX1 hI => ?_)
  clear hw
  obtain ⟨r_1, rfl, o_r_1, rfl, hw⟩ := hp
  refine pm_nrm (cells' := 0) (slots' := 0) (g2 := F0 m 5 ls [pm_rf H0.size r_1]) rfl rfl rfl ?_
  refine pm_astore_n (lv' := [(3, pm_rf H0.size r_1), (0, .ref (H0.size + th)), (1, .int a1), (2, .int a2)]) hx hb dX9_rule_5 rfl hl (by decide) (by first | rfl | simp [List.filter, pm_rf_cat]) (fun ls hl_2 => ?_)
  refine pm_aload_n hx hb dX9_rule_6 rfl (lv_at hl_2 0 rfl) ?_
  refine pm_ifnull (tgt := 20) hx hb dX9_rule_7 (by decide) (fun hq => ?_) (fun q_3 hq => ?_)
  · replace hw := hw.1 hq
    subst hq
    replace hl_2 : lv_has ls 5 [(3, .null), (0, .ref (H0.size + th)), (1, .int a1), (2, .int a2)] := hl_2
    exact c_X9_rule_20 E hret hX hI (lv_sub hl_2 [] rfl) hw
  · replace hw := hw.2 q_3 hq
    subst hq
    have t_q_3 := o_r_1 q_3 rfl
    replace hl_2 : lv_has ls 5 [(3, .ref (H0.size + q_3)), (0, .ref (H0.size + th)), (1, .int a1), (2, .int a2)] := hl_2
    refine lv_iload_n hx hb dX9_rule_10 rfl (lv_at hl_2 2 rfl) ?_
    refine lv_if_lt (tgt := 20) hx hb dX9_rule_11 (by decide) (fun h_4 => ?_) (fun h_4 => ?_)
    · replace hw := hw.1 h_4
      exact c_X9_rule_20 E hret hX hI (lv_sub hl_2 [] rfl) hw
    · replace hw := hw.2 h_4
      refine lv_iload_n hx hb dX9_rule_14 rfl (lv_at hl_2 2 rfl) ?_
      refine lv_bipush (v := (6 : Int32)) hx hb dX9_rule_15 (by decide) ?_
      refine lv_icmp_le (tgt := 23) hx hb dX9_rule_17 (by decide) (fun h_5 => ?_) (fun h_5 => ?_)
      · replace hw := hw.1 h_5
        refine lv_aload_n hx hb dX9_rule_23 rfl (lv_at hl_2 1 rfl) ?_
        refine gf_X9_118 E hI t_th dX9_rule_24 ?_
        refine lv_bipush (v := (24 : Int32)) hx hb dX9_rule_27 (by decide) ?_
        refine lv_icmp_lt (tgt := 35) hx hb dX9_rule_29 (by decide) (fun h_6 => ?_) (fun h_6 => ?_)
        · replace hw := hw.1 h_6
          refine lv_aload_n hx hb dX9_rule_35 rfl (lv_at hl_2 0 rfl) ?_
          refine pm_callV (As := []) (rest := []) 0 E hI (k_X6_hasRow t_q_3 hw) t_q_3 (by decide) rfl kc_X6_hasRow kl_X9_81 km_X6_hasRow ks_X6_hasRow ki_X6 (by decide +kernel) ⟨by decide, by decide⟩ rfl hl_2.1 rfl (by first | exact Nat.le_of_ble_eq_true rfl | (simp only [List.map, pm_rf_cat]; exact Nat.le_of_ble_eq_true rfl)) dX9_rule_36 ⟨by decide, by decide⟩ (fun r9 M9 H locs hp hX1 hI => ?_)
          clear hw
          obtain ⟨r_7, rfl, rfl, hw⟩ := hp
          refine pm_nrm (cells' := 0) (slots' := 0) (g2 := F0 m 39 ls [.int r_7]) rfl rfl rfl ?_
          refine lv_if_ne (tgt := 45) hx hb dX9_rule_39 (by decide) (fun h_8 => ?_) (fun h_8 => ?_)
          · replace hw := hw.1 h_8
            refine lv_aload_n hx hb dX9_rule_45 rfl (lv_at hl_2 1 rfl) ?_
            obtain ⟨q_9, e_q_9, hw⟩ := hw
            refine gf_X9_31 E hI t_th dX9_rule_46 e_q_9 (fun t_q_9 => ?_)
            refine lv_aload_n hx hb dX9_rule_49 rfl (lv_at hl_2 0 rfl) ?_
            refine pm_callV (As := [.ref (H0.size + q_3)]) (rest := []) 1 E hI (k_X4_start t_q_9 t_q_3 hw) t_q_9 (by decide) rfl kc_X4_start kl_X9_121 km_X4_start ks_X4_start ki_X4 (by decide +kernel) ⟨by decide, by decide⟩ rfl hl_2.1 rfl (by first | exact Nat.le_of_ble_eq_true rfl | (simp only [List.map, pm_rf_cat]; exact Nat.le_of_ble_eq_true rfl)) dX9_rule_50 ⟨by decide, by decide⟩ (fun r9 M_10 H locs hp hX1 hI => ?_)
            clear hw
            obtain ⟨rfl, hw⟩ := hp
            replace t_th := t_th.x hX1
            replace t_q_3 := t_q_3.x hX1
            replace hX := hX.tr hX1
            refine pm_nrm (cells' := 0) (slots' := 0) (g2 := F0 m 53 ls []) rfl rfl rfl ?_
            refine lv_aload_n hx hb dX9_rule_53 rfl (lv_at hl_2 1 rfl) ?_
            refine lv_iload_n hx hb dX9_rule_54 rfl (lv_at hl_2 2 rfl) ?_
            refine pm_callV (As := [.int a1]) (rest := []) 1 E hI (k_X9_checkFromNumbers t_th hw) t_th (by decide) rfl kc_X9_checkFromNumbers kl_X9_125 km_X9_checkFromNumbers ks_X9_checkFromNumbers ki_X9 (by decide +kernel) ⟨by decide, by decide⟩ rfl hl_2.1 rfl (by first | exact Nat.le_of_ble_eq_true rfl | (simp only [List.map, pm_rf_cat]; exact Nat.le_of_ble_eq_true rfl)) dX9_rule_55 ⟨by decide, by decide⟩ (fun r9 M_11 H locs hp hX1 hI => ?_)
            clear hw
            obtain ⟨r_12, rfl, t_r_12, hw⟩ := hp
            replace t_th := t_th.x hX1
            replace t_q_3 := t_q_3.x hX1
            replace hX := hX.tr hX1
            refine pm_nrm (cells' := 0) (slots' := 0) (g2 := F0 m 58 ls [.ref (H0.size + r_12)]) rfl rfl rfl ?_
            refine lv_astore (lv' := [(4, .ref (H0.size + r_12)), (3, .ref (H0.size + q_3)), (0, .ref (H0.size + th)), (1, .int a1), (2, .int a2)]) hx hb dX9_rule_58 hl_2 (by decide) rfl (fun ls hl_13 => ?_)
            refine lv_aload_n hx hb dX9_rule_60 rfl (lv_at hl_13 2 rfl) ?_
            obtain ⟨q_14, e_q_14, hw⟩ := hw
            refine gf_X9_31 E hI t_th dX9_rule_61 e_q_14 (fun t_q_14 => ?_)
            refine gf_X9_129 E hI t_q_14 dX9_rule_64 ?_
            refine lv_if_eq (tgt := 78) hx hb dX9_rule_67 (by decide) (fun h_15 => ?_) (fun h_15 => ?_)
            · replace hw := hw.1 h_15
              refine lv_iload_n hx hb dX9_rule_78 rfl (lv_at hl_13 3 rfl) ?_
              refine lv_iconst (v := (3 : Int32)) hx hb dX9_rule_79 (by decide) ?_
              refine lv_icmp_ne (tgt := 96) hx hb dX9_rule_80 (by decide) (fun h_16 => ?_) (fun h_16 => ?_)
              · replace hw := hw.1 h_16
                exact c_X9_rule_96 E hret hX hI t_th t_r_12 (lv_sub hl_13 [2, 3, 0] rfl) hw
              · replace hw := hw.2 h_16
                refine lv_aload_n hx hb dX9_rule_83 rfl (lv_at hl_13 2 rfl) ?_
                obtain ⟨q_17, e_q_17, hw⟩ := hw
                refine gf_X9_45 E hI t_th dX9_rule_84 e_q_17 (fun t_q_17 => ?_)
                refine pm_callV (As := []) (rest := []) 0 E hI (k_X0_lieNested t_q_17 hw) t_q_17 (by decide) rfl kc_X0_lieNested kl_X9_132 km_X0_lieNested ks_X0_lieNested ki_X0 (by decide +kernel) ⟨by decide, by decide⟩ rfl hl_13.1 rfl (by first | exact Nat.le_of_ble_eq_true rfl | (simp only [List.map, pm_rf_cat]; exact Nat.le_of_ble_eq_true rfl)) dX9_rule_87 ⟨by decide, by decide⟩ (fun r9 M9 H locs hp hX1 hI => ?_)
                clear hw
                obtain ⟨r_18, rfl, rfl, hw⟩ := hp
                refine pm_nrm (cells' := 0) (slots' := 0) (g2 := F0 m 90 ls [.int r_18]) rfl rfl rfl ?_
                refine lv_if_ne (tgt := 96) hx hb dX9_rule_90 (by decide) (fun h_19 => ?_) (fun h_19 => ?_)
                · replace hw := hw.1 h_19
                  exact c_X9_rule_96 E hret hX hI t_th t_r_12 (lv_sub hl_13 [2, 3, 0] rfl) hw
                · replace hw := hw.2 h_19
                  refine lv_bipush (v := (-7 : Int32)) hx hb dX9_rule_93 (by decide) ?_
                  exact pm_iret E hret hI hX ⟨_, rfl, hw⟩ (by decide) (by decide) dX9_rule_95
            · replace hw := hw.2 h_15
              refine lv_aload_n hx hb dX9_rule_70 rfl (lv_at hl_13 2 rfl) ?_
              refine gf_X9_31 E hI t_th dX9_rule_71 e_q_14 (fun _ => ?_)
              refine gf_X9_129 E hI t_q_14 dX9_rule_74 ?_
              exact pm_iret E hret hI hX ⟨_, rfl, hw⟩ (by decide) (by decide) dX9_rule_77
          · replace hw := hw.2 h_8
            refine lv_bipush (v := (-5 : Int32)) hx hb dX9_rule_42 (by decide) ?_
            exact pm_iret E hret hI hX ⟨_, rfl, hw⟩ (by decide) (by decide) dX9_rule_44
        · replace hw := hw.2 h_6
          refine lv_bipush (v := (-8 : Int32)) hx hb dX9_rule_32 (by decide) ?_
          exact pm_iret E hret hI hX ⟨_, rfl, hw⟩ (by decide) (by decide) dX9_rule_34
      · replace hw := hw.2 h_5
        exact c_X9_rule_20 E hret hX hI (lv_sub hl_2 [] rfl) hw
set_option maxHeartbeats 4000000 in
set_option maxRecDepth 100000 in
theorem c_X9_ruleAt_31 {p : Program} {l : Launch} {e : Env} {s : State} {m : MethodId} {args : Array Value} {below : List Frame} {meth : Method} {c : Code} {G : pm_G} {H0 : Heap} {Post : Option Nat → Prop} {s0 : Option Nat} {M : pm_M} (E : pm_E G p s m args meth c cX9_ruleAt 2 RX9) (hret : meth.sig.returnType = (some (.object "IndependenceDesk$Rule"))) {H : Heap} {locs : List Loc} {ls : Array Slot} (hI : pm_I G H0 M H locs) (o_s0 : ∀ b, s0 = some b → pm_is M b 4) (hl : lv_has ls 2 []) (hw : w_X9_ruleAt_31 Post s0 M) : W p l e rm_X9_ruleAt s m args below meth c H locs 0 0 (pm_Z G H0 M (pm_Po H0.size 4 (fun r9 M9 => M = M9 ∧ Post r9)) below args s rm_X9_ruleAt.cells rm_X9_ruleAt.slots) (F0 m 31 ls [pm_rf H0.size s0]) := by
  have hx := E.1
  have hb := E.2.1
  have hown := E.2.2.2.1
  have hts := E.2.2.2.2.1
  unfold w_X9_ruleAt_31 at hw
  exact pm_aret (x := s0) E hret hI pm_X.rf ⟨_, rfl, o_s0, rfl, hw⟩ (by decide) (by decide) dX9_ruleAt_31
set_option maxHeartbeats 4000000 in
set_option maxRecDepth 100000 in
theorem c_X9_ruleAt_30 {p : Program} {l : Launch} {e : Env} {s : State} {m : MethodId} {args : Array Value} {below : List Frame} {meth : Method} {c : Code} {G : pm_G} {H0 : Heap} {Post : Option Nat → Prop} {M : pm_M} (E : pm_E G p s m args meth c cX9_ruleAt 2 RX9) (hret : meth.sig.returnType = (some (.object "IndependenceDesk$Rule"))) {H : Heap} {locs : List Loc} {ls : Array Slot} (hI : pm_I G H0 M H locs) (hl : lv_has ls 2 []) (hw : w_X9_ruleAt_30 Post M) : W p l e rm_X9_ruleAt s m args below meth c H locs 0 0 (pm_Z G H0 M (pm_Po H0.size 4 (fun r9 M9 => M = M9 ∧ Post r9)) below args s rm_X9_ruleAt.cells rm_X9_ruleAt.slots) (F0 m 30 ls []) := by
  have hx := E.1
  have hb := E.2.1
  have hown := E.2.2.2.1
  have hts := E.2.2.2.2.1
  unfold w_X9_ruleAt_30 at hw
  refine lv_null hx hb dX9_ruleAt_30 ?_
  exact c_X9_ruleAt_31 E hret hI (fun b h => by cases h) (lv_sub hl [] rfl) hw
set_option maxHeartbeats 4000000 in
set_option maxRecDepth 100000 in
theorem k_X9_ruleAt {l : Launch} {G : pm_G} {H0 : Heap} {th : Nat} {a1 : Int32} {M : pm_M} {Post : Option Nat → Prop} (t_th : pm_is M th 8) (hw : w_X9_ruleAt th a1 M Post) : pm_C l G H0 yX9_ruleAt cX9_ruleAt 2 (some (.object "IndependenceDesk$Rule")) rm_X9_ruleAt [.ref (H0.size + th), .int a1] M (pm_Po H0.size 4 (fun r9 M9 => M = M9 ∧ Post r9)) := by
  refine pm_start (by decide +kernel) (Nat.le_of_ble_eq_true rfl) ?_
  intro p e s m args below meth c H ls E hret hnm hI hl
  have hl : lv_has ls 2 [(0, .ref (H0.size + th)), (1, .int a1)] := hl
  have hx := E.1
  have hb := E.2.1
  have hown := E.2.2.2.1
  have hts := E.2.2.2.2.1
  unfold w_X9_ruleAt at hw
  refine lv_iload_n hx hb dX9_ruleAt_0 rfl (lv_at hl 1 rfl) ?_
  refine lv_if_lt (tgt := 30) hx hb dX9_ruleAt_1 (by decide) (fun h_1 => ?_) (fun h_1 => ?_)
  · replace hw := hw.1 h_1
    exact c_X9_ruleAt_30 E hret hI (lv_sub hl [] rfl) hw
  · replace hw := hw.2 h_1
    refine lv_iload_n hx hb dX9_ruleAt_4 rfl (lv_at hl 1 rfl) ?_
    refine lv_aload_n hx hb dX9_ruleAt_5 rfl (lv_at hl 0 rfl) ?_
    refine gf_X9_118 E hI t_th dX9_ruleAt_6 ?_
    refine lv_icmp_ge (tgt := 30) hx hb dX9_ruleAt_9 (by decide) (fun h_2 => ?_) (fun h_2 => ?_)
    · replace hw := hw.1 h_2
      exact c_X9_ruleAt_30 E hret hI (lv_sub hl [] rfl) hw
    · replace hw := hw.2 h_2
      refine lv_iload_n hx hb dX9_ruleAt_12 rfl (lv_at hl 1 rfl) ?_
      refine lv_aload_n hx hb dX9_ruleAt_13 rfl (lv_at hl 0 rfl) ?_
      obtain ⟨q_3, e_q_3, hw⟩ := hw
      refine gf_X9_17 E hI t_th dX9_ruleAt_14 e_q_3 (fun t_q_3 => ?_)
      refine ps_alenRule E hI t_q_3 dX9_ruleAt_17 ?_
      refine lv_icmp_ge (tgt := 30) hx hb dX9_ruleAt_18 (by decide) (fun h_4 => ?_) (fun h_4 => ?_)
      · replace hw := hw.1 h_4
        exact c_X9_ruleAt_30 E hret hI (lv_sub hl [] rfl) hw
      · replace hw := hw.2 h_4
        refine lv_aload_n hx hb dX9_ruleAt_21 rfl (lv_at hl 0 rfl) ?_
        refine gf_X9_17 E hI t_th dX9_ruleAt_22 e_q_3 (fun _ => ?_)
        refine lv_iload_n hx hb dX9_ruleAt_25 rfl (lv_at hl 1 rfl) ?_
        obtain ⟨h_5, hw⟩ := hw
        refine ps_aaldRule E hI t_q_3 h_5 dX9_ruleAt_26 (fun o_6 e_o_6 o_o_6 => ?_)
        replace hw := hw o_6 e_o_6
        refine lv_goto (tgt := 31) hx hb dX9_ruleAt_27 (by decide) ?_
        exact c_X9_ruleAt_31 E hret hI o_o_6 (lv_sub hl [] rfl) hw
set_option maxHeartbeats 4000000 in
set_option maxRecDepth 100000 in
theorem c_X9_isSet_17 {p : Program} {l : Launch} {e : Env} {s : State} {m : MethodId} {args : Array Value} {below : List Frame} {meth : Method} {c : Code} {G : pm_G} {H0 : Heap} {Post : Int32 → Prop} {s0 : Int32} {M : pm_M} (E : pm_E G p s m args meth c cX9_isSet 2 RX9) (hret : meth.sig.returnType = (some .boolean)) {H : Heap} {locs : List Loc} {ls : Array Slot} (hI : pm_I G H0 M H locs) (hl : lv_has ls 2 []) (hw : w_X9_isSet_17 Post s0 M) : W p l e rm_X9_isSet s m args below meth c H locs 0 0 (pm_Z G H0 M (pm_Pi (fun r9 M9 => M = M9 ∧ Post r9)) below args s rm_X9_isSet.cells rm_X9_isSet.slots) (F0 m 17 ls [.int s0]) := by
  have hx := E.1
  have hb := E.2.1
  have hown := E.2.2.2.1
  have hts := E.2.2.2.2.1
  unfold w_X9_isSet_17 at hw
  exact pm_zret E hret hI pm_X.rf (pm_nb hw.1) ⟨_, rfl, rfl, hw.2⟩ (by decide) (by decide) dX9_isSet_17
set_option maxHeartbeats 4000000 in
set_option maxRecDepth 100000 in
theorem c_X9_isSet_16 {p : Program} {l : Launch} {e : Env} {s : State} {m : MethodId} {args : Array Value} {below : List Frame} {meth : Method} {c : Code} {G : pm_G} {H0 : Heap} {Post : Int32 → Prop} {M : pm_M} (E : pm_E G p s m args meth c cX9_isSet 2 RX9) (hret : meth.sig.returnType = (some .boolean)) {H : Heap} {locs : List Loc} {ls : Array Slot} (hI : pm_I G H0 M H locs) (hl : lv_has ls 2 []) (hw : w_X9_isSet_16 Post M) : W p l e rm_X9_isSet s m args below meth c H locs 0 0 (pm_Z G H0 M (pm_Pi (fun r9 M9 => M = M9 ∧ Post r9)) below args s rm_X9_isSet.cells rm_X9_isSet.slots) (F0 m 16 ls []) := by
  have hx := E.1
  have hb := E.2.1
  have hown := E.2.2.2.1
  have hts := E.2.2.2.2.1
  unfold w_X9_isSet_16 at hw
  refine lv_iconst (v := (0 : Int32)) hx hb dX9_isSet_16 (by decide) ?_
  exact c_X9_isSet_17 E hret hI (lv_sub hl [] rfl) hw
set_option maxHeartbeats 4000000 in
set_option maxRecDepth 100000 in
theorem k_X9_isSet {l : Launch} {G : pm_G} {H0 : Heap} {th : Nat} {a1 : Int32} {M : pm_M} {Post : Int32 → Prop} (t_th : pm_is M th 8) (hw : w_X9_isSet th a1 M Post) : pm_C l G H0 yX9_isSet cX9_isSet 2 (some .boolean) rm_X9_isSet [.ref (H0.size + th), .int a1] M (pm_Pi (fun r9 M9 => M = M9 ∧ Post r9)) := by
  refine pm_start (by decide +kernel) (Nat.le_of_ble_eq_true rfl) ?_
  intro p e s m args below meth c H ls E hret hnm hI hl
  have hl : lv_has ls 2 [(0, .ref (H0.size + th)), (1, .int a1)] := hl
  have hx := E.1
  have hb := E.2.1
  have hown := E.2.2.2.1
  have hts := E.2.2.2.2.1
  unfold w_X9_isSet at hw
  refine lv_iload_n hx hb dX9_isSet_0 rfl (lv_at hl 1 rfl) ?_
  refine lv_if_lt (tgt := 16) hx hb dX9_isSet_1 (by decide) (fun h_1 => ?_) (fun h_1 => ?_)
  · replace hw := hw.1 h_1
    exact c_X9_isSet_16 E hret hI (lv_sub hl [] rfl) hw
  · replace hw := hw.2 h_1
    refine lv_iload_n hx hb dX9_isSet_4 rfl (lv_at hl 1 rfl) ?_
    refine lv_aload_n hx hb dX9_isSet_5 rfl (lv_at hl 0 rfl) ?_
    refine gf_X9_135 E hI t_th dX9_isSet_6 ?_
    refine lv_icmp_gt (tgt := 16) hx hb dX9_isSet_9 (by decide) (fun h_2 => ?_) (fun h_2 => ?_)
    · replace hw := hw.1 h_2
      exact c_X9_isSet_16 E hret hI (lv_sub hl [] rfl) hw
    · replace hw := hw.2 h_2
      refine lv_iconst (v := (1 : Int32)) hx hb dX9_isSet_12 (by decide) ?_
      refine lv_goto (tgt := 17) hx hb dX9_isSet_13 (by decide) ?_
      exact c_X9_isSet_17 E hret hI (lv_sub hl [] rfl) hw
set_option maxHeartbeats 4000000 in
set_option maxRecDepth 100000 in
theorem c_X9_addDerived_106 {p : Program} {l : Launch} {e : Env} {s : State} {m : MethodId} {args : Array Value} {below : List Frame} {meth : Method} {c : Code} {G : pm_G} {H0 : Heap} {M0 : pm_M} {Post : Int32 → pm_M → Prop} {v7 : Int32} {v8 : Nat} {s0 : Nat} {s1 : Int32} {s2 : Int32} {s3 : Int32} {M : pm_M} (E : pm_E G p s m args meth c cX9_addDerived 9 RX9) (hret : meth.sig.returnType = (some .int)) {H : Heap} {locs : List Loc} {ls : Array Slot} (hX : pm_X M0 M) (hI : pm_I G H0 M H locs) (t_v8 : pm_is M v8 1) (t_s0 : pm_is M s0 8) (hl : lv_has ls 9 [(7, .int v7), (8, .ref (H0.size + v8))]) (hw : w_X9_addDerived_106 Post v7 v8 s0 s1 s2 s3 M) : W p l e rm_X9_addDerived s m args below meth c H locs 1 5 (pm_Z G H0 M0 (pm_Pi Post) below args s rm_X9_addDerived.cells rm_X9_addDerived.slots) (F0 m 106 ls [.int s3, .int s2, .int s1, .ref (H0.size + s0)]) := by
  have hx := E.1
  have hb := E.2.1
  have hown := E.2.2.2.1
  have hts := E.2.2.2.2.1
  unfold w_X9_addDerived_106 at hw
  refine lv_iload hx hb dX9_addDerived_106 (lv_at hl 0 rfl) ?_
  refine lv_iconst (v := (1 : Int32)) hx hb dX9_addDerived_108 (by decide) ?_
  refine lv_iadd hx hb dX9_addDerived_109 ?_
  refine lv_aload hx hb dX9_addDerived_110 (lv_at hl 1 rfl) ?_
  refine pm_callV (As := [.int s1, .int s2, .int s3, .int (v7 + (1 : Int32)), .ref (H0.size + v8)]) (rest := []) 5 E hI (k_X9_addRule t_s0 (pm_isC.of t_v8 (by decide)) hw) t_s0 (by decide) rfl kc_X9_addRule kl_X9_141 km_X9_addRule ks_X9_addRule ki_X9 (by decide +kernel) ⟨by decide, by decide⟩ rfl hl.1 rfl (by first | exact Nat.le_of_ble_eq_true rfl | (simp only [List.map, pm_rf_cat]; exact Nat.le_of_ble_eq_true rfl)) dX9_addDerived_112 ⟨by decide, by decide⟩ (fun r9 M_1 H locs hp hX1 hI => ?_)
  clear hw
  obtain ⟨r_2, rfl, hw⟩ := hp
  replace t_v8 := t_v8.x hX1
  replace hX := hX.tr hX1
  refine pm_nrm (cells' := 4) (slots' := 4107) (g2 := F0 m 115 ls [.int r_2]) rfl rfl rfl ?_
  exact pm_iret E hret hI hX ⟨_, rfl, hw⟩ (by decide) (by decide) dX9_addDerived_115
set_option maxHeartbeats 4000000 in
set_option maxRecDepth 100000 in
theorem c_X9_addDerived_33 {p : Program} {l : Launch} {e : Env} {s : State} {m : MethodId} {args : Array Value} {below : List Frame} {meth : Method} {c : Code} {G : pm_G} {H0 : Heap} {M0 : pm_M} {Post : Int32 → pm_M → Prop} {M : pm_M} (E : pm_E G p s m args meth c cX9_addDerived 9 RX9) (hret : meth.sig.returnType = (some .int)) {H : Heap} {locs : List Loc} {ls : Array Slot} (hX : pm_X M0 M) (hI : pm_I G H0 M H locs) (hl : lv_has ls 9 []) (hw : w_X9_addDerived_33 Post M) : W p l e rm_X9_addDerived s m args below meth c H locs 0 0 (pm_Z G H0 M0 (pm_Pi Post) below args s rm_X9_addDerived.cells rm_X9_addDerived.slots) (F0 m 33 ls []) := by
  have hx := E.1
  have hb := E.2.1
  have hown := E.2.2.2.1
  have hts := E.2.2.2.2.1
  unfold w_X9_addDerived_33 at hw
  refine lv_bipush (v := (-2 : Int32)) hx hb dX9_addDerived_33 (by decide) ?_
  exact pm_iret E hret hI hX ⟨_, rfl, hw⟩ (by decide) (by decide) dX9_addDerived_35
set_option maxHeartbeats 4000000 in
set_option maxRecDepth 100000 in
theorem k_X9_addDerived {l : Launch} {G : pm_G} {H0 : Heap} {th : Nat} {a1 : Int32} {a2 : Int32} {a3 : Int32} {a4 : Int32} {M : pm_M} {Post : Int32 → pm_M → Prop} (t_th : pm_is M th 8) (hw : w_X9_addDerived th a1 a2 a3 a4 M Post) : pm_C l G H0 yX9_addDerived cX9_addDerived 9 (some .int) rm_X9_addDerived [.ref (H0.size + th), .int a1, .int a2, .int a3, .int a4] M (pm_Pi Post) := by
  refine pm_start (by decide +kernel) (Nat.le_of_ble_eq_true rfl) ?_
  intro p e s m args below meth c H ls E hret hnm hI hl
  have hX : pm_X M M := pm_X.rf
  have hl : lv_has ls 9 [(0, .ref (H0.size + th)), (1, .int a1), (2, .int a2), (3, .int a3), (4, .int a4)] := hl
  have hx := E.1
  have hb := E.2.1
  have hown := E.2.2.2.1
  have hts := E.2.2.2.2.1
  unfold w_X9_addDerived at hw
  refine lv_aload_n hx hb dX9_addDerived_0 rfl (lv_at hl 0 rfl) ?_
  refine lv_iload_n hx hb dX9_addDerived_1 rfl (lv_at hl 2 rfl) ?_
  refine pm_callV (As := [.int a2]) (rest := []) 1 E hI (k_X9_ruleAt t_th hw) t_th (by decide) rfl kc_X9_ruleAt kl_X9_158 km_X9_ruleAt ks_X9_ruleAt ki_X9 (by decide +kernel) ⟨by decide, by decide⟩ rfl hl.1 rfl (by first | exact Nat.le_of_ble_eq_true rfl | (simp only [List.map, pm_rf_cat]; exact Nat.le_of_ble_eq_true rfl)) dX9_addDerived_2 ⟨by decide, by decide⟩ (fun r9 M9 H locs hp hX1 hI => ?_)
  clear hw
  obtain ⟨r_1, rfl, o_r_1, rfl, hw⟩ := hp
  refine pm_nrm (cells' := 0) (slots' := 0) (g2 := F0 m 5 ls [pm_rf H0.size r_1]) rfl rfl rfl ?_
  refine pm_astore (lv' := [(5, pm_rf H0.size r_1), (0, .ref (H0.size + th)), (1, .int a1), (2, .int a2), (3, .int a3), (4, .int a4)]) hx hb dX9_addDerived_5 hl (by decide) (by first | rfl | simp [List.filter, pm_rf_cat]) (fun ls hl_2 => ?_)
  refine lv_aload_n hx hb dX9_addDerived_7 rfl (lv_at hl_2 1 rfl) ?_
  refine lv_iload_n hx hb dX9_addDerived_8 rfl (lv_at hl_2 4 rfl) ?_
  refine pm_callV (As := [.int a3]) (rest := []) 1 E hI (k_X9_ruleAt t_th hw) t_th (by decide) rfl kc_X9_ruleAt kl_X9_158 km_X9_ruleAt ks_X9_ruleAt ki_X9 (by decide +kernel) ⟨by decide, by decide⟩ rfl hl_2.1 rfl (by first | exact Nat.le_of_ble_eq_true rfl | (simp only [List.map, pm_rf_cat]; exact Nat.le_of_ble_eq_true rfl)) dX9_addDerived_9 ⟨by decide, by decide⟩ (fun r9 M9 H locs hp hX1 hI => ?_)
  clear hw
  obtain ⟨r_3, rfl, o_r_3, rfl, hw⟩ := hp
  refine pm_nrm (cells' := 0) (slots' := 0) (g2 := F0 m 12 ls [pm_rf H0.size r_3]) rfl rfl rfl ?_
  refine pm_astore (lv' := [(6, pm_rf H0.size r_3), (5, pm_rf H0.size r_1), (0, .ref (H0.size + th)), (1, .int a1), (2, .int a2), (3, .int a3), (4, .int a4)]) hx hb dX9_addDerived_12 hl_2 (by decide) (by first | rfl | simp [List.filter, pm_rf_cat]) (fun ls hl_4 => ?_)
  refine pm_aload hx hb dX9_addDerived_14 (lv_at hl_4 1 rfl) ?_
  refine pm_ifnull (tgt := 33) hx hb dX9_addDerived_16 (by decide) (fun hq => ?_) (fun q_5 hq => ?_)
  · replace hw := hw.1 hq
    subst hq
    replace hl_4 : lv_has ls 9 [(6, pm_rf H0.size r_3), (5, .null), (0, .ref (H0.size + th)), (1, .int a1), (2, .int a2), (3, .int a3), (4, .int a4)] := hl_4
    exact c_X9_addDerived_33 E hret hX hI (lv_sub hl_4 [] rfl) hw
  · replace hw := hw.2 q_5 hq
    subst hq
    have t_q_5 := o_r_1 q_5 rfl
    replace hl_4 : lv_has ls 9 [(6, pm_rf H0.size r_3), (5, .ref (H0.size + q_5)), (0, .ref (H0.size + th)), (1, .int a1), (2, .int a2), (3, .int a3), (4, .int a4)] := hl_4
    refine pm_aload hx hb dX9_addDerived_19 (lv_at hl_4 0 rfl) ?_
    refine pm_ifnull (tgt := 33) hx hb dX9_addDerived_21 (by decide) (fun hq => ?_) (fun q_6 hq => ?_)
    · replace hw := hw.1 hq
      subst hq
      replace hl_4 : lv_has ls 9 [(6, .null), (5, .ref (H0.size + q_5)), (0, .ref (H0.size + th)), (1, .int a1), (2, .int a2), (3, .int a3), (4, .int a4)] := hl_4
      exact c_X9_addDerived_33 E hret hX hI (lv_sub hl_4 [] rfl) hw
    · replace hw := hw.2 q_6 hq
      subst hq
      have t_q_6 := o_r_3 q_6 rfl
      replace hl_4 : lv_has ls 9 [(6, .ref (H0.size + q_6)), (5, .ref (H0.size + q_5)), (0, .ref (H0.size + th)), (1, .int a1), (2, .int a2), (3, .int a3), (4, .int a4)] := hl_4
      refine lv_aload_n hx hb dX9_addDerived_24 rfl (lv_at hl_4 2 rfl) ?_
      refine lv_iload hx hb dX9_addDerived_25 (lv_at hl_4 6 rfl) ?_
      refine pm_callV (As := [.int a4]) (rest := []) 1 E hI (k_X9_isSet t_th hw) t_th (by decide) rfl kc_X9_isSet kl_X9_181 km_X9_isSet ks_X9_isSet ki_X9 (by decide +kernel) ⟨by decide, by decide⟩ rfl hl_4.1 rfl (by first | exact Nat.le_of_ble_eq_true rfl | (simp only [List.map, pm_rf_cat]; exact Nat.le_of_ble_eq_true rfl)) dX9_addDerived_27 ⟨by decide, by decide⟩ (fun r9 M9 H locs hp hX1 hI => ?_)
      clear hw
      obtain ⟨r_7, rfl, rfl, hw⟩ := hp
      refine pm_nrm (cells' := 0) (slots' := 0) (g2 := F0 m 30 ls [.int r_7]) rfl rfl rfl ?_
      refine lv_if_ne (tgt := 36) hx hb dX9_addDerived_30 (by decide) (fun h_8 => ?_) (fun h_8 => ?_)
      · replace hw := hw.1 h_8
        refine lv_aload_n hx hb dX9_addDerived_36 rfl (lv_at hl_4 2 rfl) ?_
        refine gf_X9_118 E hI t_th dX9_addDerived_37 ?_
        refine lv_bipush (v := (24 : Int32)) hx hb dX9_addDerived_40 (by decide) ?_
        refine lv_icmp_lt (tgt := 48) hx hb dX9_addDerived_42 (by decide) (fun h_9 => ?_) (fun h_9 => ?_)
        · replace hw := hw.1 h_9
          refine lv_aload hx hb dX9_addDerived_48 (lv_at hl_4 1 rfl) ?_
          refine gf_X9_178 E hI t_q_5 dX9_addDerived_50 ?_
          refine lv_aload hx hb dX9_addDerived_53 (lv_at hl_4 0 rfl) ?_
          refine gf_X9_178 E hI t_q_6 dX9_addDerived_55 ?_
          refine pm_callS (As := [.int (mI M q_5 3), .int (mI M q_6 3)]) (rest := []) 2 E hI (k_J9_max_7cf53 hw) kc_J9_max_7cf53 kl_X9_210 kt_J9_max_7cf53 ki_J9 (by decide +kernel) ⟨by decide, by decide⟩ rfl hl_4.1 rfl (by first | exact Nat.le_of_ble_eq_true rfl | (simp only [List.map, pm_rf_cat]; exact Nat.le_of_ble_eq_true rfl)) dX9_addDerived_58 ⟨by decide, by decide⟩ (fun r9 M9 H locs hp hX1 hI => ?_)
          clear hw
          obtain ⟨r_10, rfl, rfl, hw⟩ := hp
          refine pm_nrm (cells' := 0) (slots' := 0) (g2 := F0 m 61 ls [.int r_10]) rfl rfl rfl ?_
          refine lv_istore (lv' := [(7, .int r_10), (6, .ref (H0.size + q_6)), (5, .ref (H0.size + q_5)), (0, .ref (H0.size + th)), (1, .int a1), (2, .int a2), (3, .int a3), (4, .int a4)]) hx hb dX9_addDerived_61 hl_4 (by decide) rfl (fun ls hl_11 => ?_)
          refine lv_iload hx hb dX9_addDerived_63 (lv_at hl_11 0 rfl) ?_
          refine lv_iconst (v := (3 : Int32)) hx hb dX9_addDerived_65 (by decide) ?_
          refine lv_icmp_lt (tgt := 72) hx hb dX9_addDerived_66 (by decide) (fun h_12 => ?_) (fun h_12 => ?_)
          · replace hw := hw.1 h_12
            refine nw_X9_261 E hI (by decide) (by decide) dX9_addDerived_72 (fun H M_13 e_M_13 hX1 tn_14 hI => ?_)
            replace hw := hw M_13 e_M_13
            replace t_th := t_th.x hX1
            replace t_q_5 := t_q_5.x hX1
            replace t_q_6 := t_q_6.x hX1
            replace hX := hX.tr hX1
            refine pm_nrm (cells' := 1) (slots' := 5) (g2 := F0 m 75 ls [.ref (H0.size + (mZ M))]) rfl rfl rfl ?_
            refine lv_dup hx hb dX9_addDerived_75 rfl ?_
            refine lv_iload_n hx hb dX9_addDerived_76 rfl (lv_at hl_11 4 rfl) ?_
            refine lv_aload hx hb dX9_addDerived_77 (lv_at hl_11 2 rfl) ?_
            refine lv_aload hx hb dX9_addDerived_79 (lv_at hl_11 1 rfl) ?_
            refine lv_iload hx hb dX9_addDerived_81 (lv_at hl_11 7 rfl) ?_
            refine lv_aload_n hx hb dX9_addDerived_83 rfl (lv_at hl_11 3 rfl) ?_
            refine gf_X9_135 E hI t_th dX9_addDerived_84 ?_
            refine pm_callI (As := [.int a1, .ref (H0.size + q_5), .ref (H0.size + q_6), .int a4, .int (mI M_13 th 10)]) (rest := [.ref (H0.size + (mZ M))]) 5 E hI (k_X2_init tn_14 t_q_5 t_q_6 hw) kc_X2_init kl_X9_263 km_X2_init ki_X2 rfl (by decide +kernel) ⟨by decide, by decide⟩ rfl hl_11.1 rfl (by first | exact Nat.le_of_ble_eq_true rfl | (simp only [List.map, pm_rf_cat]; exact Nat.le_of_ble_eq_true rfl)) dX9_addDerived_87 ⟨by decide, by decide⟩ (fun r9 M_15 H locs hp hX1 hI => ?_)
            clear hw
            obtain ⟨rfl, hw⟩ := hp
            replace t_th := t_th.x hX1
            replace t_q_5 := t_q_5.x hX1
            replace t_q_6 := t_q_6.x hX1
            replace tn_14 := tn_14.x hX1
            replace hX := hX.tr hX1
            refine pm_nrm (cells' := 1) (slots' := 5) (g2 := F0 m 90 ls [.ref (H0.size + (mZ M))]) rfl rfl rfl ?_
            refine lv_astore (lv' := [(8, .ref (H0.size + (mZ M))), (7, .int r_10), (6, .ref (H0.size + q_6)), (5, .ref (H0.size + q_5)), (0, .ref (H0.size + th)), (1, .int a1), (2, .int a2), (3, .int a3), (4, .int a4)]) hx hb dX9_addDerived_90 hl_11 (by decide) rfl (fun ls hl_16 => ?_)
            refine lv_aload_n hx hb dX9_addDerived_92 rfl (lv_at hl_16 4 rfl) ?_
            refine lv_iload_n hx hb dX9_addDerived_93 rfl (lv_at hl_16 5 rfl) ?_
            refine lv_iload_n hx hb dX9_addDerived_94 rfl (lv_at hl_16 6 rfl) ?_
            refine lv_iload_n hx hb dX9_addDerived_95 rfl (lv_at hl_16 5 rfl) ?_
            refine lv_bipush (v := (10 : Int32)) hx hb dX9_addDerived_96 (by decide) ?_
            refine lv_icmp_ne (tgt := 105) hx hb dX9_addDerived_98 (by decide) (fun h_17 => ?_) (fun h_17 => ?_)
            · replace hw := hw.1 h_17
              refine lv_iconst (v := (-1 : Int32)) hx hb dX9_addDerived_105 (by decide) ?_
              exact c_X9_addDerived_106 E hret hX hI tn_14 t_th (lv_sub hl_16 [1, 0] rfl) hw
            · replace hw := hw.2 h_17
              refine lv_iload_n hx hb dX9_addDerived_101 rfl (lv_at hl_16 7 rfl) ?_
              refine lv_goto (tgt := 106) hx hb dX9_addDerived_102 (by decide) ?_
              exact c_X9_addDerived_106 E hret hX hI tn_14 t_th (lv_sub hl_16 [1, 0] rfl) hw
          · replace hw := hw.2 h_12
            refine lv_bipush (v := (-3 : Int32)) hx hb dX9_addDerived_69 (by decide) ?_
            exact pm_iret E hret hI hX ⟨_, rfl, hw⟩ (by decide) (by decide) dX9_addDerived_71
        · replace hw := hw.2 h_9
          refine lv_bipush (v := (-8 : Int32)) hx hb dX9_addDerived_45 (by decide) ?_
          exact pm_iret E hret hI hX ⟨_, rfl, hw⟩ (by decide) (by decide) dX9_addDerived_47
      · replace hw := hw.2 h_8
        exact c_X9_addDerived_33 E hret hX hI (lv_sub hl_4 [] rfl) hw
set_option maxHeartbeats 4000000 in
set_option maxRecDepth 100000 in
theorem k_X9_less {l : Launch} {G : pm_G} {H0 : Heap} {th : Nat} {a1 : Int32} {a2 : Int32} {M : pm_M} {Post : Int32 → pm_M → Prop} (t_th : pm_is M th 8) (hw : w_X9_less th a1 a2 M Post) : pm_C l G H0 yX9_less cX9_less 3 (some .int) rm_X9_less [.ref (H0.size + th), .int a1, .int a2] M (pm_Pi Post) := by
  refine pm_start (by decide +kernel) (Nat.le_of_ble_eq_true rfl) ?_
  intro p e s m args below meth c H ls E hret hnm hI hl
  have hX : pm_X M M := pm_X.rf
  have hl : lv_has ls 3 [(0, .ref (H0.size + th)), (1, .int a1), (2, .int a2)] := hl
  have hx := E.1
  have hb := E.2.1
  have hown := E.2.2.2.1
  have hts := E.2.2.2.2.1
  unfold w_X9_less at hw
  refine lv_aload_n hx hb dX9_less_0 rfl (lv_at hl 0 rfl) ?_
  refine lv_bipush (v := (7 : Int32)) hx hb dX9_less_1 (by decide) ?_
  refine lv_iload_n hx hb dX9_less_3 rfl (lv_at hl 1 rfl) ?_
  refine lv_iload_n hx hb dX9_less_4 rfl (lv_at hl 1 rfl) ?_
  refine lv_iload_n hx hb dX9_less_5 rfl (lv_at hl 2 rfl) ?_
  refine pm_callV (As := [.int (7 : Int32), .int a1, .int a1, .int a2]) (rest := []) 4 E hI (k_X9_addDerived t_th hw) t_th (by decide) rfl kc_X9_addDerived kl_X9_145 km_X9_addDerived ks_X9_addDerived ki_X9 (by decide +kernel) ⟨by decide, by decide⟩ rfl hl.1 rfl (by first | exact Nat.le_of_ble_eq_true rfl | (simp only [List.map, pm_rf_cat]; exact Nat.le_of_ble_eq_true rfl)) dX9_less_6 ⟨by decide, by decide⟩ (fun r9 M_1 H locs hp hX1 hI => ?_)
  clear hw
  obtain ⟨r_2, rfl, hw⟩ := hp
  replace t_th := t_th.x hX1
  replace hX := hX.tr hX1
  refine pm_nrm (cells' := 4) (slots' := 4107) (g2 := F0 m 9 ls [.int r_2]) rfl rfl rfl ?_
  exact pm_iret E hret hI hX ⟨_, rfl, hw⟩ (by decide) (by decide) dX9_less_9
set_option maxHeartbeats 4000000 in
set_option maxRecDepth 100000 in
theorem k_X9_take {l : Launch} {G : pm_G} {H0 : Heap} {th : Nat} {a1 : Int32} {a2 : Int32} {M : pm_M} {Post : Int32 → pm_M → Prop} (t_th : pm_is M th 8) (hw : w_X9_take th a1 a2 M Post) : pm_C l G H0 yX9_take cX9_take 3 (some .int) rm_X9_take [.ref (H0.size + th), .int a1, .int a2] M (pm_Pi Post) := by
  refine pm_start (by decide +kernel) (Nat.le_of_ble_eq_true rfl) ?_
  intro p e s m args below meth c H ls E hret hnm hI hl
  have hX : pm_X M M := pm_X.rf
  have hl : lv_has ls 3 [(0, .ref (H0.size + th)), (1, .int a1), (2, .int a2)] := hl
  have hx := E.1
  have hb := E.2.1
  have hown := E.2.2.2.1
  have hts := E.2.2.2.2.1
  unfold w_X9_take at hw
  refine lv_aload_n hx hb dX9_take_0 rfl (lv_at hl 0 rfl) ?_
  refine lv_bipush (v := (8 : Int32)) hx hb dX9_take_1 (by decide) ?_
  refine lv_iload_n hx hb dX9_take_3 rfl (lv_at hl 1 rfl) ?_
  refine lv_iload_n hx hb dX9_take_4 rfl (lv_at hl 1 rfl) ?_
  refine lv_iload_n hx hb dX9_take_5 rfl (lv_at hl 2 rfl) ?_
  refine pm_callV (As := [.int (8 : Int32), .int a1, .int a1, .int a2]) (rest := []) 4 E hI (k_X9_addDerived t_th hw) t_th (by decide) rfl kc_X9_addDerived kl_X9_145 km_X9_addDerived ks_X9_addDerived ki_X9 (by decide +kernel) ⟨by decide, by decide⟩ rfl hl.1 rfl (by first | exact Nat.le_of_ble_eq_true rfl | (simp only [List.map, pm_rf_cat]; exact Nat.le_of_ble_eq_true rfl)) dX9_take_6 ⟨by decide, by decide⟩ (fun r9 M_1 H locs hp hX1 hI => ?_)
  clear hw
  obtain ⟨r_2, rfl, hw⟩ := hp
  replace t_th := t_th.x hX1
  replace hX := hX.tr hX1
  refine pm_nrm (cells' := 4) (slots' := 4107) (g2 := F0 m 9 ls [.int r_2]) rfl rfl rfl ?_
  exact pm_iret E hret hI hX ⟨_, rfl, hw⟩ (by decide) (by decide) dX9_take_9
set_option maxHeartbeats 4000000 in
set_option maxRecDepth 100000 in
theorem k_X9_turn {l : Launch} {G : pm_G} {H0 : Heap} {th : Nat} {a1 : Int32} {M : pm_M} {Post : Int32 → pm_M → Prop} (t_th : pm_is M th 8) (hw : w_X9_turn th a1 M Post) : pm_C l G H0 yX9_turn cX9_turn 2 (some .int) rm_X9_turn [.ref (H0.size + th), .int a1] M (pm_Pi Post) := by
  refine pm_start (by decide +kernel) (Nat.le_of_ble_eq_true rfl) ?_
  intro p e s m args below meth c H ls E hret hnm hI hl
  have hX : pm_X M M := pm_X.rf
  have hl : lv_has ls 2 [(0, .ref (H0.size + th)), (1, .int a1)] := hl
  have hx := E.1
  have hb := E.2.1
  have hown := E.2.2.2.1
  have hts := E.2.2.2.2.1
  unfold w_X9_turn at hw
  refine lv_aload_n hx hb dX9_turn_0 rfl (lv_at hl 0 rfl) ?_
  refine lv_bipush (v := (9 : Int32)) hx hb dX9_turn_1 (by decide) ?_
  refine lv_iload_n hx hb dX9_turn_3 rfl (lv_at hl 1 rfl) ?_
  refine lv_iload_n hx hb dX9_turn_4 rfl (lv_at hl 1 rfl) ?_
  refine lv_iconst (v := (0 : Int32)) hx hb dX9_turn_5 (by decide) ?_
  refine pm_callV (As := [.int (9 : Int32), .int a1, .int a1, .int (0 : Int32)]) (rest := []) 4 E hI (k_X9_addDerived t_th hw) t_th (by decide) rfl kc_X9_addDerived kl_X9_145 km_X9_addDerived ks_X9_addDerived ki_X9 (by decide +kernel) ⟨by decide, by decide⟩ rfl hl.1 rfl (by first | exact Nat.le_of_ble_eq_true rfl | (simp only [List.map, pm_rf_cat]; exact Nat.le_of_ble_eq_true rfl)) dX9_turn_6 ⟨by decide, by decide⟩ (fun r9 M_1 H locs hp hX1 hI => ?_)
  clear hw
  obtain ⟨r_2, rfl, hw⟩ := hp
  replace t_th := t_th.x hX1
  replace hX := hX.tr hX1
  refine pm_nrm (cells' := 4) (slots' := 4107) (g2 := F0 m 9 ls [.int r_2]) rfl rfl rfl ?_
  exact pm_iret E hret hI hX ⟨_, rfl, hw⟩ (by decide) (by decide) dX9_turn_9
set_option maxHeartbeats 4000000 in
set_option maxRecDepth 100000 in
theorem k_X9_join {l : Launch} {G : pm_G} {H0 : Heap} {th : Nat} {a1 : Int32} {a2 : Int32} {M : pm_M} {Post : Int32 → pm_M → Prop} (t_th : pm_is M th 8) (hw : w_X9_join th a1 a2 M Post) : pm_C l G H0 yX9_join cX9_join 3 (some .int) rm_X9_join [.ref (H0.size + th), .int a1, .int a2] M (pm_Pi Post) := by
  refine pm_start (by decide +kernel) (Nat.le_of_ble_eq_true rfl) ?_
  intro p e s m args below meth c H ls E hret hnm hI hl
  have hX : pm_X M M := pm_X.rf
  have hl : lv_has ls 3 [(0, .ref (H0.size + th)), (1, .int a1), (2, .int a2)] := hl
  have hx := E.1
  have hb := E.2.1
  have hown := E.2.2.2.1
  have hts := E.2.2.2.2.1
  unfold w_X9_join at hw
  refine lv_aload_n hx hb dX9_join_0 rfl (lv_at hl 0 rfl) ?_
  refine lv_bipush (v := (10 : Int32)) hx hb dX9_join_1 (by decide) ?_
  refine lv_iload_n hx hb dX9_join_3 rfl (lv_at hl 1 rfl) ?_
  refine lv_iload_n hx hb dX9_join_4 rfl (lv_at hl 2 rfl) ?_
  refine lv_iconst (v := (0 : Int32)) hx hb dX9_join_5 (by decide) ?_
  refine pm_callV (As := [.int (10 : Int32), .int a1, .int a2, .int (0 : Int32)]) (rest := []) 4 E hI (k_X9_addDerived t_th hw) t_th (by decide) rfl kc_X9_addDerived kl_X9_145 km_X9_addDerived ks_X9_addDerived ki_X9 (by decide +kernel) ⟨by decide, by decide⟩ rfl hl.1 rfl (by first | exact Nat.le_of_ble_eq_true rfl | (simp only [List.map, pm_rf_cat]; exact Nat.le_of_ble_eq_true rfl)) dX9_join_6 ⟨by decide, by decide⟩ (fun r9 M_1 H locs hp hX1 hI => ?_)
  clear hw
  obtain ⟨r_2, rfl, hw⟩ := hp
  replace t_th := t_th.x hX1
  replace hX := hX.tr hX1
  refine pm_nrm (cells' := 4) (slots' := 4107) (g2 := F0 m 9 ls [.int r_2]) rfl rfl rfl ?_
  exact pm_iret E hret hI hX ⟨_, rfl, hw⟩ (by decide) (by decide) dX9_join_9
set_option maxHeartbeats 4000000 in
set_option maxRecDepth 100000 in
theorem k_X9_broken {l : Launch} {G : pm_G} {H0 : Heap} {th : Nat} {a1 : Int32} {M : pm_M} {Post : Int32 → Prop} (t_th : pm_is M th 8) (hw : w_X9_broken th a1 M Post) : pm_C l G H0 yX9_broken cX9_broken 2 (some .int) rm_X9_broken [.ref (H0.size + th), .int a1] M (pm_Pi (fun r9 M9 => M = M9 ∧ Post r9)) := by
  refine pm_start (by decide +kernel) (Nat.le_of_ble_eq_true rfl) ?_
  intro p e s m args below meth c H ls E hret hnm hI hl
  have hl : lv_has ls 2 [(0, .ref (H0.size + th)), (1, .int a1)] := hl
  have hx := E.1
  have hb := E.2.1
  have hown := E.2.2.2.1
  have hts := E.2.2.2.2.1
  unfold w_X9_broken at hw
  refine lv_iload_n hx hb dX9_broken_0 rfl (lv_at hl 1 rfl) ?_
  refine pm_cases (x := a1) 0 3 (fun j hj h9 => ?_) (fun h9 => ?_)
  · match j, hj, h9 with
    | 0, hj, h9 =>
      refine lv_tableIn (tgt := 28) hx hb dX9_broken_1 (by rw [h9]; decide) (by rw [h9]; decide) (by rw [h9]; rfl) (by decide) ?_
      replace hw := hw.1 h9
      refine lv_aload_n hx hb dX9_broken_28 rfl (lv_at hl 0 rfl) ?_
      obtain ⟨q_1, e_q_1, hw⟩ := hw
      refine gf_X9_38 E hI t_th dX9_broken_29 e_q_1 (fun t_q_1 => ?_)
      refine gf_X9_149 E hI t_q_1 dX9_broken_32 ?_
      exact pm_iret E hret hI pm_X.rf ⟨_, rfl, rfl, hw⟩ (by decide) (by decide) dX9_broken_35
    | 1, hj, h9 =>
      refine lv_tableIn (tgt := 36) hx hb dX9_broken_1 (by rw [h9]; decide) (by rw [h9]; decide) (by rw [h9]; rfl) (by decide) ?_
      replace hw := hw.2.1 h9
      refine lv_aload_n hx hb dX9_broken_36 rfl (lv_at hl 0 rfl) ?_
      obtain ⟨q_2, e_q_2, hw⟩ := hw
      refine gf_X9_38 E hI t_th dX9_broken_37 e_q_2 (fun t_q_2 => ?_)
      refine gf_X9_152 E hI t_q_2 dX9_broken_40 ?_
      exact pm_iret E hret hI pm_X.rf ⟨_, rfl, rfl, hw⟩ (by decide) (by decide) dX9_broken_43
    | 2, hj, h9 =>
      refine lv_tableIn (tgt := 44) hx hb dX9_broken_1 (by rw [h9]; decide) (by rw [h9]; decide) (by rw [h9]; rfl) (by decide) ?_
      replace hw := hw.2.2.1 h9
      refine lv_aload_n hx hb dX9_broken_44 rfl (lv_at hl 0 rfl) ?_
      obtain ⟨q_3, e_q_3, hw⟩ := hw
      refine gf_X9_38 E hI t_th dX9_broken_45 e_q_3 (fun t_q_3 => ?_)
      refine gf_X9_155 E hI t_q_3 dX9_broken_48 ?_
      exact pm_iret E hret hI pm_X.rf ⟨_, rfl, rfl, hw⟩ (by decide) (by decide) dX9_broken_51
    | (j + 3), hj, h9 => exact absurd hj (by omega)
  · refine lv_tableOut (tgt := 52) hx hb dX9_broken_1 (pm_out h9) (by decide) ?_
    replace hw := hw.2.2.2 h9
    refine lv_iconst (v := (-1 : Int32)) hx hb dX9_broken_52 (by decide) ?_
    exact pm_iret E hret hI pm_X.rf ⟨_, rfl, rfl, hw⟩ (by decide) (by decide) dX9_broken_53
set_option maxHeartbeats 4000000 in
set_option maxRecDepth 100000 in
theorem k_X9_look {l : Launch} {G : pm_G} {H0 : Heap} {th : Nat} {a1 : Int32} {a2 : Int32} {M : pm_M} {Post : Int32 → Prop} (t_th : pm_is M th 8) (hw : w_X9_look th a1 a2 M Post) : pm_C l G H0 yX9_look cX9_look 4 (some .int) rm_X9_look [.ref (H0.size + th), .int a1, .int a2] M (pm_Pi (fun r9 M9 => M = M9 ∧ Post r9)) := by
  refine pm_start (by decide +kernel) (Nat.le_of_ble_eq_true rfl) ?_
  intro p e s m args below meth c H ls E hret hnm hI hl
  have hl : lv_has ls 4 [(0, .ref (H0.size + th)), (1, .int a1), (2, .int a2)] := hl
  have hx := E.1
  have hb := E.2.1
  have hown := E.2.2.2.1
  have hts := E.2.2.2.2.1
  unfold w_X9_look at hw
  refine lv_aload_n hx hb dX9_look_0 rfl (lv_at hl 0 rfl) ?_
  refine lv_iload_n hx hb dX9_look_1 rfl (lv_at hl 1 rfl) ?_
  refine pm_callV (As := [.int a1]) (rest := []) 1 E hI (k_X9_ruleAt t_th hw) t_th (by decide) rfl kc_X9_ruleAt kl_X9_158 km_X9_ruleAt ks_X9_ruleAt ki_X9 (by decide +kernel) ⟨by decide, by decide⟩ rfl hl.1 rfl (by first | exact Nat.le_of_ble_eq_true rfl | (simp only [List.map, pm_rf_cat]; exact Nat.le_of_ble_eq_true rfl)) dX9_look_2 ⟨by decide, by decide⟩ (fun r9 M9 H locs hp hX1 hI => ?_)
  clear hw
  obtain ⟨r_1, rfl, o_r_1, rfl, hw⟩ := hp
  refine pm_nrm (cells' := 0) (slots' := 0) (g2 := F0 m 5 ls [pm_rf H0.size r_1]) rfl rfl rfl ?_
  refine pm_astore_n (lv' := [(3, pm_rf H0.size r_1), (0, .ref (H0.size + th)), (1, .int a1), (2, .int a2)]) hx hb dX9_look_5 rfl hl (by decide) (by first | rfl | simp [List.filter, pm_rf_cat]) (fun ls hl_2 => ?_)
  refine pm_aload_n hx hb dX9_look_6 rfl (lv_at hl_2 0 rfl) ?_
  refine pm_ifnonnull (tgt := 12) hx hb dX9_look_7 (by decide) (fun q_3 hq => ?_) (fun hq => ?_)
  · replace hw := hw.2 q_3 hq
    subst hq
    have t_q_3 := o_r_1 q_3 rfl
    replace hl_2 : lv_has ls 4 [(3, .ref (H0.size + q_3)), (0, .ref (H0.size + th)), (1, .int a1), (2, .int a2)] := hl_2
    refine lv_iload_n hx hb dX9_look_12 rfl (lv_at hl_2 3 rfl) ?_
    refine pm_cases (x := a2) 0 6 (fun j hj h9 => ?_) (fun h9 => ?_)
    · match j, hj, h9 with
      | 0, hj, h9 =>
        refine lv_tableIn (tgt := 52) hx hb dX9_look_13 (by rw [h9]; decide) (by rw [h9]; decide) (by rw [h9]; rfl) (by decide) ?_
        replace hw := hw.1 h9
        refine lv_aload_n hx hb dX9_look_52 rfl (lv_at hl_2 0 rfl) ?_
        refine gf_X9_162 E hI t_q_3 dX9_look_53 ?_
        exact pm_iret E hret hI pm_X.rf ⟨_, rfl, rfl, hw⟩ (by decide) (by decide) dX9_look_56
      | 1, hj, h9 =>
        refine lv_tableIn (tgt := 57) hx hb dX9_look_13 (by rw [h9]; decide) (by rw [h9]; decide) (by rw [h9]; rfl) (by decide) ?_
        replace hw := hw.2.1 h9
        refine lv_aload_n hx hb dX9_look_57 rfl (lv_at hl_2 0 rfl) ?_
        refine lv_aload_n hx hb dX9_look_58 rfl (lv_at hl_2 1 rfl) ?_
        refine gf_X9_135 E hI t_th dX9_look_59 ?_
        refine pm_callV (As := [.int (mI M th 10)]) (rest := []) 1 E hI (k_X5_rankOf t_q_3 hw) t_q_3 (by decide) rfl kc_X5_rankOf kl_X9_165 km_X5_rankOf ks_X5_rankOf ki_X5 (by decide +kernel) ⟨by decide, by decide⟩ rfl hl_2.1 rfl (by first | exact Nat.le_of_ble_eq_true rfl | (simp only [List.map, pm_rf_cat]; exact Nat.le_of_ble_eq_true rfl)) dX9_look_62 ⟨by decide, by decide⟩ (fun r9 M9 H locs hp hX1 hI => ?_)
        clear hw
        obtain ⟨r_4, rfl, rfl, hw⟩ := hp
        refine pm_nrm (cells' := 0) (slots' := 0) (g2 := F0 m 65 ls [.int r_4]) rfl rfl rfl ?_
        exact pm_iret E hret hI pm_X.rf ⟨_, rfl, rfl, hw⟩ (by decide) (by decide) dX9_look_65
      | 2, hj, h9 =>
        refine lv_tableIn (tgt := 66) hx hb dX9_look_13 (by rw [h9]; decide) (by rw [h9]; decide) (by rw [h9]; rfl) (by decide) ?_
        replace hw := hw.2.2.1 h9
        refine lv_aload_n hx hb dX9_look_66 rfl (lv_at hl_2 0 rfl) ?_
        refine lv_aload_n hx hb dX9_look_67 rfl (lv_at hl_2 1 rfl) ?_
        refine gf_X9_135 E hI t_th dX9_look_68 ?_
        refine pm_callV (As := [.int (mI M th 10)]) (rest := []) 1 E hI (k_X5_allowedSets t_q_3 hw) t_q_3 (by decide) rfl kc_X5_allowedSets kl_X9_169 km_X5_allowedSets ks_X5_allowedSets ki_X5 (by decide +kernel) ⟨by decide, by decide⟩ rfl hl_2.1 rfl (by first | exact Nat.le_of_ble_eq_true rfl | (simp only [List.map, pm_rf_cat]; exact Nat.le_of_ble_eq_true rfl)) dX9_look_71 ⟨by decide, by decide⟩ (fun r9 M9 H locs hp hX1 hI => ?_)
        clear hw
        obtain ⟨r_5, rfl, rfl, hw⟩ := hp
        refine pm_nrm (cells' := 0) (slots' := 0) (g2 := F0 m 74 ls [.int r_5]) rfl rfl rfl ?_
        exact pm_iret E hret hI pm_X.rf ⟨_, rfl, rfl, hw⟩ (by decide) (by decide) dX9_look_74
      | 3, hj, h9 =>
        refine lv_tableIn (tgt := 75) hx hb dX9_look_13 (by rw [h9]; decide) (by rw [h9]; decide) (by rw [h9]; rfl) (by decide) ?_
        replace hw := hw.2.2.2.1 h9
        refine lv_aload_n hx hb dX9_look_75 rfl (lv_at hl_2 0 rfl) ?_
        refine gf_X9_172 E hI t_q_3 dX9_look_76 ?_
        exact pm_iret E hret hI pm_X.rf ⟨_, rfl, rfl, hw⟩ (by decide) (by decide) dX9_look_79
      | 4, hj, h9 =>
        refine lv_tableIn (tgt := 80) hx hb dX9_look_13 (by rw [h9]; decide) (by rw [h9]; decide) (by rw [h9]; rfl) (by decide) ?_
        replace hw := hw.2.2.2.2.1 h9
        refine lv_aload_n hx hb dX9_look_80 rfl (lv_at hl_2 0 rfl) ?_
        refine gf_X9_175 E hI t_q_3 dX9_look_81 ?_
        exact pm_iret E hret hI pm_X.rf ⟨_, rfl, rfl, hw⟩ (by decide) (by decide) dX9_look_84
      | 5, hj, h9 =>
        refine lv_tableIn (tgt := 85) hx hb dX9_look_13 (by rw [h9]; decide) (by rw [h9]; decide) (by rw [h9]; rfl) (by decide) ?_
        replace hw := hw.2.2.2.2.2.1 h9
        refine lv_aload_n hx hb dX9_look_85 rfl (lv_at hl_2 0 rfl) ?_
        refine gf_X9_178 E hI t_q_3 dX9_look_86 ?_
        exact pm_iret E hret hI pm_X.rf ⟨_, rfl, rfl, hw⟩ (by decide) (by decide) dX9_look_89
      | (j + 6), hj, h9 => exact absurd hj (by omega)
    · refine lv_tableOut (tgt := 90) hx hb dX9_look_13 (pm_out h9) (by decide) ?_
      replace hw := hw.2.2.2.2.2.2 h9
      refine lv_iconst (v := (-1 : Int32)) hx hb dX9_look_90 (by decide) ?_
      exact pm_iret E hret hI pm_X.rf ⟨_, rfl, rfl, hw⟩ (by decide) (by decide) dX9_look_91
  · replace hw := hw.1 hq
    subst hq
    replace hl_2 : lv_has ls 4 [(3, .null), (0, .ref (H0.size + th)), (1, .int a1), (2, .int a2)] := hl_2
    refine lv_iconst (v := (-1 : Int32)) hx hb dX9_look_10 (by decide) ?_
    exact pm_iret E hret hI pm_X.rf ⟨_, rfl, rfl, hw⟩ (by decide) (by decide) dX9_look_11
set_option maxHeartbeats 4000000 in
set_option maxRecDepth 100000 in
theorem c_X9_allows_33 {p : Program} {l : Launch} {e : Env} {s : State} {m : MethodId} {args : Array Value} {below : List Frame} {meth : Method} {c : Code} {G : pm_G} {H0 : Heap} {Post : Int32 → Prop} {s0 : Int32} {M : pm_M} (E : pm_E G p s m args meth c cX9_allows 4 RX9) (hret : meth.sig.returnType = (some .int)) {H : Heap} {locs : List Loc} {ls : Array Slot} (hI : pm_I G H0 M H locs) (hl : lv_has ls 4 []) (hw : w_X9_allows_33 Post s0 M) : W p l e rm_X9_allows s m args below meth c H locs 0 0 (pm_Z G H0 M (pm_Pi (fun r9 M9 => M = M9 ∧ Post r9)) below args s rm_X9_allows.cells rm_X9_allows.slots) (F0 m 33 ls [.int s0]) := by
  have hx := E.1
  have hb := E.2.1
  have hown := E.2.2.2.1
  have hts := E.2.2.2.2.1
  unfold w_X9_allows_33 at hw
  exact pm_iret E hret hI pm_X.rf ⟨_, rfl, rfl, hw⟩ (by decide) (by decide) dX9_allows_33
set_option maxHeartbeats 4000000 in
set_option maxRecDepth 100000 in
theorem c_X9_allows_18 {p : Program} {l : Launch} {e : Env} {s : State} {m : MethodId} {args : Array Value} {below : List Frame} {meth : Method} {c : Code} {G : pm_G} {H0 : Heap} {Post : Int32 → Prop} {M : pm_M} (E : pm_E G p s m args meth c cX9_allows 4 RX9) (hret : meth.sig.returnType = (some .int)) {H : Heap} {locs : List Loc} {ls : Array Slot} (hI : pm_I G H0 M H locs) (hl : lv_has ls 4 []) (hw : w_X9_allows_18 Post M) : W p l e rm_X9_allows s m args below meth c H locs 0 0 (pm_Z G H0 M (pm_Pi (fun r9 M9 => M = M9 ∧ Post r9)) below args s rm_X9_allows.cells rm_X9_allows.slots) (F0 m 18 ls []) := by
  have hx := E.1
  have hb := E.2.1
  have hown := E.2.2.2.1
  have hts := E.2.2.2.2.1
  unfold w_X9_allows_18 at hw
  refine lv_iconst (v := (-1 : Int32)) hx hb dX9_allows_18 (by decide) ?_
  exact pm_iret E hret hI pm_X.rf ⟨_, rfl, rfl, hw⟩ (by decide) (by decide) dX9_allows_19
set_option maxHeartbeats 4000000 in
set_option maxRecDepth 100000 in
theorem k_X9_allows {l : Launch} {G : pm_G} {H0 : Heap} {th : Nat} {a1 : Int32} {a2 : Int32} {M : pm_M} {Post : Int32 → Prop} (t_th : pm_is M th 8) (hw : w_X9_allows th a1 a2 M Post) : pm_C l G H0 yX9_allows cX9_allows 4 (some .int) rm_X9_allows [.ref (H0.size + th), .int a1, .int a2] M (pm_Pi (fun r9 M9 => M = M9 ∧ Post r9)) := by
  refine pm_start (by decide +kernel) (Nat.le_of_ble_eq_true rfl) ?_
  intro p e s m args below meth c H ls E hret hnm hI hl
  have hl : lv_has ls 4 [(0, .ref (H0.size + th)), (1, .int a1), (2, .int a2)] := hl
  have hx := E.1
  have hb := E.2.1
  have hown := E.2.2.2.1
  have hts := E.2.2.2.2.1
  unfold w_X9_allows at hw
  refine lv_aload_n hx hb dX9_allows_0 rfl (lv_at hl 0 rfl) ?_
  refine lv_iload_n hx hb dX9_allows_1 rfl (lv_at hl 1 rfl) ?_
  refine pm_callV (As := [.int a1]) (rest := []) 1 E hI (k_X9_ruleAt t_th hw) t_th (by decide) rfl kc_X9_ruleAt kl_X9_158 km_X9_ruleAt ks_X9_ruleAt ki_X9 (by decide +kernel) ⟨by decide, by decide⟩ rfl hl.1 rfl (by first | exact Nat.le_of_ble_eq_true rfl | (simp only [List.map, pm_rf_cat]; exact Nat.le_of_ble_eq_true rfl)) dX9_allows_2 ⟨by decide, by decide⟩ (fun r9 M9 H locs hp hX1 hI => ?_)
  clear hw
  obtain ⟨r_1, rfl, o_r_1, rfl, hw⟩ := hp
  refine pm_nrm (cells' := 0) (slots' := 0) (g2 := F0 m 5 ls [pm_rf H0.size r_1]) rfl rfl rfl ?_
  refine pm_astore_n (lv' := [(3, pm_rf H0.size r_1), (0, .ref (H0.size + th)), (1, .int a1), (2, .int a2)]) hx hb dX9_allows_5 rfl hl (by decide) (by first | rfl | simp [List.filter, pm_rf_cat]) (fun ls hl_2 => ?_)
  refine pm_aload_n hx hb dX9_allows_6 rfl (lv_at hl_2 0 rfl) ?_
  refine pm_ifnull (tgt := 18) hx hb dX9_allows_7 (by decide) (fun hq => ?_) (fun q_3 hq => ?_)
  · replace hw := hw.1 hq
    subst hq
    replace hl_2 : lv_has ls 4 [(3, .null), (0, .ref (H0.size + th)), (1, .int a1), (2, .int a2)] := hl_2
    exact c_X9_allows_18 E hret hI (lv_sub hl_2 [] rfl) hw
  · replace hw := hw.2 q_3 hq
    subst hq
    have t_q_3 := o_r_1 q_3 rfl
    replace hl_2 : lv_has ls 4 [(3, .ref (H0.size + q_3)), (0, .ref (H0.size + th)), (1, .int a1), (2, .int a2)] := hl_2
    refine lv_aload_n hx hb dX9_allows_10 rfl (lv_at hl_2 1 rfl) ?_
    refine lv_iload_n hx hb dX9_allows_11 rfl (lv_at hl_2 3 rfl) ?_
    refine pm_callV (As := [.int a2]) (rest := []) 1 E hI (k_X9_isSet t_th hw) t_th (by decide) rfl kc_X9_isSet kl_X9_181 km_X9_isSet ks_X9_isSet ki_X9 (by decide +kernel) ⟨by decide, by decide⟩ rfl hl_2.1 rfl (by first | exact Nat.le_of_ble_eq_true rfl | (simp only [List.map, pm_rf_cat]; exact Nat.le_of_ble_eq_true rfl)) dX9_allows_12 ⟨by decide, by decide⟩ (fun r9 M9 H locs hp hX1 hI => ?_)
    clear hw
    obtain ⟨r_4, rfl, rfl, hw⟩ := hp
    refine pm_nrm (cells' := 0) (slots' := 0) (g2 := F0 m 15 ls [.int r_4]) rfl rfl rfl ?_
    refine lv_if_ne (tgt := 20) hx hb dX9_allows_15 (by decide) (fun h_5 => ?_) (fun h_5 => ?_)
    · replace hw := hw.1 h_5
      refine lv_aload_n hx hb dX9_allows_20 rfl (lv_at hl_2 0 rfl) ?_
      refine lv_iload_n hx hb dX9_allows_21 rfl (lv_at hl_2 3 rfl) ?_
      refine pm_callV (As := [.int a2]) (rest := []) 1 E hI (k_X5_permits t_q_3 hw) t_q_3 (by decide) rfl kc_X5_permits kl_X9_184 km_X5_permits ks_X5_permits ki_X5 (by decide +kernel) ⟨by decide, by decide⟩ rfl hl_2.1 rfl (by first | exact Nat.le_of_ble_eq_true rfl | (simp only [List.map, pm_rf_cat]; exact Nat.le_of_ble_eq_true rfl)) dX9_allows_22 ⟨by decide, by decide⟩ (fun r9 M9 H locs hp hX1 hI => ?_)
      clear hw
      obtain ⟨r_6, rfl, rfl, hw⟩ := hp
      refine pm_nrm (cells' := 0) (slots' := 0) (g2 := F0 m 25 ls [.int r_6]) rfl rfl rfl ?_
      refine lv_if_eq (tgt := 32) hx hb dX9_allows_25 (by decide) (fun h_7 => ?_) (fun h_7 => ?_)
      · replace hw := hw.1 h_7
        refine lv_iconst (v := (0 : Int32)) hx hb dX9_allows_32 (by decide) ?_
        exact c_X9_allows_33 E hret hI (lv_sub hl_2 [] rfl) hw
      · replace hw := hw.2 h_7
        refine lv_iconst (v := (1 : Int32)) hx hb dX9_allows_28 (by decide) ?_
        refine lv_goto (tgt := 33) hx hb dX9_allows_29 (by decide) ?_
        exact c_X9_allows_33 E hret hI (lv_sub hl_2 [] rfl) hw
    · replace hw := hw.2 h_5
      exact c_X9_allows_18 E hret hI (lv_sub hl_2 [] rfl) hw
set_option maxHeartbeats 4000000 in
set_option maxRecDepth 100000 in
theorem c_X9_rank_27 {p : Program} {l : Launch} {e : Env} {s : State} {m : MethodId} {args : Array Value} {below : List Frame} {meth : Method} {c : Code} {G : pm_G} {H0 : Heap} {Post : Int32 → Prop} {s0 : Int32} {M : pm_M} (E : pm_E G p s m args meth c cX9_rank 4 RX9) (hret : meth.sig.returnType = (some .int)) {H : Heap} {locs : List Loc} {ls : Array Slot} (hI : pm_I G H0 M H locs) (hl : lv_has ls 4 []) (hw : w_X9_rank_27 Post s0 M) : W p l e rm_X9_rank s m args below meth c H locs 0 0 (pm_Z G H0 M (pm_Pi (fun r9 M9 => M = M9 ∧ Post r9)) below args s rm_X9_rank.cells rm_X9_rank.slots) (F0 m 27 ls [.int s0]) := by
  have hx := E.1
  have hb := E.2.1
  have hown := E.2.2.2.1
  have hts := E.2.2.2.2.1
  unfold w_X9_rank_27 at hw
  exact pm_iret E hret hI pm_X.rf ⟨_, rfl, rfl, hw⟩ (by decide) (by decide) dX9_rank_27
set_option maxHeartbeats 4000000 in
set_option maxRecDepth 100000 in
theorem c_X9_rank_18 {p : Program} {l : Launch} {e : Env} {s : State} {m : MethodId} {args : Array Value} {below : List Frame} {meth : Method} {c : Code} {G : pm_G} {H0 : Heap} {Post : Int32 → Prop} {M : pm_M} (E : pm_E G p s m args meth c cX9_rank 4 RX9) (hret : meth.sig.returnType = (some .int)) {H : Heap} {locs : List Loc} {ls : Array Slot} (hI : pm_I G H0 M H locs) (hl : lv_has ls 4 []) (hw : w_X9_rank_18 Post M) : W p l e rm_X9_rank s m args below meth c H locs 0 0 (pm_Z G H0 M (pm_Pi (fun r9 M9 => M = M9 ∧ Post r9)) below args s rm_X9_rank.cells rm_X9_rank.slots) (F0 m 18 ls []) := by
  have hx := E.1
  have hb := E.2.1
  have hown := E.2.2.2.1
  have hts := E.2.2.2.2.1
  unfold w_X9_rank_18 at hw
  refine lv_iconst (v := (-1 : Int32)) hx hb dX9_rank_18 (by decide) ?_
  refine lv_goto (tgt := 27) hx hb dX9_rank_19 (by decide) ?_
  exact c_X9_rank_27 E hret hI (lv_sub hl [] rfl) hw
set_option maxHeartbeats 4000000 in
set_option maxRecDepth 100000 in
theorem k_X9_rank {l : Launch} {G : pm_G} {H0 : Heap} {th : Nat} {a1 : Int32} {a2 : Int32} {M : pm_M} {Post : Int32 → Prop} (t_th : pm_is M th 8) (hw : w_X9_rank th a1 a2 M Post) : pm_C l G H0 yX9_rank cX9_rank 4 (some .int) rm_X9_rank [.ref (H0.size + th), .int a1, .int a2] M (pm_Pi (fun r9 M9 => M = M9 ∧ Post r9)) := by
  refine pm_start (by decide +kernel) (Nat.le_of_ble_eq_true rfl) ?_
  intro p e s m args below meth c H ls E hret hnm hI hl
  have hl : lv_has ls 4 [(0, .ref (H0.size + th)), (1, .int a1), (2, .int a2)] := hl
  have hx := E.1
  have hb := E.2.1
  have hown := E.2.2.2.1
  have hts := E.2.2.2.2.1
  unfold w_X9_rank at hw
  refine lv_aload_n hx hb dX9_rank_0 rfl (lv_at hl 0 rfl) ?_
  refine lv_iload_n hx hb dX9_rank_1 rfl (lv_at hl 1 rfl) ?_
  refine pm_callV (As := [.int a1]) (rest := []) 1 E hI (k_X9_ruleAt t_th hw) t_th (by decide) rfl kc_X9_ruleAt kl_X9_158 km_X9_ruleAt ks_X9_ruleAt ki_X9 (by decide +kernel) ⟨by decide, by decide⟩ rfl hl.1 rfl (by first | exact Nat.le_of_ble_eq_true rfl | (simp only [List.map, pm_rf_cat]; exact Nat.le_of_ble_eq_true rfl)) dX9_rank_2 ⟨by decide, by decide⟩ (fun r9 M9 H locs hp hX1 hI => ?_)
  clear hw
  obtain ⟨r_1, rfl, o_r_1, rfl, hw⟩ := hp
  refine pm_nrm (cells' := 0) (slots' := 0) (g2 := F0 m 5 ls [pm_rf H0.size r_1]) rfl rfl rfl ?_
  refine pm_astore_n (lv' := [(3, pm_rf H0.size r_1), (0, .ref (H0.size + th)), (1, .int a1), (2, .int a2)]) hx hb dX9_rank_5 rfl hl (by decide) (by first | rfl | simp [List.filter, pm_rf_cat]) (fun ls hl_2 => ?_)
  refine pm_aload_n hx hb dX9_rank_6 rfl (lv_at hl_2 0 rfl) ?_
  refine pm_ifnull (tgt := 18) hx hb dX9_rank_7 (by decide) (fun hq => ?_) (fun q_3 hq => ?_)
  · replace hw := hw.1 hq
    subst hq
    replace hl_2 : lv_has ls 4 [(3, .null), (0, .ref (H0.size + th)), (1, .int a1), (2, .int a2)] := hl_2
    exact c_X9_rank_18 E hret hI (lv_sub hl_2 [] rfl) hw
  · replace hw := hw.2 q_3 hq
    subst hq
    have t_q_3 := o_r_1 q_3 rfl
    replace hl_2 : lv_has ls 4 [(3, .ref (H0.size + q_3)), (0, .ref (H0.size + th)), (1, .int a1), (2, .int a2)] := hl_2
    refine lv_aload_n hx hb dX9_rank_10 rfl (lv_at hl_2 1 rfl) ?_
    refine lv_iload_n hx hb dX9_rank_11 rfl (lv_at hl_2 3 rfl) ?_
    refine pm_callV (As := [.int a2]) (rest := []) 1 E hI (k_X9_isSet t_th hw) t_th (by decide) rfl kc_X9_isSet kl_X9_181 km_X9_isSet ks_X9_isSet ki_X9 (by decide +kernel) ⟨by decide, by decide⟩ rfl hl_2.1 rfl (by first | exact Nat.le_of_ble_eq_true rfl | (simp only [List.map, pm_rf_cat]; exact Nat.le_of_ble_eq_true rfl)) dX9_rank_12 ⟨by decide, by decide⟩ (fun r9 M9 H locs hp hX1 hI => ?_)
    clear hw
    obtain ⟨r_4, rfl, rfl, hw⟩ := hp
    refine pm_nrm (cells' := 0) (slots' := 0) (g2 := F0 m 15 ls [.int r_4]) rfl rfl rfl ?_
    refine lv_if_ne (tgt := 22) hx hb dX9_rank_15 (by decide) (fun h_5 => ?_) (fun h_5 => ?_)
    · replace hw := hw.1 h_5
      refine lv_aload_n hx hb dX9_rank_22 rfl (lv_at hl_2 0 rfl) ?_
      refine lv_iload_n hx hb dX9_rank_23 rfl (lv_at hl_2 3 rfl) ?_
      refine pm_callV (As := [.int a2]) (rest := []) 1 E hI (k_X5_rankOf t_q_3 hw) t_q_3 (by decide) rfl kc_X5_rankOf kl_X9_165 km_X5_rankOf ks_X5_rankOf ki_X5 (by decide +kernel) ⟨by decide, by decide⟩ rfl hl_2.1 rfl (by first | exact Nat.le_of_ble_eq_true rfl | (simp only [List.map, pm_rf_cat]; exact Nat.le_of_ble_eq_true rfl)) dX9_rank_24 ⟨by decide, by decide⟩ (fun r9 M9 H locs hp hX1 hI => ?_)
      clear hw
      obtain ⟨r_6, rfl, rfl, hw⟩ := hp
      refine pm_nrm (cells' := 0) (slots' := 0) (g2 := F0 m 27 ls [.int r_6]) rfl rfl rfl ?_
      exact c_X9_rank_27 E hret hI (lv_sub hl_2 [] rfl) hw
    · replace hw := hw.2 h_5
      exact c_X9_rank_18 E hret hI (lv_sub hl_2 [] rfl) hw
set_option maxHeartbeats 4000000 in
set_option maxRecDepth 100000 in
theorem c_X9_span_62 {p : Program} {l : Launch} {e : Env} {s : State} {m : MethodId} {args : Array Value} {below : List Frame} {meth : Method} {c : Code} {G : pm_G} {H0 : Heap} {Post : Int32 → Prop} {v0 : Nat} {v2 : Int32} {v3 : Nat} {v4 : Int32} {v5 : Int32} {M : pm_M} {k_26 : Int32 → Int32 → Prop} (E : pm_E G p s m args meth c cX9_span 6 RX9) (hret : meth.sig.returnType = (some .int)) (hk_26 : ∀ (v4 : Int32) (v5 : Int32) (H : Heap) (locs : List Loc) (ls : Array Slot), pm_I G H0 M H locs → (pm_is M v0 8) → (pm_is M v3 4) → lv_has ls 6 [(0, .ref (H0.size + v0)), (2, .int v2), (3, .ref (H0.size + v3)), (4, .int v4), (5, .int v5)] → k_26 v4 v5 → W p l e rm_X9_span s m args below meth c H locs 0 0 (pm_Z G H0 M (pm_Pi (fun r9 M9 => M = M9 ∧ Post r9)) below args s rm_X9_span.cells rm_X9_span.slots) (F0 m 26 ls [])) {H : Heap} {locs : List Loc} {ls : Array Slot} (hI : pm_I G H0 M H locs) (t_v0 : pm_is M v0 8) (t_v3 : pm_is M v3 4) (hl : lv_has ls 6 [(0, .ref (H0.size + v0)), (2, .int v2), (3, .ref (H0.size + v3)), (4, .int v4), (5, .int v5)]) (hw : w_X9_span_62 Post k_26 v0 v2 v3 v4 v5 M) : W p l e rm_X9_span s m args below meth c H locs 0 0 (pm_Z G H0 M (pm_Pi (fun r9 M9 => M = M9 ∧ Post r9)) below args s rm_X9_span.cells rm_X9_span.slots) (F0 m 62 ls []) := by
  have hx := E.1
  have hb := E.2.1
  have hown := E.2.2.2.1
  have hts := E.2.2.2.2.1
  unfold w_X9_span_62 at hw
  obtain ⟨x_1, e_x_1⟩ : ∃ z : Int32, z = v5 + (1 : Int32) := ⟨_, rfl⟩
  refine lv_iinc (v := x_1) (lv' := [(5, .int x_1), (0, .ref (H0.size + v0)), (2, .int v2), (3, .ref (H0.size + v3)), (4, .int v4)]) hx hb dX9_span_62 hl (k := 4) rfl (by rw [e_x_1]; rfl) (by decide) rfl (fun ls hl_2 => ?_)
  replace hw := hw x_1 e_x_1
  refine lv_goto (tgt := 26) hx hb dX9_span_65 (by decide) ?_
  exact hk_26 _ _ _ _ _ hI t_v0 t_v3 (lv_sub hl_2 [1, 2, 3, 4, 0] rfl) hw
set_option maxHeartbeats 4000000 in
set_option maxRecDepth 100000 in
theorem c_X9_span_26 {p : Program} {l : Launch} {e : Env} {s : State} {m : MethodId} {args : Array Value} {below : List Frame} {meth : Method} {c : Code} {G : pm_G} {H0 : Heap} {Post : Int32 → Prop} {v0 : Nat} {v2 : Int32} {v3 : Nat} {M : pm_M} (E : pm_E G p s m args meth c cX9_span 6 RX9) (hret : meth.sig.returnType = (some .int)) : ∀ (n : Nat) (v4 : Int32) (v5 : Int32) (H : Heap) (locs : List Loc) (ls : Array Slot), pm_I G H0 M H locs → (pm_is M v0 8) → (pm_is M v3 4) → lv_has ls 6 [(0, .ref (H0.size + v0)), (2, .int v2), (3, .ref (H0.size + v3)), (4, .int v4), (5, .int v5)] → w_X9_span_26 Post v0 v2 v3 M n v4 v5 → W p l e rm_X9_span s m args below meth c H locs 0 0 (pm_Z G H0 M (pm_Pi (fun r9 M9 => M = M9 ∧ Post r9)) below args s rm_X9_span.cells rm_X9_span.slots) (F0 m 26 ls []) := by
  have hx := E.1
  have hb := E.2.1
  have hown := E.2.2.2.1
  have hts := E.2.2.2.2.1
  intro n
  induction n with
  | zero =>
    intro v4 v5 H locs ls hI t_v0 t_v3 hl hw
    unfold w_X9_span_26 at hw
    exact hw.elim
  | succ n ih =>
    intro v4 v5 H locs ls hI t_v0 t_v3 hl hw
    unfold w_X9_span_26 at hw
    refine lv_iload hx hb dX9_span_26 (lv_at hl 4 rfl) ?_
    refine lv_aload_n hx hb dX9_span_28 rfl (lv_at hl 0 rfl) ?_
    refine gf_X9_187 E hI t_v0 dX9_span_29 ?_
    refine lv_icmp_ge (tgt := 68) hx hb dX9_span_32 (by decide) (fun h_1 => ?_) (fun h_1 => ?_)
    · replace hw := hw.1 h_1
      refine lv_iload hx hb dX9_span_68 (lv_at hl 3 rfl) ?_
      exact pm_iret E hret hI pm_X.rf ⟨_, rfl, rfl, hw⟩ (by decide) (by decide) dX9_span_70
    · replace hw := hw.2 h_1
      refine lv_aload_n hx hb dX9_span_35 rfl (lv_at hl 2 rfl) ?_
      refine lv_iload_n hx hb dX9_span_36 rfl (lv_at hl 1 rfl) ?_
      refine lv_iconst (v := (1 : Int32)) hx hb dX9_span_37 (by decide) ?_
      refine lv_iload hx hb dX9_span_38 (lv_at hl 4 rfl) ?_
      refine lv_ishl hx hb dX9_span_40 ?_
      refine lv_ior hx hb dX9_span_41 ?_
      refine pm_callV (As := [.int (v2 ||| ((1 : Int32) <<< (v5 &&& 31)))]) (rest := []) 1 E hI (k_X5_rankOf t_v3 hw) t_v3 (by decide) rfl kc_X5_rankOf kl_X9_165 km_X5_rankOf ks_X5_rankOf ki_X5 (by decide +kernel) ⟨by decide, by decide⟩ rfl hl.1 rfl (by first | exact Nat.le_of_ble_eq_true rfl | (simp only [List.map, pm_rf_cat]; exact Nat.le_of_ble_eq_true rfl)) dX9_span_42 ⟨by decide, by decide⟩ (fun r9 M9 H locs hp hX1 hI => ?_)
      clear hw
      obtain ⟨r_2, rfl, rfl, hw⟩ := hp
      refine pm_nrm (cells' := 0) (slots' := 0) (g2 := F0 m 45 ls [.int r_2]) rfl rfl rfl ?_
      refine lv_aload_n hx hb dX9_span_45 rfl (lv_at hl 2 rfl) ?_
      refine lv_iload_n hx hb dX9_span_46 rfl (lv_at hl 1 rfl) ?_
      refine pm_callV (As := [.int v2]) (rest := [.int r_2]) 1 E hI (k_X5_rankOf t_v3 hw) t_v3 (by decide) rfl kc_X5_rankOf kl_X9_165 km_X5_rankOf ks_X5_rankOf ki_X5 (by decide +kernel) ⟨by decide, by decide⟩ rfl hl.1 rfl (by first | exact Nat.le_of_ble_eq_true rfl | (simp only [List.map, pm_rf_cat]; exact Nat.le_of_ble_eq_true rfl)) dX9_span_47 ⟨by decide, by decide⟩ (fun r9 M9 H locs hp hX1 hI => ?_)
      clear hw
      obtain ⟨r_3, rfl, rfl, hw⟩ := hp
      refine pm_nrm (cells' := 0) (slots' := 0) (g2 := F0 m 50 ls [.int r_3, .int r_2]) rfl rfl rfl ?_
      refine lv_icmp_ne (tgt := 62) hx hb dX9_span_50 (by decide) (fun h_4 => ?_) (fun h_4 => ?_)
      · replace hw := hw.1 h_4
        exact c_X9_span_62 E hret ih hI t_v0 t_v3 (lv_sub hl [0, 1, 2, 3, 4] rfl) hw
      · replace hw := hw.2 h_4
        refine lv_iload hx hb dX9_span_53 (lv_at hl 3 rfl) ?_
        refine lv_iconst (v := (1 : Int32)) hx hb dX9_span_55 (by decide) ?_
        refine lv_iload hx hb dX9_span_56 (lv_at hl 4 rfl) ?_
        refine lv_ishl hx hb dX9_span_58 ?_
        refine lv_ior hx hb dX9_span_59 ?_
        refine lv_topi (fun x_5 e_x_5 => ?_)
        replace hw := hw x_5 e_x_5
        refine lv_istore (lv' := [(4, .int x_5), (0, .ref (H0.size + v0)), (2, .int v2), (3, .ref (H0.size + v3)), (5, .int v5)]) hx hb dX9_span_60 hl (by decide) rfl (fun ls hl_6 => ?_)
        exact c_X9_span_62 E hret ih hI t_v0 t_v3 (lv_sub hl_6 [1, 2, 3, 0, 4] rfl) hw
set_option maxHeartbeats 4000000 in
set_option maxRecDepth 100000 in
theorem c_X9_span_18 {p : Program} {l : Launch} {e : Env} {s : State} {m : MethodId} {args : Array Value} {below : List Frame} {meth : Method} {c : Code} {G : pm_G} {H0 : Heap} {Post : Int32 → Prop} {M : pm_M} (E : pm_E G p s m args meth c cX9_span 6 RX9) (hret : meth.sig.returnType = (some .int)) {H : Heap} {locs : List Loc} {ls : Array Slot} (hI : pm_I G H0 M H locs) (hl : lv_has ls 6 []) (hw : w_X9_span_18 Post M) : W p l e rm_X9_span s m args below meth c H locs 0 0 (pm_Z G H0 M (pm_Pi (fun r9 M9 => M = M9 ∧ Post r9)) below args s rm_X9_span.cells rm_X9_span.slots) (F0 m 18 ls []) := by
  have hx := E.1
  have hb := E.2.1
  have hown := E.2.2.2.1
  have hts := E.2.2.2.2.1
  unfold w_X9_span_18 at hw
  refine lv_iconst (v := (-1 : Int32)) hx hb dX9_span_18 (by decide) ?_
  exact pm_iret E hret hI pm_X.rf ⟨_, rfl, rfl, hw⟩ (by decide) (by decide) dX9_span_19
set_option maxHeartbeats 4000000 in
set_option maxRecDepth 100000 in
theorem k_X9_span {l : Launch} {G : pm_G} {H0 : Heap} {th : Nat} {a1 : Int32} {a2 : Int32} {M : pm_M} {Post : Int32 → Prop} (t_th : pm_is M th 8) (hw : w_X9_span th a1 a2 M Post) : pm_C l G H0 yX9_span cX9_span 6 (some .int) rm_X9_span [.ref (H0.size + th), .int a1, .int a2] M (pm_Pi (fun r9 M9 => M = M9 ∧ Post r9)) := by
  refine pm_start (by decide +kernel) (Nat.le_of_ble_eq_true rfl) ?_
  intro p e s m args below meth c H ls E hret hnm hI hl
  have hl : lv_has ls 6 [(0, .ref (H0.size + th)), (1, .int a1), (2, .int a2)] := hl
  have hx := E.1
  have hb := E.2.1
  have hown := E.2.2.2.1
  have hts := E.2.2.2.2.1
  unfold w_X9_span at hw
  refine lv_aload_n hx hb dX9_span_0 rfl (lv_at hl 0 rfl) ?_
  refine lv_iload_n hx hb dX9_span_1 rfl (lv_at hl 1 rfl) ?_
  refine pm_callV (As := [.int a1]) (rest := []) 1 E hI (k_X9_ruleAt t_th hw) t_th (by decide) rfl kc_X9_ruleAt kl_X9_158 km_X9_ruleAt ks_X9_ruleAt ki_X9 (by decide +kernel) ⟨by decide, by decide⟩ rfl hl.1 rfl (by first | exact Nat.le_of_ble_eq_true rfl | (simp only [List.map, pm_rf_cat]; exact Nat.le_of_ble_eq_true rfl)) dX9_span_2 ⟨by decide, by decide⟩ (fun r9 M9 H locs hp hX1 hI => ?_)
  clear hw
  obtain ⟨r_1, rfl, o_r_1, rfl, hw⟩ := hp
  refine pm_nrm (cells' := 0) (slots' := 0) (g2 := F0 m 5 ls [pm_rf H0.size r_1]) rfl rfl rfl ?_
  refine pm_astore_n (lv' := [(3, pm_rf H0.size r_1), (0, .ref (H0.size + th)), (1, .int a1), (2, .int a2)]) hx hb dX9_span_5 rfl hl (by decide) (by first | rfl | simp [List.filter, pm_rf_cat]) (fun ls hl_2 => ?_)
  refine pm_aload_n hx hb dX9_span_6 rfl (lv_at hl_2 0 rfl) ?_
  refine pm_ifnull (tgt := 18) hx hb dX9_span_7 (by decide) (fun hq => ?_) (fun q_3 hq => ?_)
  · replace hw := hw.1 hq
    subst hq
    replace hl_2 : lv_has ls 6 [(3, .null), (0, .ref (H0.size + th)), (1, .int a1), (2, .int a2)] := hl_2
    exact c_X9_span_18 E hret hI (lv_sub hl_2 [] rfl) hw
  · replace hw := hw.2 q_3 hq
    subst hq
    have t_q_3 := o_r_1 q_3 rfl
    replace hl_2 : lv_has ls 6 [(3, .ref (H0.size + q_3)), (0, .ref (H0.size + th)), (1, .int a1), (2, .int a2)] := hl_2
    refine lv_aload_n hx hb dX9_span_10 rfl (lv_at hl_2 1 rfl) ?_
    refine lv_iload_n hx hb dX9_span_11 rfl (lv_at hl_2 3 rfl) ?_
    refine pm_callV (As := [.int a2]) (rest := []) 1 E hI (k_X9_isSet t_th hw) t_th (by decide) rfl kc_X9_isSet kl_X9_181 km_X9_isSet ks_X9_isSet ki_X9 (by decide +kernel) ⟨by decide, by decide⟩ rfl hl_2.1 rfl (by first | exact Nat.le_of_ble_eq_true rfl | (simp only [List.map, pm_rf_cat]; exact Nat.le_of_ble_eq_true rfl)) dX9_span_12 ⟨by decide, by decide⟩ (fun r9 M9 H locs hp hX1 hI => ?_)
    clear hw
    obtain ⟨r_4, rfl, rfl, hw⟩ := hp
    refine pm_nrm (cells' := 0) (slots' := 0) (g2 := F0 m 15 ls [.int r_4]) rfl rfl rfl ?_
    refine lv_if_ne (tgt := 20) hx hb dX9_span_15 (by decide) (fun h_5 => ?_) (fun h_5 => ?_)
    · replace hw := hw.1 h_5
      refine lv_iconst (v := (0 : Int32)) hx hb dX9_span_20 (by decide) ?_
      refine lv_istore (lv' := [(4, .int (0 : Int32)), (3, .ref (H0.size + q_3)), (0, .ref (H0.size + th)), (1, .int a1), (2, .int a2)]) hx hb dX9_span_21 hl_2 (by decide) rfl (fun ls hl_6 => ?_)
      refine lv_iconst (v := (0 : Int32)) hx hb dX9_span_23 (by decide) ?_
      refine lv_istore (lv' := [(5, .int (0 : Int32)), (4, .int (0 : Int32)), (3, .ref (H0.size + q_3)), (0, .ref (H0.size + th)), (1, .int a1), (2, .int a2)]) hx hb dX9_span_24 hl_6 (by decide) rfl (fun ls hl_7 => ?_)
      obtain ⟨n_8, hw⟩ := hw
      exact c_X9_span_26 E hret n_8 _ _ _ _ _ hI t_th t_q_3 (lv_sub hl_7 [3, 5, 2, 1, 0] rfl) hw
    · replace hw := hw.2 h_5
      exact c_X9_span_18 E hret hI (lv_sub hl_2 [] rfl) hw
