set_option maxHeartbeats 4000000 in
set_option maxRecDepth 100000 in
theorem k_X8_init {l : Launch} {G : pm_G} {H0 : Heap} {th : Nat} {M : pm_M} {Post : pm_M → Prop} (t_th : pm_is M th 7) (hw : w_X8_init th M Post) : pm_C l G H0 yX8_init cX8_init 1 none rm_X8_init [.ref (H0.size + th)] M (pm_Pv Post) := by
  refine pm_start (by decide +kernel) (Nat.le_of_ble_eq_true rfl) ?_
  intro p e s m args below meth c H ls E hret hnm hI hl
  have hX : pm_X M M := pm_X.rf
  have hl : lv_has ls 1 [(0, .ref (H0.size + th))] := hl
  have hx := E.1
  have hb := E.2.1
  have hown := E.2.2.2.1
  have hts := E.2.2.2.2.1
  unfold w_X8_init at hw
  refine lv_aload_n hx hb dX8_init_0 rfl (lv_at hl 0 rfl) ?_
  refine pm_objInit E hl.1 kl_X8_3 ko_init ko_code dX8_init_1 (by decide) (Nat.le_of_ble_eq_true rfl) ?_
  refine lv_aload_n hx hb dX8_init_4 rfl (lv_at hl 0 rfl) ?_
  refine lv_bipush (v := (12 : Int32)) hx hb dX8_init_5 (by decide) ?_
  refine lv_bipush (v := (6 : Int32)) hx hb dX8_init_7 (by decide) ?_
  refine pm_mnew E hI kl_X8_9 (by decide) (by decide) dX8_init_9 (fun H M_1 e_M_1 hX1 tn_2 hI => ?_)
  replace hw := hw M_1 e_M_1
  replace t_th := t_th.x hX1
  replace hX := hX.tr hX1
  refine pm_nrm (cells' := 13) (slots' := 84) (g2 := F0 m 13 ls [.ref (H0.size + (mZ M)), .ref (H0.size + th)]) rfl rfl rfl ?_
  refine pf_X8_11 E hI t_th dX8_init_13 hnm tn_2 (fun H locs M_3 e_M_3 hX1 hI => ?_)
  replace hw := hw M_3 e_M_3
  replace t_th := t_th.x hX1
  replace hX := hX.tr hX1
  refine lv_aload_n hx hb dX8_init_16 rfl (lv_at hl 0 rfl) ?_
  refine lv_bipush (v := (12 : Int32)) hx hb dX8_init_17 (by decide) ?_
  refine lv_bipush (v := (6 : Int32)) hx hb dX8_init_19 (by decide) ?_
  refine pm_mnew E hI kl_X8_9 (by decide) (by decide) dX8_init_21 (fun H M_4 e_M_4 hX1 tn_5 hI => ?_)
  replace hw := hw M_4 e_M_4
  replace t_th := t_th.x hX1
  replace hX := hX.tr hX1
  refine pm_nrm (cells' := 26) (slots' := 168) (g2 := F0 m 25 ls [.ref (H0.size + (mZ M_3)), .ref (H0.size + th)]) rfl rfl rfl ?_
  refine pf_X8_16 E hI t_th dX8_init_25 hnm tn_5 (fun H locs M_6 e_M_6 hX1 hI => ?_)
  replace hw := hw M_6 e_M_6
  replace t_th := t_th.x hX1
  replace hX := hX.tr hX1
  refine lv_aload_n hx hb dX8_init_28 rfl (lv_at hl 0 rfl) ?_
  refine lv_bipush (v := (12 : Int32)) hx hb dX8_init_29 (by decide) ?_
  refine newI (N := 12) E hI (by decide) (by decide) (by decide) (by decide) (by decide) dX8_init_31 (fun H M_7 e_M_7 hX1 tn_8 hI => ?_)
  replace hw := hw M_7 e_M_7
  replace t_th := t_th.x hX1
  replace hX := hX.tr hX1
  refine pm_nrm (cells' := 27) (slots' := 180) (g2 := F0 m 33 ls [.ref (H0.size + (mZ M_6)), .ref (H0.size + th)]) rfl rfl rfl ?_
  refine pf_X8_19 E hI t_th dX8_init_33 hnm tn_8 (fun H locs M_9 e_M_9 hX1 hI => ?_)
  replace hw := hw M_9 e_M_9
  replace t_th := t_th.x hX1
  replace hX := hX.tr hX1
  refine lv_aload_n hx hb dX8_init_36 rfl (lv_at hl 0 rfl) ?_
  refine lv_iconst (v := (2 : Int32)) hx hb dX8_init_37 (by decide) ?_
  refine pf_X8_23 E hI t_th dX8_init_38 (fun H locs M_10 e_M_10 hX1 hI => ?_)
  replace hw := hw M_10 e_M_10
  replace t_th := t_th.x hX1
  replace hX := hX.tr hX1
  refine lv_aload_n hx hb dX8_init_41 rfl (lv_at hl 0 rfl) ?_
  refine lv_iconst (v := (1 : Int32)) hx hb dX8_init_42 (by decide) ?_
  refine pf_X8_27 E hI t_th dX8_init_43 (fun H locs M_11 e_M_11 hX1 hI => ?_)
  replace hw := hw M_11 e_M_11
  replace t_th := t_th.x hX1
  replace hX := hX.tr hX1
  exact pm_vret E hret hI hX ⟨rfl, hw⟩ (by decide) (by decide) dX8_init_46
set_option maxHeartbeats 4000000 in
set_option maxRecDepth 100000 in
theorem c_X9_init_95 {p : Program} {l : Launch} {e : Env} {s : State} {m : MethodId} {args : Array Value} {below : List Frame} {meth : Method} {c : Code} {G : pm_G} {H0 : Heap} {M0 : pm_M} {Post : pm_M → Prop} {v0 : Nat} (E : pm_E G p s m args meth c cX9_init 2 RX9) (hret : meth.sig.returnType = none) (hnm : meth.name = "<init>") : ∀ (n : Nat), n ≤ 11 → ∀ (v1 : Int32) (M : pm_M) (H : Heap) (locs : List Loc) (ls : Array Slot), pm_X M0 M → pm_I G H0 M H locs → (pm_is M v0 8) → lv_has ls 2 [(0, .ref (H0.size + v0)), (1, .int v1)] → w_X9_init_95 Post v0 n v1 M → W p l e rm_X9_init s m args below meth c H locs (41 + 2 * (11 - n)) (563 + 203 * (11 - n)) (pm_Z G H0 M0 (pm_Pv Post) below args s rm_X9_init.cells rm_X9_init.slots) (F0 m 95 ls []) := by
  have hx := E.1
  have hb := E.2.1
  have hown := E.2.2.2.1
  have hts := E.2.2.2.2.1
  intro n
  induction n with
  | zero =>
    intro _
    intro v1 M H locs ls hX hI t_v0 hl hw
    unfold w_X9_init_95 at hw
    exact hw.elim
  | succ n ih =>
    intro h11
    have ih := ih (by omega)
    intro v1 M H locs ls hX hI t_v0 hl hw
    unfold w_X9_init_95 at hw
    refine lv_iload_n hx hb dX9_init_95 rfl (lv_at hl 1 rfl) ?_
    refine lv_aload_n hx hb dX9_init_96 rfl (lv_at hl 0 rfl) ?_
    obtain ⟨q_1, e_q_1, hw⟩ := hw
    refine gf_X9_11 E hI t_v0 dX9_init_97 e_q_1 (fun t_q_1 => ?_)
    refine ps_alenSlot E hI t_q_1 dX9_init_100 ?_
    refine lv_icmp_ge (tgt := 123) hx hb dX9_init_101 (by decide) (fun h_2 => ?_) (fun h_2 => ?_)
    · replace hw := hw.1 h_2
      refine lv_aload_n hx hb dX9_init_123 rfl (lv_at hl 0 rfl) ?_
      refine lv_bipush (v := (8 : Int32)) hx hb dX9_init_124 (by decide) ?_
      refine pm_callV (As := [.int (8 : Int32)]) (rest := []) 1 E hI (k_X9_startAnew t_v0 hw) t_v0 (by decide) rfl kc_X9_startAnew kl_X9_64 km_X9_startAnew ks_X9_startAnew ki_X9 (by decide +kernel) ⟨by decide, by decide⟩ rfl hl.1 rfl (by first | exact Nat.le_of_ble_eq_true rfl | (simp only [List.map, pm_rf_cat]; exact Nat.le_of_ble_eq_true rfl)) dX9_init_126 ⟨by show _ + 0 ≤ 63; omega, by show _ + 0 ≤ 2796; omega⟩ (fun r9 M_3 H locs hp hX1 hI => ?_)
      clear hw
      obtain ⟨rfl, hw⟩ := hp
      replace t_v0 := t_v0.x hX1
      replace hX := hX.tr hX1
      refine W.eq (g2 := F0 m 129 ls []) rfl ?_
      exact pm_vret E hret hI hX ⟨rfl, hw⟩ (by show _ + 0 ≤ 63; omega) (by show _ + 0 ≤ 2796; omega) dX9_init_129
    · replace hw := hw.2 h_2
      refine lv_aload_n hx hb dX9_init_104 rfl (lv_at hl 0 rfl) ?_
      refine gf_X9_11 E hI t_v0 dX9_init_105 e_q_1 (fun _ => ?_)
      refine lv_iload_n hx hb dX9_init_108 rfl (lv_at hl 1 rfl) ?_
      refine nw_X9_9 E hI (by show _ ≤ 63; omega) (by show _ ≤ 2796; omega) dX9_init_109 (fun H M_4 e_M_4 hX1 tn_5 hI => ?_)
      replace hw := hw M_4 e_M_4
      replace t_v0 := t_v0.x hX1
      replace t_q_1 := t_q_1.x hX1
      replace hX := hX.tr hX1
      refine W.eq (g2 := F0 m 112 ls [.ref (H0.size + (mZ M)), .int v1, .ref (H0.size + q_1)]) rfl ?_
      refine lv_dup hx hb dX9_init_112 rfl ?_
      refine pm_callIN (As := []) (rest := [.ref (H0.size + (mZ M)), .int v1, .ref (H0.size + q_1)]) 0 E hI (k_X6_init tn_5 hw) kc_X6_init kl_X9_63 km_X6_init ki_X6 rfl (by decide +kernel) ⟨by decide, by decide⟩ rfl hl.1 rfl (by first | exact Nat.le_of_ble_eq_true rfl | (simp only [List.map, pm_rf_cat]; exact Nat.le_of_ble_eq_true rfl)) dX9_init_113 ⟨by show _ + 1 ≤ 63; omega, by show _ + 200 ≤ 2796; omega⟩ (fun r9 M_6 H locs hp hX1 hI => ?_)
      clear hw
      obtain ⟨rfl, hw⟩ := hp
      replace t_v0 := t_v0.x hX1
      replace t_q_1 := t_q_1.x hX1
      replace tn_5 := tn_5.x hX1
      replace hX := hX.tr hX1
      refine W.eq (g2 := F0 m 116 ls [.ref (H0.size + (mZ M)), .int v1, .ref (H0.size + q_1)]) rfl ?_
      obtain ⟨h_7, hw⟩ := hw
      refine ps_aastSlot E hI t_q_1 tn_5 h_7 dX9_init_116 (fun H locs M_8 e_M_8 hX1 hI => ?_)
      replace hw := hw M_8 e_M_8
      replace t_v0 := t_v0.x hX1
      replace hX := hX.tr hX1
      obtain ⟨x_9, e_x_9⟩ : ∃ z : Int32, z = v1 + (1 : Int32) := ⟨_, rfl⟩
      refine lv_iinc (v := x_9) (lv' := [(1, .int x_9), (0, .ref (H0.size + v0))]) hx hb dX9_init_117 hl (k := 1) rfl (by rw [e_x_9]; rfl) (by decide) rfl (fun ls hl_10 => ?_)
      replace hw := hw x_9 e_x_9
      refine lv_goto (tgt := 95) hx hb dX9_init_120 (by decide) ?_
      refine W.widen (k := 41 + 2 * (11 - n)) (n := 563 + 203 * (11 - n)) (by show _ + 1 + 1 ≤ _; omega) (by show _ + 3 + 200 ≤ _; omega) ?_
      exact ih _ _ _ _ _ hX hI t_v0 (lv_sub hl_10 [1, 0] rfl) hw
set_option maxHeartbeats 4000000 in
set_option maxRecDepth 100000 in
theorem k_X9_init {l : Launch} {G : pm_G} {H0 : Heap} {th : Nat} {M : pm_M} {Post : pm_M → Prop} (t_th : pm_is M th 8) (hw : w_X9_init th M Post) : pm_C l G H0 yX9_init cX9_init 2 none rm_X9_init [.ref (H0.size + th)] M (pm_Pv Post) := by
  refine pm_start (by decide +kernel) (Nat.le_of_ble_eq_true rfl) ?_
  intro p e s m args below meth c H ls E hret hnm hI hl
  have hX : pm_X M M := pm_X.rf
  have hl : lv_has ls 2 [(0, .ref (H0.size + th))] := hl
  have hx := E.1
  have hb := E.2.1
  have hown := E.2.2.2.1
  have hts := E.2.2.2.2.1
  unfold w_X9_init at hw
  refine lv_aload_n hx hb dX9_init_0 rfl (lv_at hl 0 rfl) ?_
  refine pm_objInit E hl.1 kl_X9_1 ko_init ko_code dX9_init_1 (by decide) (Nat.le_of_ble_eq_true rfl) ?_
  refine lv_aload_n hx hb dX9_init_4 rfl (lv_at hl 0 rfl) ?_
  refine lv_bipush (v := (10 : Int32)) hx hb dX9_init_5 (by decide) ?_
  refine pm_anew (t := 15) (N := 10) (C := RX6) 5 E hI rfl (by decide) kl_X9_9 E.2.2.2.2.2.1.2.2.2.2.2.1 (by decide) (by decide) (by decide) (by decide) (by decide) dX9_init_7 (fun H hI => ?_)
  have hX1 : pm_X M (sN M 15 10) := pm_X.n
  have tn_2 : pm_is (sN M 15 10) (mZ M) 15 := pm_is.new
  obtain ⟨M_1, e_M_1⟩ : ∃ z, z = sN M 15 10 := ⟨_, rfl⟩
  rw [← e_M_1] at hI hX1 tn_2
  replace hw := hw M_1 e_M_1
  replace t_th := t_th.x hX1
  replace hX := hX.tr hX1
  refine pm_nrm (cells' := 1) (slots' := 10) (g2 := F0 m 10 ls [.ref (H0.size + (mZ M)), .ref (H0.size + th)]) rfl rfl rfl ?_
  refine pf_X9_11 E hI t_th dX9_init_10 hnm tn_2 (fun H locs M_3 e_M_3 hX1 hI => ?_)
  replace hw := hw M_3 e_M_3
  replace t_th := t_th.x hX1
  replace hX := hX.tr hX1
  refine lv_aload_n hx hb dX9_init_13 rfl (lv_at hl 0 rfl) ?_
  refine lv_bipush (v := (24 : Int32)) hx hb dX9_init_14 (by decide) ?_
  refine pm_anew (t := 14) (N := 24) (C := RX5) 4 E hI rfl (by decide) kl_X9_15 E.2.2.2.2.2.1.2.2.2.2.1 (by decide) (by decide) (by decide) (by decide) (by decide) dX9_init_16 (fun H hI => ?_)
  have hX1 : pm_X M_3 (sN M_3 14 24) := pm_X.n
  have tn_5 : pm_is (sN M_3 14 24) (mZ M_3) 14 := pm_is.new
  obtain ⟨M_4, e_M_4⟩ : ∃ z, z = sN M_3 14 24 := ⟨_, rfl⟩
  rw [← e_M_4] at hI hX1 tn_5
  replace hw := hw M_4 e_M_4
  replace t_th := t_th.x hX1
  replace hX := hX.tr hX1
  refine pm_nrm (cells' := 2) (slots' := 34) (g2 := F0 m 19 ls [.ref (H0.size + (mZ M_3)), .ref (H0.size + th)]) rfl rfl rfl ?_
  refine pf_X9_17 E hI t_th dX9_init_19 hnm tn_5 (fun H locs M_6 e_M_6 hX1 hI => ?_)
  replace hw := hw M_6 e_M_6
  replace t_th := t_th.x hX1
  replace hX := hX.tr hX1
  refine lv_aload_n hx hb dX9_init_22 rfl (lv_at hl 0 rfl) ?_
  refine lv_bipush (v := (12 : Int32)) hx hb dX9_init_23 (by decide) ?_
  refine newI (N := 12) E hI (by decide) (by decide) (by decide) (by decide) (by decide) dX9_init_25 (fun H M_7 e_M_7 hX1 tn_8 hI => ?_)
  replace hw := hw M_7 e_M_7
  replace t_th := t_th.x hX1
  replace hX := hX.tr hX1
  refine pm_nrm (cells' := 3) (slots' := 46) (g2 := F0 m 27 ls [.ref (H0.size + (mZ M_6)), .ref (H0.size + th)]) rfl rfl rfl ?_
  refine pf_X9_21 E hI t_th dX9_init_27 hnm tn_8 (fun H locs M_9 e_M_9 hX1 hI => ?_)
  replace hw := hw M_9 e_M_9
  replace t_th := t_th.x hX1
  replace hX := hX.tr hX1
  refine lv_aload_n hx hb dX9_init_30 rfl (lv_at hl 0 rfl) ?_
  refine lv_bipush (v := (12 : Int32)) hx hb dX9_init_31 (by decide) ?_
  refine newI (N := 12) E hI (by decide) (by decide) (by decide) (by decide) (by decide) dX9_init_33 (fun H M_10 e_M_10 hX1 tn_11 hI => ?_)
  replace hw := hw M_10 e_M_10
  replace t_th := t_th.x hX1
  replace hX := hX.tr hX1
  refine pm_nrm (cells' := 4) (slots' := 58) (g2 := F0 m 35 ls [.ref (H0.size + (mZ M_9)), .ref (H0.size + th)]) rfl rfl rfl ?_
  refine pf_X9_25 E hI t_th dX9_init_35 hnm tn_11 (fun H locs M_12 e_M_12 hX1 hI => ?_)
  replace hw := hw M_12 e_M_12
  replace t_th := t_th.x hX1
  replace hX := hX.tr hX1
  refine lv_aload_n hx hb dX9_init_38 rfl (lv_at hl 0 rfl) ?_
  refine nw_X9_28 E hI (by decide) (by decide) dX9_init_39 (fun H M_13 e_M_13 hX1 tn_14 hI => ?_)
  replace hw := hw M_13 e_M_13
  replace t_th := t_th.x hX1
  replace hX := hX.tr hX1
  refine pm_nrm (cells' := 5) (slots' := 61) (g2 := F0 m 42 ls [.ref (H0.size + (mZ M_12)), .ref (H0.size + th)]) rfl rfl rfl ?_
  refine lv_dup hx hb dX9_init_42 rfl ?_
  refine pm_callIN (As := []) (rest := [.ref (H0.size + (mZ M_12)), .ref (H0.size + th)]) 0 E hI (k_X4_init tn_14 hw) kc_X4_init kl_X9_30 km_X4_init ki_X4 rfl (by decide +kernel) ⟨by decide, by decide⟩ rfl hl.1 rfl (by first | exact Nat.le_of_ble_eq_true rfl | (simp only [List.map, pm_rf_cat]; exact Nat.le_of_ble_eq_true rfl)) dX9_init_43 ⟨by decide, by decide⟩ (fun r9 M9 H locs hp hX1 hI => ?_)
  clear hw
  obtain ⟨rfl, rfl, hw⟩ := hp
  refine pm_nrm (cells' := 5) (slots' := 61) (g2 := F0 m 46 ls [.ref (H0.size + (mZ M_12)), .ref (H0.size + th)]) rfl rfl rfl ?_
  refine pf_X9_31 E hI t_th dX9_init_46 hnm tn_14 (fun H locs M_15 e_M_15 hX1 hI => ?_)
  replace hw := hw M_15 e_M_15
  replace t_th := t_th.x hX1
  replace hX := hX.tr hX1
  refine lv_aload_n hx hb dX9_init_49 rfl (lv_at hl 0 rfl) ?_
  refine nw_X9_35 E hI (by decide) (by decide) dX9_init_50 (fun H M_16 e_M_16 hX1 tn_17 hI => ?_)
  replace hw := hw M_16 e_M_16
  replace t_th := t_th.x hX1
  replace hX := hX.tr hX1
  refine pm_nrm (cells' := 6) (slots' := 67) (g2 := F0 m 53 ls [.ref (H0.size + (mZ M_15)), .ref (H0.size + th)]) rfl rfl rfl ?_
  refine lv_dup hx hb dX9_init_53 rfl ?_
  refine pm_callIN (As := []) (rest := [.ref (H0.size + (mZ M_15)), .ref (H0.size + th)]) 0 E hI (k_X7_init tn_17 hw) kc_X7_init kl_X9_37 km_X7_init ki_X7 rfl (by decide +kernel) ⟨by decide, by decide⟩ rfl hl.1 rfl (by first | exact Nat.le_of_ble_eq_true rfl | (simp only [List.map, pm_rf_cat]; exact Nat.le_of_ble_eq_true rfl)) dX9_init_54 ⟨by decide, by decide⟩ (fun r9 M_18 H locs hp hX1 hI => ?_)
  clear hw
  obtain ⟨rfl, hw⟩ := hp
  replace t_th := t_th.x hX1
  replace tn_17 := tn_17.x hX1
  replace hX := hX.tr hX1
  refine pm_nrm (cells' := 8) (slots' := 281) (g2 := F0 m 57 ls [.ref (H0.size + (mZ M_15)), .ref (H0.size + th)]) rfl rfl rfl ?_
  refine pf_X9_38 E hI t_th dX9_init_57 hnm tn_17 (fun H locs M_19 e_M_19 hX1 hI => ?_)
  replace hw := hw M_19 e_M_19
  replace t_th := t_th.x hX1
  replace hX := hX.tr hX1
  refine lv_aload_n hx hb dX9_init_60 rfl (lv_at hl 0 rfl) ?_
  refine nw_X9_42 E hI (by decide) (by decide) dX9_init_61 (fun H M_20 e_M_20 hX1 tn_21 hI => ?_)
  replace hw := hw M_20 e_M_20
  replace t_th := t_th.x hX1
  replace hX := hX.tr hX1
  refine pm_nrm (cells' := 9) (slots' := 284) (g2 := F0 m 64 ls [.ref (H0.size + (mZ M_19)), .ref (H0.size + th)]) rfl rfl rfl ?_
  refine lv_dup hx hb dX9_init_64 rfl ?_
  refine pm_callIN (As := []) (rest := [.ref (H0.size + (mZ M_19)), .ref (H0.size + th)]) 0 E hI (k_X0_init tn_21 hw) kc_X0_init kl_X9_44 km_X0_init ki_X0 rfl (by decide +kernel) ⟨by decide, by decide⟩ rfl hl.1 rfl (by first | exact Nat.le_of_ble_eq_true rfl | (simp only [List.map, pm_rf_cat]; exact Nat.le_of_ble_eq_true rfl)) dX9_init_65 ⟨by decide, by decide⟩ (fun r9 M_22 H locs hp hX1 hI => ?_)
  clear hw
  obtain ⟨rfl, hw⟩ := hp
  replace t_th := t_th.x hX1
  replace tn_21 := tn_21.x hX1
  replace hX := hX.tr hX1
  refine pm_nrm (cells' := 11) (slots' := 364) (g2 := F0 m 68 ls [.ref (H0.size + (mZ M_19)), .ref (H0.size + th)]) rfl rfl rfl ?_
  refine pf_X9_45 E hI t_th dX9_init_68 hnm tn_21 (fun H locs M_23 e_M_23 hX1 hI => ?_)
  replace hw := hw M_23 e_M_23
  replace t_th := t_th.x hX1
  replace hX := hX.tr hX1
  refine lv_aload_n hx hb dX9_init_71 rfl (lv_at hl 0 rfl) ?_
  refine nw_X9_49 E hI (by decide) (by decide) dX9_init_72 (fun H M_24 e_M_24 hX1 tn_25 hI => ?_)
  replace hw := hw M_24 e_M_24
  replace t_th := t_th.x hX1
  replace hX := hX.tr hX1
  refine pm_nrm (cells' := 12) (slots' := 366) (g2 := F0 m 75 ls [.ref (H0.size + (mZ M_23)), .ref (H0.size + th)]) rfl rfl rfl ?_
  refine lv_dup hx hb dX9_init_75 rfl ?_
  refine pm_callIN (As := []) (rest := [.ref (H0.size + (mZ M_23)), .ref (H0.size + th)]) 0 E hI (k_X3_init tn_25 hw) kc_X3_init kl_X9_51 km_X3_init ki_X3 rfl (by decide +kernel) ⟨by decide, by decide⟩ rfl hl.1 rfl (by first | exact Nat.le_of_ble_eq_true rfl | (simp only [List.map, pm_rf_cat]; exact Nat.le_of_ble_eq_true rfl)) dX9_init_76 ⟨by decide, by decide⟩ (fun r9 M_26 H locs hp hX1 hI => ?_)
  clear hw
  obtain ⟨rfl, hw⟩ := hp
  replace t_th := t_th.x hX1
  replace tn_25 := tn_25.x hX1
  replace hX := hX.tr hX1
  refine pm_nrm (cells' := 13) (slots' := 378) (g2 := F0 m 79 ls [.ref (H0.size + (mZ M_23)), .ref (H0.size + th)]) rfl rfl rfl ?_
  refine pf_X9_52 E hI t_th dX9_init_79 hnm tn_25 (fun H locs M_27 e_M_27 hX1 hI => ?_)
  replace hw := hw M_27 e_M_27
  replace t_th := t_th.x hX1
  replace hX := hX.tr hX1
  refine lv_aload_n hx hb dX9_init_82 rfl (lv_at hl 0 rfl) ?_
  refine nw_X9_56 E hI (by decide) (by decide) dX9_init_83 (fun H M_28 e_M_28 hX1 tn_29 hI => ?_)
  replace hw := hw M_28 e_M_28
  replace t_th := t_th.x hX1
  replace hX := hX.tr hX1
  refine pm_nrm (cells' := 14) (slots' := 383) (g2 := F0 m 86 ls [.ref (H0.size + (mZ M_27)), .ref (H0.size + th)]) rfl rfl rfl ?_
  refine lv_dup hx hb dX9_init_86 rfl ?_
  refine pm_callIN (As := []) (rest := [.ref (H0.size + (mZ M_27)), .ref (H0.size + th)]) 0 E hI (k_X8_init tn_29 hw) kc_X8_init kl_X9_58 km_X8_init ki_X8 rfl (by decide +kernel) ⟨by decide, by decide⟩ rfl hl.1 rfl (by first | exact Nat.le_of_ble_eq_true rfl | (simp only [List.map, pm_rf_cat]; exact Nat.le_of_ble_eq_true rfl)) dX9_init_87 ⟨by decide, by decide⟩ (fun r9 M_30 H locs hp hX1 hI => ?_)
  clear hw
  obtain ⟨rfl, hw⟩ := hp
  replace t_th := t_th.x hX1
  replace tn_29 := tn_29.x hX1
  replace hX := hX.tr hX1
  refine pm_nrm (cells' := 41) (slots' := 563) (g2 := F0 m 90 ls [.ref (H0.size + (mZ M_27)), .ref (H0.size + th)]) rfl rfl rfl ?_
  refine pf_X9_59 E hI t_th dX9_init_90 hnm tn_29 (fun H locs M_31 e_M_31 hX1 hI => ?_)
  replace hw := hw M_31 e_M_31
  replace t_th := t_th.x hX1
  replace hX := hX.tr hX1
  refine lv_iconst (v := (0 : Int32)) hx hb dX9_init_93 (by decide) ?_
  refine lv_istore_n (lv' := [(1, .int (0 : Int32)), (0, .ref (H0.size + th))]) hx hb dX9_init_94 rfl hl (by decide) rfl (fun ls hl_32 => ?_)
  obtain ⟨n_33, h11, hw⟩ := hw
  refine W.widen (k := 41 + 2 * (11 - n_33)) (n := 563 + 203 * (11 - n_33)) (by omega) (by omega) ?_
  exact c_X9_init_95 E hret hnm n_33 h11 _ _ _ _ _ hX hI t_th (lv_sub hl_32 [1, 0] rfl) hw
