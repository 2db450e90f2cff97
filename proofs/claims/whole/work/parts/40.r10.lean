set_option maxHeartbeats 4000000 in
set_option maxRecDepth 100000 in
theorem c_X10_exchange_115 {p : Program} {l : Launch} {e : Env} {s : State} {m : MethodId} {args : Array Value} {below : List Frame} {meth : Method} {c : Code} {G : pm_G} {H0 : Heap} {Post : Int32 → Prop} {v0 : Nat} {v1 : Int32} {v2 : Int32} {v4 : Int32} {v6 : Int32} {s0 : Int32} {s1 : Int32} {M : pm_M} {k_69 : Int32 → Int32 → Prop} (E : pm_E G p s m args meth c cX10_exchange 7 RX10) (hret : meth.sig.returnType = (some .int)) (hk_69 : ∀ (v5 : Int32) (v6 : Int32) (H : Heap) (locs : List Loc) (ls : Array Slot), pm_I G H0 M H locs → (pm_is M v0 9) → lv_has ls 7 [(0, .ref (H0.size + v0)), (1, .int v1), (2, .int v2), (4, .int v4), (5, .int v5), (6, .int v6)] → k_69 v5 v6 → W p l e rm_X10_exchange s m args below meth c H locs 0 0 (pm_Z G H0 M (pm_Pi (fun r9 M9 => M = M9 ∧ Post r9)) below args s rm_X10_exchange.cells rm_X10_exchange.slots) (F0 m 69 ls [])) {H : Heap} {locs : List Loc} {ls : Array Slot} (hI : pm_I G H0 M H locs) (t_v0 : pm_is M v0 9) (hl : lv_has ls 7 [(0, .ref (H0.size + v0)), (1, .int v1), (2, .int v2), (4, .int v4), (6, .int v6)]) (hw : w_X10_exchange_115 Post k_69 v0 v1 v2 v4 v6 s0 s1 M) : W p l e rm_X10_exchange s m args below meth c H locs 0 0 (pm_Z G H0 M (pm_Pi (fun r9 M9 => M = M9 ∧ Post r9)) below args s rm_X10_exchange.cells rm_X10_exchange.slots) (F0 m 115 ls [.int s1, .int s0]) := by
  have hx := E.1
  have hb := E.2.1
  have hown := E.2.2.2.1
  have hts := E.2.2.2.2.1
  unfold w_X10_exchange_115 at hw
  refine lv_ior hx hb dX10_exchange_115 ?_
  refine lv_topi (fun x_1 e_x_1 => ?_)
  replace hw := hw x_1 e_x_1
  refine lv_istore (lv' := [(5, .int x_1), (0, .ref (H0.size + v0)), (1, .int v1), (2, .int v2), (4, .int v4), (6, .int v6)]) hx hb dX10_exchange_116 hl (by decide) rfl (fun ls hl_2 => ?_)
  obtain ⟨x_3, e_x_3⟩ : ∃ z : Int32, z = v6 + (1 : Int32) := ⟨_, rfl⟩
  refine lv_iinc (v := x_3) (lv' := [(6, .int x_3), (5, .int x_1), (0, .ref (H0.size + v0)), (1, .int v1), (2, .int v2), (4, .int v4)]) hx hb dX10_exchange_118 hl_2 (k := 5) rfl (by rw [e_x_3]; rfl) (by decide) rfl (fun ls hl_4 => ?_)
  replace hw := hw x_3 e_x_3
  refine lv_goto (tgt := 69) hx hb dX10_exchange_121 (by decide) ?_
  exact hk_69 _ _ _ _ _ hI t_v0 (lv_sub hl_4 [2, 3, 4, 5, 1, 0] rfl) hw
set_option maxHeartbeats 4000000 in
set_option maxRecDepth 100000 in
theorem c_X10_exchange_114 {p : Program} {l : Launch} {e : Env} {s : State} {m : MethodId} {args : Array Value} {below : List Frame} {meth : Method} {c : Code} {G : pm_G} {H0 : Heap} {Post : Int32 → Prop} {v0 : Nat} {v1 : Int32} {v2 : Int32} {v4 : Int32} {v6 : Int32} {s0 : Int32} {M : pm_M} {k_69 : Int32 → Int32 → Prop} (E : pm_E G p s m args meth c cX10_exchange 7 RX10) (hret : meth.sig.returnType = (some .int)) (hk_69 : ∀ (v5 : Int32) (v6 : Int32) (H : Heap) (locs : List Loc) (ls : Array Slot), pm_I G H0 M H locs → (pm_is M v0 9) → lv_has ls 7 [(0, .ref (H0.size + v0)), (1, .int v1), (2, .int v2), (4, .int v4), (5, .int v5), (6, .int v6)] → k_69 v5 v6 → W p l e rm_X10_exchange s m args below meth c H locs 0 0 (pm_Z G H0 M (pm_Pi (fun r9 M9 => M = M9 ∧ Post r9)) below args s rm_X10_exchange.cells rm_X10_exchange.slots) (F0 m 69 ls [])) {H : Heap} {locs : List Loc} {ls : Array Slot} (hI : pm_I G H0 M H locs) (t_v0 : pm_is M v0 9) (hl : lv_has ls 7 [(0, .ref (H0.size + v0)), (1, .int v1), (2, .int v2), (4, .int v4), (6, .int v6)]) (hw : w_X10_exchange_114 Post k_69 v0 v1 v2 v4 v6 s0 M) : W p l e rm_X10_exchange s m args below meth c H locs 0 0 (pm_Z G H0 M (pm_Pi (fun r9 M9 => M = M9 ∧ Post r9)) below args s rm_X10_exchange.cells rm_X10_exchange.slots) (F0 m 114 ls [.int s0]) := by
  have hx := E.1
  have hb := E.2.1
  have hown := E.2.2.2.1
  have hts := E.2.2.2.2.1
  unfold w_X10_exchange_114 at hw
  refine lv_iconst (v := (0 : Int32)) hx hb dX10_exchange_114 (by decide) ?_
  exact c_X10_exchange_115 E hret hk_69 hI t_v0 (lv_sub hl [0, 1, 2, 3, 4] rfl) hw
set_option maxHeartbeats 4000000 in
set_option maxRecDepth 100000 in
theorem c_X10_exchange_69 {p : Program} {l : Launch} {e : Env} {s : State} {m : MethodId} {args : Array Value} {below : List Frame} {meth : Method} {c : Code} {G : pm_G} {H0 : Heap} {Post : Int32 → Prop} {v0 : Nat} {v1 : Int32} {v2 : Int32} {v4 : Int32} {M : pm_M} (E : pm_E G p s m args meth c cX10_exchange 7 RX10) (hret : meth.sig.returnType = (some .int)) : ∀ (n : Nat) (v5 : Int32) (v6 : Int32) (H : Heap) (locs : List Loc) (ls : Array Slot), pm_I G H0 M H locs → (pm_is M v0 9) → lv_has ls 7 [(0, .ref (H0.size + v0)), (1, .int v1), (2, .int v2), (4, .int v4), (5, .int v5), (6, .int v6)] → w_X10_exchange_69 Post v0 v1 v2 v4 M n v5 v6 → W p l e rm_X10_exchange s m args below meth c H locs 0 0 (pm_Z G H0 M (pm_Pi (fun r9 M9 => M = M9 ∧ Post r9)) below args s rm_X10_exchange.cells rm_X10_exchange.slots) (F0 m 69 ls []) := by
  have hx := E.1
  have hb := E.2.1
  have hown := E.2.2.2.1
  have hts := E.2.2.2.2.1
  intro n
  induction n with
  | zero =>
    intro v5 v6 H locs ls hI t_v0 hl hw
    unfold w_X10_exchange_69 at hw
    exact hw.elim
  | succ n ih =>
    intro v5 v6 H locs ls hI t_v0 hl hw
    unfold w_X10_exchange_69 at hw
    refine lv_iload hx hb dX10_exchange_69 (lv_at hl 5 rfl) ?_
    refine lv_aload_n hx hb dX10_exchange_71 rfl (lv_at hl 0 rfl) ?_
    refine gf_X10_7 E hI t_v0 dX10_exchange_72 ?_
    refine lv_icmp_ge (tgt := 124) hx hb dX10_exchange_75 (by decide) (fun h_1 => ?_) (fun h_1 => ?_)
    · replace hw := hw.1 h_1
      refine lv_iload hx hb dX10_exchange_124 (lv_at hl 4 rfl) ?_
      exact pm_iret E hret hI pm_X.rf ⟨_, rfl, rfl, hw⟩ (by decide) (by decide) dX10_exchange_126
    · replace hw := hw.2 h_1
      refine lv_iload hx hb dX10_exchange_78 (lv_at hl 4 rfl) ?_
      refine lv_iload_n hx hb dX10_exchange_80 rfl (lv_at hl 2 rfl) ?_
      refine lv_iload hx hb dX10_exchange_81 (lv_at hl 5 rfl) ?_
      refine lv_ishr hx hb dX10_exchange_83 ?_
      refine lv_iconst (v := (1 : Int32)) hx hb dX10_exchange_84 (by decide) ?_
      refine lv_iand hx hb dX10_exchange_85 ?_
      refine lv_iconst (v := (1 : Int32)) hx hb dX10_exchange_86 (by decide) ?_
      refine lv_icmp_ne (tgt := 114) hx hb dX10_exchange_87 (by decide) (fun h_2 => ?_) (fun h_2 => ?_)
      · replace hw := hw.1 h_2
        exact c_X10_exchange_114 E hret ih hI t_v0 (lv_sub hl [0, 1, 2, 3, 5] rfl) hw
      · replace hw := hw.2 h_2
        refine lv_aload_n hx hb dX10_exchange_90 rfl (lv_at hl 0 rfl) ?_
        refine lv_iload_n hx hb dX10_exchange_91 rfl (lv_at hl 1 rfl) ?_
        refine lv_iload hx hb dX10_exchange_92 (lv_at hl 3 rfl) ?_
        refine lv_iconst (v := (1 : Int32)) hx hb dX10_exchange_94 (by decide) ?_
        refine lv_iload hx hb dX10_exchange_95 (lv_at hl 5 rfl) ?_
        refine lv_ishl hx hb dX10_exchange_97 ?_
        refine lv_iconst (v := (-1 : Int32)) hx hb dX10_exchange_98 (by decide) ?_
        refine lv_ixor hx hb dX10_exchange_99 ?_
        refine lv_iand hx hb dX10_exchange_100 ?_
        refine pm_callV (As := [.int v1, .int (v4 &&& (((1 : Int32) <<< (v6 &&& 31)) ^^^ (-1 : Int32)))]) (rest := [.int v5]) 2 E hI (k_X10_isAllowed t_v0 hw) t_v0 (by decide) rfl kc_X10_isAllowed kl_X10_100 km_X10_isAllowed ks_X10_isAllowed ki_X10 (by decide +kernel) ⟨by decide, by decide⟩ rfl hl.1 rfl (by first | exact Nat.le_of_ble_eq_true rfl | (simp only [List.map, pm_rf_cat]; exact Nat.le_of_ble_eq_true rfl)) dX10_exchange_101 ⟨by decide, by decide⟩ (fun r9 M9 H locs hp hX1 hI => ?_)
        clear hw
        obtain ⟨r_3, rfl, rfl, hw⟩ := hp
        refine pm_nrm (cells' := 0) (slots' := 0) (g2 := F0 m 104 ls [.int r_3, .int v5]) rfl rfl rfl ?_
        refine lv_if_eq (tgt := 114) hx hb dX10_exchange_104 (by decide) (fun h_4 => ?_) (fun h_4 => ?_)
        · replace hw := hw.1 h_4
          exact c_X10_exchange_114 E hret ih hI t_v0 (lv_sub hl [0, 1, 2, 3, 5] rfl) hw
        · replace hw := hw.2 h_4
          refine lv_iconst (v := (1 : Int32)) hx hb dX10_exchange_107 (by decide) ?_
          refine lv_iload hx hb dX10_exchange_108 (lv_at hl 5 rfl) ?_
          refine lv_ishl hx hb dX10_exchange_110 ?_
          refine lv_goto (tgt := 115) hx hb dX10_exchange_111 (by decide) ?_
          exact c_X10_exchange_115 E hret ih hI t_v0 (lv_sub hl [0, 1, 2, 3, 5] rfl) hw
set_option maxHeartbeats 4000000 in
set_option maxRecDepth 100000 in
theorem c_X10_exchange_42 {p : Program} {l : Launch} {e : Env} {s : State} {m : MethodId} {args : Array Value} {below : List Frame} {meth : Method} {c : Code} {G : pm_G} {H0 : Heap} {Post : Int32 → Prop} {M : pm_M} (E : pm_E G p s m args meth c cX10_exchange 7 RX10) (hret : meth.sig.returnType = (some .int)) {H : Heap} {locs : List Loc} {ls : Array Slot} (hI : pm_I G H0 M H locs) (hl : lv_has ls 7 []) (hw : w_X10_exchange_42 Post M) : W p l e rm_X10_exchange s m args below meth c H locs 0 0 (pm_Z G H0 M (pm_Pi (fun r9 M9 => M = M9 ∧ Post r9)) below args s rm_X10_exchange.cells rm_X10_exchange.slots) (F0 m 42 ls []) := by
  have hx := E.1
  have hb := E.2.1
  have hown := E.2.2.2.1
  have hts := E.2.2.2.2.1
  unfold w_X10_exchange_42 at hw
  refine lv_iconst (v := (-1 : Int32)) hx hb dX10_exchange_42 (by decide) ?_
  exact pm_iret E hret hI pm_X.rf ⟨_, rfl, rfl, hw⟩ (by decide) (by decide) dX10_exchange_43
set_option maxHeartbeats 4000000 in
set_option maxRecDepth 100000 in
theorem k_X10_exchange {l : Launch} {G : pm_G} {H0 : Heap} {th : Nat} {a1 : Int32} {a2 : Int32} {a3 : Int32} {M : pm_M} {Post : Int32 → Prop} (t_th : pm_is M th 9) (hw : w_X10_exchange th a1 a2 a3 M Post) : pm_C l G H0 yX10_exchange cX10_exchange 7 (some .int) rm_X10_exchange [.ref (H0.size + th), .int a1, .int a2, .int a3] M (pm_Pi (fun r9 M9 => M = M9 ∧ Post r9)) := by
  refine pm_start (by decide +kernel) (Nat.le_of_ble_eq_true rfl) ?_
  intro p e s m args below meth c H ls E hret hnm hI hl
  have hl : lv_has ls 7 [(0, .ref (H0.size + th)), (1, .int a1), (2, .int a2), (3, .int a3)] := hl
  have hx := E.1
  have hb := E.2.1
  have hown := E.2.2.2.1
  have hts := E.2.2.2.2.1
  unfold w_X10_exchange at hw
  refine lv_aload_n hx hb dX10_exchange_0 rfl (lv_at hl 0 rfl) ?_
  refine lv_iload_n hx hb dX10_exchange_1 rfl (lv_at hl 1 rfl) ?_
  refine pm_callV (As := [.int a1]) (rest := []) 1 E hI (k_X10_isRule t_th hw) t_th (by decide) rfl kc_X10_isRule kl_X10_191 km_X10_isRule ks_X10_isRule ki_X10 (by decide +kernel) ⟨by decide, by decide⟩ rfl hl.1 rfl (by first | exact Nat.le_of_ble_eq_true rfl | (simp only [List.map, pm_rf_cat]; exact Nat.le_of_ble_eq_true rfl)) dX10_exchange_2 ⟨by decide, by decide⟩ (fun r9 M9 H locs hp hX1 hI => ?_)
  clear hw
  obtain ⟨r_1, rfl, rfl, hw⟩ := hp
  refine pm_nrm (cells' := 0) (slots' := 0) (g2 := F0 m 5 ls [.int r_1]) rfl rfl rfl ?_
  refine lv_if_eq (tgt := 42) hx hb dX10_exchange_5 (by decide) (fun h_2 => ?_) (fun h_2 => ?_)
  · replace hw := hw.1 h_2
    exact c_X10_exchange_42 E hret hI (lv_sub hl [] rfl) hw
  · replace hw := hw.2 h_2
    refine lv_aload_n hx hb dX10_exchange_8 rfl (lv_at hl 0 rfl) ?_
    refine lv_iload_n hx hb dX10_exchange_9 rfl (lv_at hl 2 rfl) ?_
    refine pm_callV (As := [.int a2]) (rest := []) 1 E hI (k_X10_isSet t_th hw) t_th (by decide) rfl kc_X10_isSet kl_X10_194 km_X10_isSet ks_X10_isSet ki_X10 (by decide +kernel) ⟨by decide, by decide⟩ rfl hl.1 rfl (by first | exact Nat.le_of_ble_eq_true rfl | (simp only [List.map, pm_rf_cat]; exact Nat.le_of_ble_eq_true rfl)) dX10_exchange_10 ⟨by decide, by decide⟩ (fun r9 M9 H locs hp hX1 hI => ?_)
    clear hw
    obtain ⟨r_3, rfl, rfl, hw⟩ := hp
    refine pm_nrm (cells' := 0) (slots' := 0) (g2 := F0 m 13 ls [.int r_3]) rfl rfl rfl ?_
    refine lv_if_eq (tgt := 42) hx hb dX10_exchange_13 (by decide) (fun h_4 => ?_) (fun h_4 => ?_)
    · replace hw := hw.1 h_4
      exact c_X10_exchange_42 E hret hI (lv_sub hl [] rfl) hw
    · replace hw := hw.2 h_4
      refine lv_aload_n hx hb dX10_exchange_16 rfl (lv_at hl 0 rfl) ?_
      refine lv_iload_n hx hb dX10_exchange_17 rfl (lv_at hl 3 rfl) ?_
      refine pm_callV (As := [.int a3]) (rest := []) 1 E hI (k_X10_isThing t_th hw) t_th (by decide) rfl kc_X10_isThing kl_X10_88 km_X10_isThing ks_X10_isThing ki_X10 (by decide +kernel) ⟨by decide, by decide⟩ rfl hl.1 rfl (by first | exact Nat.le_of_ble_eq_true rfl | (simp only [List.map, pm_rf_cat]; exact Nat.le_of_ble_eq_true rfl)) dX10_exchange_18 ⟨by decide, by decide⟩ (fun r9 M9 H locs hp hX1 hI => ?_)
      clear hw
      obtain ⟨r_5, rfl, rfl, hw⟩ := hp
      refine pm_nrm (cells' := 0) (slots' := 0) (g2 := F0 m 21 ls [.int r_5]) rfl rfl rfl ?_
      refine lv_if_eq (tgt := 42) hx hb dX10_exchange_21 (by decide) (fun h_6 => ?_) (fun h_6 => ?_)
      · replace hw := hw.1 h_6
        exact c_X10_exchange_42 E hret hI (lv_sub hl [] rfl) hw
      · replace hw := hw.2 h_6
        refine lv_aload_n hx hb dX10_exchange_24 rfl (lv_at hl 0 rfl) ?_
        refine lv_iload_n hx hb dX10_exchange_25 rfl (lv_at hl 1 rfl) ?_
        refine lv_iload_n hx hb dX10_exchange_26 rfl (lv_at hl 2 rfl) ?_
        refine pm_callV (As := [.int a1, .int a2]) (rest := []) 2 E hI (k_X10_isAllowed t_th hw) t_th (by decide) rfl kc_X10_isAllowed kl_X10_100 km_X10_isAllowed ks_X10_isAllowed ki_X10 (by decide +kernel) ⟨by decide, by decide⟩ rfl hl.1 rfl (by first | exact Nat.le_of_ble_eq_true rfl | (simp only [List.map, pm_rf_cat]; exact Nat.le_of_ble_eq_true rfl)) dX10_exchange_27 ⟨by decide, by decide⟩ (fun r9 M9 H locs hp hX1 hI => ?_)
        clear hw
        obtain ⟨r_7, rfl, rfl, hw⟩ := hp
        refine pm_nrm (cells' := 0) (slots' := 0) (g2 := F0 m 30 ls [.int r_7]) rfl rfl rfl ?_
        refine lv_if_eq (tgt := 42) hx hb dX10_exchange_30 (by decide) (fun h_8 => ?_) (fun h_8 => ?_)
        · replace hw := hw.1 h_8
          exact c_X10_exchange_42 E hret hI (lv_sub hl [] rfl) hw
        · replace hw := hw.2 h_8
          refine lv_iload_n hx hb dX10_exchange_33 rfl (lv_at hl 2 rfl) ?_
          refine lv_iload_n hx hb dX10_exchange_34 rfl (lv_at hl 3 rfl) ?_
          refine lv_ishr hx hb dX10_exchange_35 ?_
          refine lv_iconst (v := (1 : Int32)) hx hb dX10_exchange_36 (by decide) ?_
          refine lv_iand hx hb dX10_exchange_37 ?_
          refine lv_iconst (v := (1 : Int32)) hx hb dX10_exchange_38 (by decide) ?_
          refine lv_icmp_ne (tgt := 44) hx hb dX10_exchange_39 (by decide) (fun h_9 => ?_) (fun h_9 => ?_)
          · replace hw := hw.1 h_9
            refine lv_iload_n hx hb dX10_exchange_44 rfl (lv_at hl 2 rfl) ?_
            refine lv_iconst (v := (1 : Int32)) hx hb dX10_exchange_45 (by decide) ?_
            refine lv_iload_n hx hb dX10_exchange_46 rfl (lv_at hl 3 rfl) ?_
            refine lv_ishl hx hb dX10_exchange_47 ?_
            refine lv_ior hx hb dX10_exchange_48 ?_
            refine lv_topi (fun x_10 e_x_10 => ?_)
            replace hw := hw x_10 e_x_10
            refine lv_istore (lv' := [(4, .int x_10), (0, .ref (H0.size + th)), (1, .int a1), (2, .int a2), (3, .int a3)]) hx hb dX10_exchange_49 hl (by decide) rfl (fun ls hl_11 => ?_)
            refine lv_aload_n hx hb dX10_exchange_51 rfl (lv_at hl_11 1 rfl) ?_
            refine lv_iload_n hx hb dX10_exchange_52 rfl (lv_at hl_11 2 rfl) ?_
            refine lv_iload hx hb dX10_exchange_53 (lv_at hl_11 0 rfl) ?_
            refine pm_callV (As := [.int a1, .int x_10]) (rest := []) 2 E hI (k_X10_isAllowed t_th hw) t_th (by decide) rfl kc_X10_isAllowed kl_X10_100 km_X10_isAllowed ks_X10_isAllowed ki_X10 (by decide +kernel) ⟨by decide, by decide⟩ rfl hl_11.1 rfl (by first | exact Nat.le_of_ble_eq_true rfl | (simp only [List.map, pm_rf_cat]; exact Nat.le_of_ble_eq_true rfl)) dX10_exchange_55 ⟨by decide, by decide⟩ (fun r9 M9 H locs hp hX1 hI => ?_)
            clear hw
            obtain ⟨r_12, rfl, rfl, hw⟩ := hp
            refine pm_nrm (cells' := 0) (slots' := 0) (g2 := F0 m 58 ls [.int r_12]) rfl rfl rfl ?_
            refine lv_if_eq (tgt := 63) hx hb dX10_exchange_58 (by decide) (fun h_13 => ?_) (fun h_13 => ?_)
            · replace hw := hw.1 h_13
              refine lv_iconst (v := (0 : Int32)) hx hb dX10_exchange_63 (by decide) ?_
              refine lv_istore (lv' := [(5, .int (0 : Int32)), (4, .int x_10), (0, .ref (H0.size + th)), (1, .int a1), (2, .int a2), (3, .int a3)]) hx hb dX10_exchange_64 hl_11 (by decide) rfl (fun ls hl_14 => ?_)
              refine lv_iconst (v := (0 : Int32)) hx hb dX10_exchange_66 (by decide) ?_
              refine lv_istore (lv' := [(6, .int (0 : Int32)), (5, .int (0 : Int32)), (4, .int x_10), (0, .ref (H0.size + th)), (1, .int a1), (2, .int a2), (3, .int a3)]) hx hb dX10_exchange_67 hl_14 (by decide) rfl (fun ls hl_15 => ?_)
              obtain ⟨n_16, hw⟩ := hw
              exact c_X10_exchange_69 E hret n_16 _ _ _ _ _ hI t_th (lv_sub hl_15 [3, 4, 5, 2, 1, 0] rfl) hw
            · replace hw := hw.2 h_13
              refine lv_iconst (v := (0 : Int32)) hx hb dX10_exchange_61 (by decide) ?_
              exact pm_iret E hret hI pm_X.rf ⟨_, rfl, rfl, hw⟩ (by decide) (by decide) dX10_exchange_62
          · replace hw := hw.2 h_9
            exact c_X10_exchange_42 E hret hI (lv_sub hl [] rfl) hw
set_option maxHeartbeats 4000000 in
set_option maxRecDepth 100000 in
theorem c_X10_weightOf_32 {p : Program} {l : Launch} {e : Env} {s : State} {m : MethodId} {args : Array Value} {below : List Frame} {meth : Method} {c : Code} {G : pm_G} {H0 : Heap} {Post : Int32 → Prop} {v0 : Nat} {v1 : Int32} {v3 : Int32} {s0 : Int32} {s1 : Int32} {M : pm_M} {k_4 : Int32 → Int32 → Prop} (E : pm_E G p s m args meth c cX10_weightOf 4 RX10) (hret : meth.sig.returnType = (some .int)) (hk_4 : ∀ (v2 : Int32) (v3 : Int32) (H : Heap) (locs : List Loc) (ls : Array Slot), pm_I G H0 M H locs → (pm_is M v0 9) → lv_has ls 4 [(0, .ref (H0.size + v0)), (1, .int v1), (2, .int v2), (3, .int v3)] → k_4 v2 v3 → W p l e rm_X10_weightOf s m args below meth c H locs 0 0 (pm_Z G H0 M (pm_Pi (fun r9 M9 => M = M9 ∧ Post r9)) below args s rm_X10_weightOf.cells rm_X10_weightOf.slots) (F0 m 4 ls [])) {H : Heap} {locs : List Loc} {ls : Array Slot} (hI : pm_I G H0 M H locs) (t_v0 : pm_is M v0 9) (hl : lv_has ls 4 [(0, .ref (H0.size + v0)), (1, .int v1), (3, .int v3)]) (hw : w_X10_weightOf_32 Post k_4 v0 v1 v3 s0 s1 M) : W p l e rm_X10_weightOf s m args below meth c H locs 0 0 (pm_Z G H0 M (pm_Pi (fun r9 M9 => M = M9 ∧ Post r9)) below args s rm_X10_weightOf.cells rm_X10_weightOf.slots) (F0 m 32 ls [.int s1, .int s0]) := by
  have hx := E.1
  have hb := E.2.1
  have hown := E.2.2.2.1
  have hts := E.2.2.2.2.1
  unfold w_X10_weightOf_32 at hw
  refine lv_iadd hx hb dX10_weightOf_32 ?_
  refine lv_topi (fun x_1 e_x_1 => ?_)
  replace hw := hw x_1 e_x_1
  refine lv_istore_n (lv' := [(2, .int x_1), (0, .ref (H0.size + v0)), (1, .int v1), (3, .int v3)]) hx hb dX10_weightOf_33 rfl hl (by decide) rfl (fun ls hl_2 => ?_)
  obtain ⟨x_3, e_x_3⟩ : ∃ z : Int32, z = v3 + (1 : Int32) := ⟨_, rfl⟩
  refine lv_iinc (v := x_3) (lv' := [(3, .int x_3), (2, .int x_1), (0, .ref (H0.size + v0)), (1, .int v1)]) hx hb dX10_weightOf_34 hl_2 (k := 3) rfl (by rw [e_x_3]; rfl) (by decide) rfl (fun ls hl_4 => ?_)
  replace hw := hw x_3 e_x_3
  refine lv_goto (tgt := 4) hx hb dX10_weightOf_37 (by decide) ?_
  exact hk_4 _ _ _ _ _ hI t_v0 (lv_sub hl_4 [2, 3, 1, 0] rfl) hw
set_option maxHeartbeats 4000000 in
set_option maxRecDepth 100000 in
theorem c_X10_weightOf_4 {p : Program} {l : Launch} {e : Env} {s : State} {m : MethodId} {args : Array Value} {below : List Frame} {meth : Method} {c : Code} {G : pm_G} {H0 : Heap} {Post : Int32 → Prop} {v0 : Nat} {v1 : Int32} {M : pm_M} (E : pm_E G p s m args meth c cX10_weightOf 4 RX10) (hret : meth.sig.returnType = (some .int)) : ∀ (n : Nat) (v2 : Int32) (v3 : Int32) (H : Heap) (locs : List Loc) (ls : Array Slot), pm_I G H0 M H locs → (pm_is M v0 9) → lv_has ls 4 [(0, .ref (H0.size + v0)), (1, .int v1), (2, .int v2), (3, .int v3)] → w_X10_weightOf_4 Post v0 v1 M n v2 v3 → W p l e rm_X10_weightOf s m args below meth c H locs 0 0 (pm_Z G H0 M (pm_Pi (fun r9 M9 => M = M9 ∧ Post r9)) below args s rm_X10_weightOf.cells rm_X10_weightOf.slots) (F0 m 4 ls []) := by
  have hx := E.1
  have hb := E.2.1
  have hown := E.2.2.2.1
  have hts := E.2.2.2.2.1
  intro n
  induction n with
  | zero =>
    intro v2 v3 H locs ls hI t_v0 hl hw
    unfold w_X10_weightOf_4 at hw
    exact hw.elim
  | succ n ih =>
    intro v2 v3 H locs ls hI t_v0 hl hw
    unfold w_X10_weightOf_4 at hw
    refine lv_iload_n hx hb dX10_weightOf_4 rfl (lv_at hl 3 rfl) ?_
    refine lv_aload_n hx hb dX10_weightOf_5 rfl (lv_at hl 0 rfl) ?_
    refine gf_X10_7 E hI t_v0 dX10_weightOf_6 ?_
    refine lv_icmp_ge (tgt := 40) hx hb dX10_weightOf_9 (by decide) (fun h_1 => ?_) (fun h_1 => ?_)
    · replace hw := hw.1 h_1
      refine lv_iload_n hx hb dX10_weightOf_40 rfl (lv_at hl 2 rfl) ?_
      exact pm_iret E hret hI pm_X.rf ⟨_, rfl, rfl, hw⟩ (by decide) (by decide) dX10_weightOf_41
    · replace hw := hw.2 h_1
      refine lv_iload_n hx hb dX10_weightOf_12 rfl (lv_at hl 2 rfl) ?_
      refine lv_iload_n hx hb dX10_weightOf_13 rfl (lv_at hl 1 rfl) ?_
      refine lv_iload_n hx hb dX10_weightOf_14 rfl (lv_at hl 3 rfl) ?_
      refine lv_ishr hx hb dX10_weightOf_15 ?_
      refine lv_iconst (v := (1 : Int32)) hx hb dX10_weightOf_16 (by decide) ?_
      refine lv_iand hx hb dX10_weightOf_17 ?_
      refine lv_iconst (v := (1 : Int32)) hx hb dX10_weightOf_18 (by decide) ?_
      refine lv_icmp_ne (tgt := 31) hx hb dX10_weightOf_19 (by decide) (fun h_2 => ?_) (fun h_2 => ?_)
      · replace hw := hw.1 h_2
        refine lv_iconst (v := (0 : Int32)) hx hb dX10_weightOf_31 (by decide) ?_
        exact c_X10_weightOf_32 E hret ih hI t_v0 (lv_sub hl [0, 1, 3] rfl) hw
      · replace hw := hw.2 h_2
        refine lv_aload_n hx hb dX10_weightOf_22 rfl (lv_at hl 0 rfl) ?_
        obtain ⟨q_3, e_q_3, hw⟩ := hw
        refine gf_X10_16 E hI t_v0 dX10_weightOf_23 e_q_3 (fun t_q_3 => ?_)
        refine lv_iload_n hx hb dX10_weightOf_26 rfl (lv_at hl 3 rfl) ?_
        obtain ⟨h_4, hw⟩ := hw
        refine pm_iald E hI t_q_3 h_4 dX10_weightOf_27 ?_
        refine lv_goto (tgt := 32) hx hb dX10_weightOf_28 (by decide) ?_
        exact c_X10_weightOf_32 E hret ih hI t_v0 (lv_sub hl [0, 1, 3] rfl) hw
set_option maxHeartbeats 4000000 in
set_option maxRecDepth 100000 in
theorem k_X10_weightOf {l : Launch} {G : pm_G} {H0 : Heap} {th : Nat} {a1 : Int32} {M : pm_M} {Post : Int32 → Prop} (t_th : pm_is M th 9) (hw : w_X10_weightOf th a1 M Post) : pm_C l G H0 yX10_weightOf cX10_weightOf 4 (some .int) rm_X10_weightOf [.ref (H0.size + th), .int a1] M (pm_Pi (fun r9 M9 => M = M9 ∧ Post r9)) := by
  refine pm_start (by decide +kernel) (Nat.le_of_ble_eq_true rfl) ?_
  intro p e s m args below meth c H ls E hret hnm hI hl
  have hl : lv_has ls 4 [(0, .ref (H0.size + th)), (1, .int a1)] := hl
  have hx := E.1
  have hb := E.2.1
  have hown := E.2.2.2.1
  have hts := E.2.2.2.2.1
  unfold w_X10_weightOf at hw
  refine lv_iconst (v := (0 : Int32)) hx hb dX10_weightOf_0 (by decide) ?_
  refine lv_istore_n (lv' := [(2, .int (0 : Int32)), (0, .ref (H0.size + th)), (1, .int a1)]) hx hb dX10_weightOf_1 rfl hl (by decide) rfl (fun ls hl_1 => ?_)
  refine lv_iconst (v := (0 : Int32)) hx hb dX10_weightOf_2 (by decide) ?_
  refine lv_istore_n (lv' := [(3, .int (0 : Int32)), (2, .int (0 : Int32)), (0, .ref (H0.size + th)), (1, .int a1)]) hx hb dX10_weightOf_3 rfl hl_1 (by decide) rfl (fun ls hl_2 => ?_)
  obtain ⟨n_3, hw⟩ := hw
  exact c_X10_weightOf_4 E hret n_3 _ _ _ _ _ hI t_th (lv_sub hl_2 [2, 3, 1, 0] rfl) hw
set_option maxHeartbeats 4000000 in
set_option maxRecDepth 100000 in
theorem c_X10_isBetter_170 {p : Program} {l : Launch} {e : Env} {s : State} {m : MethodId} {args : Array Value} {below : List Frame} {meth : Method} {c : Code} {G : pm_G} {H0 : Heap} {Post : Int32 → Prop} {s0 : Int32} {M : pm_M} (E : pm_E G p s m args meth c cX10_isBetter 9 RX10) (hret : meth.sig.returnType = (some .boolean)) {H : Heap} {locs : List Loc} {ls : Array Slot} (hI : pm_I G H0 M H locs) (hl : lv_has ls 9 []) (hw : w_X10_isBetter_170 Post s0 M) : W p l e rm_X10_isBetter s m args below meth c H locs 0 0 (pm_Z G H0 M (pm_Pi (fun r9 M9 => M = M9 ∧ Post r9)) below args s rm_X10_isBetter.cells rm_X10_isBetter.slots) (F0 m 170 ls [.int s0]) := by
  have hx := E.1
  have hb := E.2.1
  have hown := E.2.2.2.1
  have hts := E.2.2.2.2.1
  unfold w_X10_isBetter_170 at hw
  exact pm_zret E hret hI pm_X.rf (pm_nb hw.1) ⟨_, rfl, rfl, hw.2⟩ (by decide) (by decide) dX10_isBetter_170
set_option maxHeartbeats 4000000 in
set_option maxRecDepth 100000 in
theorem c_X10_isBetter_169 {p : Program} {l : Launch} {e : Env} {s : State} {m : MethodId} {args : Array Value} {below : List Frame} {meth : Method} {c : Code} {G : pm_G} {H0 : Heap} {Post : Int32 → Prop} {M : pm_M} (E : pm_E G p s m args meth c cX10_isBetter 9 RX10) (hret : meth.sig.returnType = (some .boolean)) {H : Heap} {locs : List Loc} {ls : Array Slot} (hI : pm_I G H0 M H locs) (hl : lv_has ls 9 []) (hw : w_X10_isBetter_169 Post M) : W p l e rm_X10_isBetter s m args below meth c H locs 0 0 (pm_Z G H0 M (pm_Pi (fun r9 M9 => M = M9 ∧ Post r9)) below args s rm_X10_isBetter.cells rm_X10_isBetter.slots) (F0 m 169 ls []) := by
  have hx := E.1
  have hb := E.2.1
  have hown := E.2.2.2.1
  have hts := E.2.2.2.2.1
  unfold w_X10_isBetter_169 at hw
  refine lv_iconst (v := (0 : Int32)) hx hb dX10_isBetter_169 (by decide) ?_
  exact c_X10_isBetter_170 E hret hI (lv_sub hl [] rfl) hw
set_option maxHeartbeats 4000000 in
set_option maxRecDepth 100000 in
theorem c_X10_isBetter_143 {p : Program} {l : Launch} {e : Env} {s : State} {m : MethodId} {args : Array Value} {below : List Frame} {meth : Method} {c : Code} {G : pm_G} {H0 : Heap} {Post : Int32 → Prop} {v0 : Nat} {v1 : Int32} {v2 : Int32} {v3 : Int32} {v6 : Int32} {v7 : Int32} {M : pm_M} {k_59 : Int32 → Int32 → Prop} (E : pm_E G p s m args meth c cX10_isBetter 9 RX10) (hret : meth.sig.returnType = (some .boolean)) (hk_59 : ∀ (v6 : Int32) (v7 : Int32) (H : Heap) (locs : List Loc) (ls : Array Slot), pm_I G H0 M H locs → (pm_is M v0 9) → lv_has ls 9 [(0, .ref (H0.size + v0)), (1, .int v1), (2, .int v2), (3, .int v3), (6, .int v6), (7, .int v7)] → k_59 v6 v7 → W p l e rm_X10_isBetter s m args below meth c H locs 0 0 (pm_Z G H0 M (pm_Pi (fun r9 M9 => M = M9 ∧ Post r9)) below args s rm_X10_isBetter.cells rm_X10_isBetter.slots) (F0 m 59 ls [])) {H : Heap} {locs : List Loc} {ls : Array Slot} (hI : pm_I G H0 M H locs) (t_v0 : pm_is M v0 9) (hl : lv_has ls 9 [(0, .ref (H0.size + v0)), (1, .int v1), (2, .int v2), (3, .int v3), (6, .int v6), (7, .int v7)]) (hw : w_X10_isBetter_143 Post k_59 v0 v1 v2 v3 v6 v7 M) : W p l e rm_X10_isBetter s m args below meth c H locs 0 0 (pm_Z G H0 M (pm_Pi (fun r9 M9 => M = M9 ∧ Post r9)) below args s rm_X10_isBetter.cells rm_X10_isBetter.slots) (F0 m 143 ls []) := by
  have hx := E.1
  have hb := E.2.1
  have hown := E.2.2.2.1
  have hts := E.2.2.2.2.1
  unfold w_X10_isBetter_143 at hw
  obtain ⟨x_1, e_x_1⟩ : ∃ z : Int32, z = v7 + (1 : Int32) := ⟨_, rfl⟩
  refine lv_iinc (v := x_1) (lv' := [(7, .int x_1), (0, .ref (H0.size + v0)), (1, .int v1), (2, .int v2), (3, .int v3), (6, .int v6)]) hx hb dX10_isBetter_143 hl (k := 5) rfl (by rw [e_x_1]; rfl) (by decide) rfl (fun ls hl_2 => ?_)
  replace hw := hw x_1 e_x_1
  refine lv_goto (tgt := 59) hx hb dX10_isBetter_146 (by decide) ?_
  exact hk_59 _ _ _ _ _ hI t_v0 (lv_sub hl_2 [1, 2, 3, 4, 5, 0] rfl) hw
set_option maxHeartbeats 4000000 in
set_option maxRecDepth 100000 in
theorem c_X10_isBetter_139 {p : Program} {l : Launch} {e : Env} {s : State} {m : MethodId} {args : Array Value} {below : List Frame} {meth : Method} {c : Code} {G : pm_G} {H0 : Heap} {Post : Int32 → Prop} {v0 : Nat} {v1 : Int32} {v2 : Int32} {v3 : Int32} {v7 : Int32} {M : pm_M} {k_59 : Int32 → Int32 → Prop} (E : pm_E G p s m args meth c cX10_isBetter 9 RX10) (hret : meth.sig.returnType = (some .boolean)) (hk_59 : ∀ (v6 : Int32) (v7 : Int32) (H : Heap) (locs : List Loc) (ls : Array Slot), pm_I G H0 M H locs → (pm_is M v0 9) → lv_has ls 9 [(0, .ref (H0.size + v0)), (1, .int v1), (2, .int v2), (3, .int v3), (6, .int v6), (7, .int v7)] → k_59 v6 v7 → W p l e rm_X10_isBetter s m args below meth c H locs 0 0 (pm_Z G H0 M (pm_Pi (fun r9 M9 => M = M9 ∧ Post r9)) below args s rm_X10_isBetter.cells rm_X10_isBetter.slots) (F0 m 59 ls [])) {H : Heap} {locs : List Loc} {ls : Array Slot} (hI : pm_I G H0 M H locs) (t_v0 : pm_is M v0 9) (hl : lv_has ls 9 [(0, .ref (H0.size + v0)), (1, .int v1), (2, .int v2), (3, .int v3), (7, .int v7)]) (hw : w_X10_isBetter_139 Post k_59 v0 v1 v2 v3 v7 M) : W p l e rm_X10_isBetter s m args below meth c H locs 0 0 (pm_Z G H0 M (pm_Pi (fun r9 M9 => M = M9 ∧ Post r9)) below args s rm_X10_isBetter.cells rm_X10_isBetter.slots) (F0 m 139 ls []) := by
  have hx := E.1
  have hb := E.2.1
  have hown := E.2.2.2.1
  have hts := E.2.2.2.2.1
  unfold w_X10_isBetter_139 at hw
  refine lv_iload hx hb dX10_isBetter_139 (lv_at hl 4 rfl) ?_
  refine lv_istore (lv' := [(6, .int v7), (0, .ref (H0.size + v0)), (1, .int v1), (2, .int v2), (3, .int v3), (7, .int v7)]) hx hb dX10_isBetter_141 hl (by decide) rfl (fun ls hl_1 => ?_)
  exact c_X10_isBetter_143 E hret hk_59 hI t_v0 (lv_sub hl_1 [1, 2, 3, 4, 0, 5] rfl) hw
set_option maxHeartbeats 4000000 in
set_option maxRecDepth 100000 in
theorem c_X10_isBetter_85 {p : Program} {l : Launch} {e : Env} {s : State} {m : MethodId} {args : Array Value} {below : List Frame} {meth : Method} {c : Code} {G : pm_G} {H0 : Heap} {Post : Int32 → Prop} {v0 : Nat} {v1 : Int32} {v2 : Int32} {v3 : Int32} {v6 : Int32} {v7 : Int32} {s0 : Int32} {M : pm_M} {k_59 : Int32 → Int32 → Prop} (E : pm_E G p s m args meth c cX10_isBetter 9 RX10) (hret : meth.sig.returnType = (some .boolean)) (hk_59 : ∀ (v6 : Int32) (v7 : Int32) (H : Heap) (locs : List Loc) (ls : Array Slot), pm_I G H0 M H locs → (pm_is M v0 9) → lv_has ls 9 [(0, .ref (H0.size + v0)), (1, .int v1), (2, .int v2), (3, .int v3), (6, .int v6), (7, .int v7)] → k_59 v6 v7 → W p l e rm_X10_isBetter s m args below meth c H locs 0 0 (pm_Z G H0 M (pm_Pi (fun r9 M9 => M = M9 ∧ Post r9)) below args s rm_X10_isBetter.cells rm_X10_isBetter.slots) (F0 m 59 ls [])) {H : Heap} {locs : List Loc} {ls : Array Slot} (hI : pm_I G H0 M H locs) (t_v0 : pm_is M v0 9) (hl : lv_has ls 9 [(0, .ref (H0.size + v0)), (1, .int v1), (2, .int v2), (3, .int v3), (6, .int v6), (7, .int v7)]) (hw : w_X10_isBetter_85 Post k_59 v0 v1 v2 v3 v6 v7 s0 M) : W p l e rm_X10_isBetter s m args below meth c H locs 0 0 (pm_Z G H0 M (pm_Pi (fun r9 M9 => M = M9 ∧ Post r9)) below args s rm_X10_isBetter.cells rm_X10_isBetter.slots) (F0 m 85 ls [.int s0]) := by
  have hx := E.1
  have hb := E.2.1
  have hown := E.2.2.2.1
  have hts := E.2.2.2.2.1
  unfold w_X10_isBetter_85 at hw
  refine lv_istore (lv' := [(8, .int s0), (0, .ref (H0.size + v0)), (1, .int v1), (2, .int v2), (3, .int v3), (6, .int v6), (7, .int v7)]) hx hb dX10_isBetter_85 hl (by decide) rfl (fun ls hl_1 => ?_)
  refine lv_iload hx hb dX10_isBetter_87 (lv_at hl_1 0 rfl) ?_
  refine lv_if_eq (tgt := 143) hx hb dX10_isBetter_89 (by decide) (fun h_2 => ?_) (fun h_2 => ?_)
  · replace hw := hw.1 h_2
    exact c_X10_isBetter_143 E hret hk_59 hI t_v0 (lv_sub hl_1 [1, 2, 3, 4, 5, 6] rfl) hw
  · replace hw := hw.2 h_2
    refine lv_iload hx hb dX10_isBetter_92 (lv_at hl_1 5 rfl) ?_
    refine lv_iconst (v := (-1 : Int32)) hx hb dX10_isBetter_94 (by decide) ?_
    refine lv_icmp_eq (tgt := 139) hx hb dX10_isBetter_95 (by decide) (fun h_3 => ?_) (fun h_3 => ?_)
    · replace hw := hw.1 h_3
      exact c_X10_isBetter_139 E hret hk_59 hI t_v0 (lv_sub hl_1 [1, 2, 3, 4, 6] rfl) hw
    · replace hw := hw.2 h_3
      refine lv_iload_n hx hb dX10_isBetter_98 rfl (lv_at hl_1 4 rfl) ?_
      refine lv_if_eq (tgt := 122) hx hb dX10_isBetter_99 (by decide) (fun h_4 => ?_) (fun h_4 => ?_)
      · replace hw := hw.1 h_4
        refine lv_aload_n hx hb dX10_isBetter_122 rfl (lv_at hl_1 1 rfl) ?_
        obtain ⟨q_5, e_q_5, hw⟩ := hw
        refine gf_X10_16 E hI t_v0 dX10_isBetter_123 e_q_5 (fun t_q_5 => ?_)
        refine lv_iload hx hb dX10_isBetter_126 (lv_at hl_1 6 rfl) ?_
        obtain ⟨h_6, hw⟩ := hw
        refine pm_iald E hI t_q_5 h_6 dX10_isBetter_128 ?_
        refine lv_aload_n hx hb dX10_isBetter_129 rfl (lv_at hl_1 1 rfl) ?_
        refine gf_X10_16 E hI t_v0 dX10_isBetter_130 e_q_5 (fun _ => ?_)
        refine lv_iload hx hb dX10_isBetter_133 (lv_at hl_1 5 rfl) ?_
        obtain ⟨h_7, hw⟩ := hw
        refine pm_iald E hI t_q_5 h_7 dX10_isBetter_135 ?_
        refine lv_icmp_le (tgt := 143) hx hb dX10_isBetter_136 (by decide) (fun h_8 => ?_) (fun h_8 => ?_)
        · replace hw := hw.1 h_8
          exact c_X10_isBetter_143 E hret hk_59 hI t_v0 (lv_sub hl_1 [1, 2, 3, 4, 5, 6] rfl) hw
        · replace hw := hw.2 h_8
          exact c_X10_isBetter_139 E hret hk_59 hI t_v0 (lv_sub hl_1 [1, 2, 3, 4, 6] rfl) hw
      · replace hw := hw.2 h_4
        refine lv_aload_n hx hb dX10_isBetter_102 rfl (lv_at hl_1 1 rfl) ?_
        obtain ⟨q_9, e_q_9, hw⟩ := hw
        refine gf_X10_16 E hI t_v0 dX10_isBetter_103 e_q_9 (fun t_q_9 => ?_)
        refine lv_iload hx hb dX10_isBetter_106 (lv_at hl_1 6 rfl) ?_
        obtain ⟨h_10, hw⟩ := hw
        refine pm_iald E hI t_q_9 h_10 dX10_isBetter_108 ?_
        refine lv_aload_n hx hb dX10_isBetter_109 rfl (lv_at hl_1 1 rfl) ?_
        refine gf_X10_16 E hI t_v0 dX10_isBetter_110 e_q_9 (fun _ => ?_)
        refine lv_iload hx hb dX10_isBetter_113 (lv_at hl_1 5 rfl) ?_
        obtain ⟨h_11, hw⟩ := hw
        refine pm_iald E hI t_q_9 h_11 dX10_isBetter_115 ?_
        refine lv_icmp_ge (tgt := 143) hx hb dX10_isBetter_116 (by decide) (fun h_12 => ?_) (fun h_12 => ?_)
        · replace hw := hw.1 h_12
          exact c_X10_isBetter_143 E hret hk_59 hI t_v0 (lv_sub hl_1 [1, 2, 3, 4, 5, 6] rfl) hw
        · replace hw := hw.2 h_12
          refine lv_goto (tgt := 139) hx hb dX10_isBetter_119 (by decide) ?_
          exact c_X10_isBetter_139 E hret hk_59 hI t_v0 (lv_sub hl_1 [1, 2, 3, 4, 6] rfl) hw
set_option maxHeartbeats 4000000 in
set_option maxRecDepth 100000 in
theorem c_X10_isBetter_59 {p : Program} {l : Launch} {e : Env} {s : State} {m : MethodId} {args : Array Value} {below : List Frame} {meth : Method} {c : Code} {G : pm_G} {H0 : Heap} {Post : Int32 → Prop} {v0 : Nat} {v1 : Int32} {v2 : Int32} {v3 : Int32} {M : pm_M} (E : pm_E G p s m args meth c cX10_isBetter 9 RX10) (hret : meth.sig.returnType = (some .boolean)) : ∀ (n : Nat) (v6 : Int32) (v7 : Int32) (H : Heap) (locs : List Loc) (ls : Array Slot), pm_I G H0 M H locs → (pm_is M v0 9) → lv_has ls 9 [(0, .ref (H0.size + v0)), (1, .int v1), (2, .int v2), (3, .int v3), (6, .int v6), (7, .int v7)] → w_X10_isBetter_59 Post v0 v1 v2 v3 M n v6 v7 → W p l e rm_X10_isBetter s m args below meth c H locs 0 0 (pm_Z G H0 M (pm_Pi (fun r9 M9 => M = M9 ∧ Post r9)) below args s rm_X10_isBetter.cells rm_X10_isBetter.slots) (F0 m 59 ls []) := by
  have hx := E.1
  have hb := E.2.1
  have hown := E.2.2.2.1
  have hts := E.2.2.2.2.1
  intro n
  induction n with
  | zero =>
    intro v6 v7 H locs ls hI t_v0 hl hw
    unfold w_X10_isBetter_59 at hw
    exact hw.elim
  | succ n ih =>
    intro v6 v7 H locs ls hI t_v0 hl hw
    unfold w_X10_isBetter_59 at hw
    refine lv_iload hx hb dX10_isBetter_59 (lv_at hl 5 rfl) ?_
    refine lv_aload_n hx hb dX10_isBetter_61 rfl (lv_at hl 0 rfl) ?_
    refine gf_X10_7 E hI t_v0 dX10_isBetter_62 ?_
    refine lv_icmp_ge (tgt := 149) hx hb dX10_isBetter_65 (by decide) (fun h_1 => ?_) (fun h_1 => ?_)
    · replace hw := hw.1 h_1
      refine lv_iload hx hb dX10_isBetter_149 (lv_at hl 4 rfl) ?_
      refine lv_iconst (v := (-1 : Int32)) hx hb dX10_isBetter_151 (by decide) ?_
      refine lv_icmp_eq (tgt := 169) hx hb dX10_isBetter_152 (by decide) (fun h_2 => ?_) (fun h_2 => ?_)
      · replace hw := hw.1 h_2
        exact c_X10_isBetter_169 E hret hI (lv_sub hl [] rfl) hw
      · replace hw := hw.2 h_2
        refine lv_iload_n hx hb dX10_isBetter_155 rfl (lv_at hl 1 rfl) ?_
        refine lv_iload hx hb dX10_isBetter_156 (lv_at hl 4 rfl) ?_
        refine lv_ishr hx hb dX10_isBetter_158 ?_
        refine lv_iconst (v := (1 : Int32)) hx hb dX10_isBetter_159 (by decide) ?_
        refine lv_iand hx hb dX10_isBetter_160 ?_
        refine lv_iconst (v := (1 : Int32)) hx hb dX10_isBetter_161 (by decide) ?_
        refine lv_icmp_ne (tgt := 169) hx hb dX10_isBetter_162 (by decide) (fun h_3 => ?_) (fun h_3 => ?_)
        · replace hw := hw.1 h_3
          exact c_X10_isBetter_169 E hret hI (lv_sub hl [] rfl) hw
        · replace hw := hw.2 h_3
          refine lv_iconst (v := (1 : Int32)) hx hb dX10_isBetter_165 (by decide) ?_
          refine lv_goto (tgt := 170) hx hb dX10_isBetter_166 (by decide) ?_
          exact c_X10_isBetter_170 E hret hI (lv_sub hl [] rfl) hw
    · replace hw := hw.2 h_1
      refine lv_iload_n hx hb dX10_isBetter_68 rfl (lv_at hl 1 rfl) ?_
      refine lv_iload_n hx hb dX10_isBetter_69 rfl (lv_at hl 2 rfl) ?_
      refine lv_ixor hx hb dX10_isBetter_70 ?_
      refine lv_iload hx hb dX10_isBetter_71 (lv_at hl 5 rfl) ?_
      refine lv_ishr hx hb dX10_isBetter_73 ?_
      refine lv_iconst (v := (1 : Int32)) hx hb dX10_isBetter_74 (by decide) ?_
      refine lv_iand hx hb dX10_isBetter_75 ?_
      refine lv_iconst (v := (1 : Int32)) hx hb dX10_isBetter_76 (by decide) ?_
      refine lv_icmp_ne (tgt := 84) hx hb dX10_isBetter_77 (by decide) (fun h_4 => ?_) (fun h_4 => ?_)
      · replace hw := hw.1 h_4
        refine lv_iconst (v := (0 : Int32)) hx hb dX10_isBetter_84 (by decide) ?_
        exact c_X10_isBetter_85 E hret ih hI t_v0 (lv_sub hl [0, 1, 2, 3, 4, 5] rfl) hw
      · replace hw := hw.2 h_4
        refine lv_iconst (v := (1 : Int32)) hx hb dX10_isBetter_80 (by decide) ?_
        refine lv_goto (tgt := 85) hx hb dX10_isBetter_81 (by decide) ?_
        exact c_X10_isBetter_85 E hret ih hI t_v0 (lv_sub hl [0, 1, 2, 3, 4, 5] rfl) hw
set_option maxHeartbeats 4000000 in
set_option maxRecDepth 100000 in
theorem c_X10_isBetter_52 {p : Program} {l : Launch} {e : Env} {s : State} {m : MethodId} {args : Array Value} {below : List Frame} {meth : Method} {c : Code} {G : pm_G} {H0 : Heap} {Post : Int32 → Prop} {s0 : Int32} {M : pm_M} (E : pm_E G p s m args meth c cX10_isBetter 9 RX10) (hret : meth.sig.returnType = (some .boolean)) {H : Heap} {locs : List Loc} {ls : Array Slot} (hI : pm_I G H0 M H locs) (hl : lv_has ls 9 []) (hw : w_X10_isBetter_52 Post s0 M) : W p l e rm_X10_isBetter s m args below meth c H locs 0 0 (pm_Z G H0 M (pm_Pi (fun r9 M9 => M = M9 ∧ Post r9)) below args s rm_X10_isBetter.cells rm_X10_isBetter.slots) (F0 m 52 ls [.int s0]) := by
  have hx := E.1
  have hb := E.2.1
  have hown := E.2.2.2.1
  have hts := E.2.2.2.2.1
  unfold w_X10_isBetter_52 at hw
  exact pm_zret E hret hI pm_X.rf (pm_nb hw.1) ⟨_, rfl, rfl, hw.2⟩ (by decide) (by decide) dX10_isBetter_52
set_option maxHeartbeats 4000000 in
set_option maxRecDepth 100000 in
theorem k_X10_isBetter {l : Launch} {G : pm_G} {H0 : Heap} {th : Nat} {a1 : Int32} {a2 : Int32} {a3 : Int32} {M : pm_M} {Post : Int32 → Prop} (t_th : pm_is M th 9) (hw : w_X10_isBetter th a1 a2 a3 M Post) : pm_C l G H0 yX10_isBetter cX10_isBetter 9 (some .boolean) rm_X10_isBetter [.ref (H0.size + th), .int a1, .int a2, .int a3] M (pm_Pi (fun r9 M9 => M = M9 ∧ Post r9)) := by
  refine pm_start (by decide +kernel) (Nat.le_of_ble_eq_true rfl) ?_
  intro p e s m args below meth c H ls E hret hnm hI hl
  have hl : lv_has ls 9 [(0, .ref (H0.size + th)), (1, .int a1), (2, .int a2), (3, .int a3)] := hl
  have hx := E.1
  have hb := E.2.1
  have hown := E.2.2.2.1
  have hts := E.2.2.2.2.1
  unfold w_X10_isBetter at hw
  refine lv_aload_n hx hb dX10_isBetter_0 rfl (lv_at hl 0 rfl) ?_
  refine lv_iload_n hx hb dX10_isBetter_1 rfl (lv_at hl 1 rfl) ?_
  refine pm_callV (As := [.int a1]) (rest := []) 1 E hI (k_X10_weightOf t_th hw) t_th (by decide) rfl kc_X10_weightOf kl_X10_204 km_X10_weightOf ks_X10_weightOf ki_X10 (by decide +kernel) ⟨by decide, by decide⟩ rfl hl.1 rfl (by first | exact Nat.le_of_ble_eq_true rfl | (simp only [List.map, pm_rf_cat]; exact Nat.le_of_ble_eq_true rfl)) dX10_isBetter_2 ⟨by decide, by decide⟩ (fun r9 M9 H locs hp hX1 hI => ?_)
  clear hw
  obtain ⟨r_1, rfl, rfl, hw⟩ := hp
  refine pm_nrm (cells' := 0) (slots' := 0) (g2 := F0 m 5 ls [.int r_1]) rfl rfl rfl ?_
  refine lv_istore (lv' := [(4, .int r_1), (0, .ref (H0.size + th)), (1, .int a1), (2, .int a2), (3, .int a3)]) hx hb dX10_isBetter_5 hl (by decide) rfl (fun ls hl_2 => ?_)
  refine lv_aload_n hx hb dX10_isBetter_7 rfl (lv_at hl_2 1 rfl) ?_
  refine lv_iload_n hx hb dX10_isBetter_8 rfl (lv_at hl_2 3 rfl) ?_
  refine pm_callV (As := [.int a2]) (rest := []) 1 E hI (k_X10_weightOf t_th hw) t_th (by decide) rfl kc_X10_weightOf kl_X10_204 km_X10_weightOf ks_X10_weightOf ki_X10 (by decide +kernel) ⟨by decide, by decide⟩ rfl hl_2.1 rfl (by first | exact Nat.le_of_ble_eq_true rfl | (simp only [List.map, pm_rf_cat]; exact Nat.le_of_ble_eq_true rfl)) dX10_isBetter_9 ⟨by decide, by decide⟩ (fun r9 M9 H locs hp hX1 hI => ?_)
  clear hw
  obtain ⟨r_3, rfl, rfl, hw⟩ := hp
  refine pm_nrm (cells' := 0) (slots' := 0) (g2 := F0 m 12 ls [.int r_3]) rfl rfl rfl ?_
  refine lv_istore (lv' := [(5, .int r_3), (4, .int r_1), (0, .ref (H0.size + th)), (1, .int a1), (2, .int a2), (3, .int a3)]) hx hb dX10_isBetter_12 hl_2 (by decide) rfl (fun ls hl_4 => ?_)
  refine lv_iload hx hb dX10_isBetter_14 (lv_at hl_4 1 rfl) ?_
  refine lv_iload hx hb dX10_isBetter_16 (lv_at hl_4 0 rfl) ?_
  refine lv_icmp_eq (tgt := 53) hx hb dX10_isBetter_18 (by decide) (fun h_5 => ?_) (fun h_5 => ?_)
  · replace hw := hw.1 h_5
    refine lv_iconst (v := (-1 : Int32)) hx hb dX10_isBetter_53 (by decide) ?_
    refine lv_istore (lv' := [(6, .int (-1 : Int32)), (5, .int r_3), (4, .int r_1), (0, .ref (H0.size + th)), (1, .int a1), (2, .int a2), (3, .int a3)]) hx hb dX10_isBetter_54 hl_4 (by decide) rfl (fun ls hl_6 => ?_)
    refine lv_iconst (v := (0 : Int32)) hx hb dX10_isBetter_56 (by decide) ?_
    refine lv_istore (lv' := [(7, .int (0 : Int32)), (6, .int (-1 : Int32)), (5, .int r_3), (4, .int r_1), (0, .ref (H0.size + th)), (1, .int a1), (2, .int a2), (3, .int a3)]) hx hb dX10_isBetter_57 hl_6 (by decide) rfl (fun ls hl_7 => ?_)
    obtain ⟨n_8, hw⟩ := hw
    exact c_X10_isBetter_59 E hret n_8 _ _ _ _ _ hI t_th (lv_sub hl_7 [4, 5, 6, 7, 1, 0] rfl) hw
  · replace hw := hw.2 h_5
    refine lv_iload_n hx hb dX10_isBetter_21 rfl (lv_at hl_4 5 rfl) ?_
    refine lv_if_eq (tgt := 40) hx hb dX10_isBetter_22 (by decide) (fun h_9 => ?_) (fun h_9 => ?_)
    · replace hw := hw.1 h_9
      refine lv_iload hx hb dX10_isBetter_40 (lv_at hl_4 1 rfl) ?_
      refine lv_iload hx hb dX10_isBetter_42 (lv_at hl_4 0 rfl) ?_
      refine lv_icmp_le (tgt := 51) hx hb dX10_isBetter_44 (by decide) (fun h_10 => ?_) (fun h_10 => ?_)
      · replace hw := hw.1 h_10
        refine lv_iconst (v := (0 : Int32)) hx hb dX10_isBetter_51 (by decide) ?_
        exact c_X10_isBetter_52 E hret hI (lv_sub hl_4 [] rfl) hw
      · replace hw := hw.2 h_10
        refine lv_iconst (v := (1 : Int32)) hx hb dX10_isBetter_47 (by decide) ?_
        refine lv_goto (tgt := 52) hx hb dX10_isBetter_48 (by decide) ?_
        exact c_X10_isBetter_52 E hret hI (lv_sub hl_4 [] rfl) hw
    · replace hw := hw.2 h_9
      refine lv_iload hx hb dX10_isBetter_25 (lv_at hl_4 1 rfl) ?_
      refine lv_iload hx hb dX10_isBetter_27 (lv_at hl_4 0 rfl) ?_
      refine lv_icmp_ge (tgt := 36) hx hb dX10_isBetter_29 (by decide) (fun h_11 => ?_) (fun h_11 => ?_)
      · replace hw := hw.1 h_11
        refine lv_iconst (v := (0 : Int32)) hx hb dX10_isBetter_36 (by decide) ?_
        refine lv_goto (tgt := 52) hx hb dX10_isBetter_37 (by decide) ?_
        exact c_X10_isBetter_52 E hret hI (lv_sub hl_4 [] rfl) hw
      · replace hw := hw.2 h_11
        refine lv_iconst (v := (1 : Int32)) hx hb dX10_isBetter_32 (by decide) ?_
        refine lv_goto (tgt := 52) hx hb dX10_isBetter_33 (by decide) ?_
        exact c_X10_isBetter_52 E hret hI (lv_sub hl_4 [] rfl) hw
set_option maxHeartbeats 4000000 in
set_option maxRecDepth 100000 in
theorem c_X10_isFull_30 {p : Program} {l : Launch} {e : Env} {s : State} {m : MethodId} {args : Array Value} {below : List Frame} {meth : Method} {c : Code} {G : pm_G} {H0 : Heap} {Post : Int32 → Prop} {s0 : Int32} {M : pm_M} (E : pm_E G p s m args meth c cX10_isFull 3 RX10) (hret : meth.sig.returnType = (some .boolean)) {H : Heap} {locs : List Loc} {ls : Array Slot} (hI : pm_I G H0 M H locs) (hl : lv_has ls 3 []) (hw : w_X10_isFull_30 Post s0 M) : W p l e rm_X10_isFull s m args below meth c H locs 0 0 (pm_Z G H0 M (pm_Pi (fun r9 M9 => M = M9 ∧ Post r9)) below args s rm_X10_isFull.cells rm_X10_isFull.slots) (F0 m 30 ls [.int s0]) := by
  have hx := E.1
  have hb := E.2.1
  have hown := E.2.2.2.1
  have hts := E.2.2.2.2.1
  unfold w_X10_isFull_30 at hw
  exact pm_zret E hret hI pm_X.rf (pm_nb hw.1) ⟨_, rfl, rfl, hw.2⟩ (by decide) (by decide) dX10_isFull_30
set_option maxHeartbeats 4000000 in
set_option maxRecDepth 100000 in
theorem c_X10_isFull_29 {p : Program} {l : Launch} {e : Env} {s : State} {m : MethodId} {args : Array Value} {below : List Frame} {meth : Method} {c : Code} {G : pm_G} {H0 : Heap} {Post : Int32 → Prop} {M : pm_M} (E : pm_E G p s m args meth c cX10_isFull 3 RX10) (hret : meth.sig.returnType = (some .boolean)) {H : Heap} {locs : List Loc} {ls : Array Slot} (hI : pm_I G H0 M H locs) (hl : lv_has ls 3 []) (hw : w_X10_isFull_29 Post M) : W p l e rm_X10_isFull s m args below meth c H locs 0 0 (pm_Z G H0 M (pm_Pi (fun r9 M9 => M = M9 ∧ Post r9)) below args s rm_X10_isFull.cells rm_X10_isFull.slots) (F0 m 29 ls []) := by
  have hx := E.1
  have hb := E.2.1
  have hown := E.2.2.2.1
  have hts := E.2.2.2.2.1
  unfold w_X10_isFull_29 at hw
  refine lv_iconst (v := (0 : Int32)) hx hb dX10_isFull_29 (by decide) ?_
  exact c_X10_isFull_30 E hret hI (lv_sub hl [] rfl) hw
set_option maxHeartbeats 4000000 in
set_option maxRecDepth 100000 in
theorem k_X10_isFull {l : Launch} {G : pm_G} {H0 : Heap} {th : Nat} {a1 : Int32} {a2 : Int32} {M : pm_M} {Post : Int32 → Prop} (t_th : pm_is M th 9) (hw : w_X10_isFull th a1 a2 M Post) : pm_C l G H0 yX10_isFull cX10_isFull 3 (some .boolean) rm_X10_isFull [.ref (H0.size + th), .int a1, .int a2] M (pm_Pi (fun r9 M9 => M = M9 ∧ Post r9)) := by
  refine pm_start (by decide +kernel) (Nat.le_of_ble_eq_true rfl) ?_
  intro p e s m args below meth c H ls E hret hnm hI hl
  have hl : lv_has ls 3 [(0, .ref (H0.size + th)), (1, .int a1), (2, .int a2)] := hl
  have hx := E.1
  have hb := E.2.1
  have hown := E.2.2.2.1
  have hts := E.2.2.2.2.1
  unfold w_X10_isFull at hw
  refine lv_aload_n hx hb dX10_isFull_0 rfl (lv_at hl 0 rfl) ?_
  refine lv_iload_n hx hb dX10_isFull_1 rfl (lv_at hl 1 rfl) ?_
  refine lv_iload_n hx hb dX10_isFull_2 rfl (lv_at hl 2 rfl) ?_
  refine pm_callV (As := [.int a1, .int a2]) (rest := []) 2 E hI (k_X10_isAllowed t_th hw) t_th (by decide) rfl kc_X10_isAllowed kl_X10_100 km_X10_isAllowed ks_X10_isAllowed ki_X10 (by decide +kernel) ⟨by decide, by decide⟩ rfl hl.1 rfl (by first | exact Nat.le_of_ble_eq_true rfl | (simp only [List.map, pm_rf_cat]; exact Nat.le_of_ble_eq_true rfl)) dX10_isFull_3 ⟨by decide, by decide⟩ (fun r9 M9 H locs hp hX1 hI => ?_)
  clear hw
  obtain ⟨r_1, rfl, rfl, hw⟩ := hp
  refine pm_nrm (cells' := 0) (slots' := 0) (g2 := F0 m 6 ls [.int r_1]) rfl rfl rfl ?_
  refine lv_if_eq (tgt := 29) hx hb dX10_isFull_6 (by decide) (fun h_2 => ?_) (fun h_2 => ?_)
  · replace hw := hw.1 h_2
    exact c_X10_isFull_29 E hret hI (lv_sub hl [] rfl) hw
  · replace hw := hw.2 h_2
    refine lv_iload_n hx hb dX10_isFull_9 rfl (lv_at hl 2 rfl) ?_
    refine pm_callS (As := [.int a2]) (rest := []) 1 E hI (k_X10_bitsOf hw) kc_X10_bitsOf kl_X10_104 kt_X10_bitsOf ki_X10 (by decide +kernel) ⟨by decide, by decide⟩ rfl hl.1 rfl (by first | exact Nat.le_of_ble_eq_true rfl | (simp only [List.map, pm_rf_cat]; exact Nat.le_of_ble_eq_true rfl)) dX10_isFull_10 ⟨by decide, by decide⟩ (fun r9 M9 H locs hp hX1 hI => ?_)
    clear hw
    obtain ⟨r_3, rfl, rfl, hw⟩ := hp
    refine pm_nrm (cells' := 0) (slots' := 0) (g2 := F0 m 13 ls [.int r_3]) rfl rfl rfl ?_
    refine lv_aload_n hx hb dX10_isFull_13 rfl (lv_at hl 0 rfl) ?_
    refine lv_iload_n hx hb dX10_isFull_14 rfl (lv_at hl 1 rfl) ?_
    refine lv_aload_n hx hb dX10_isFull_15 rfl (lv_at hl 0 rfl) ?_
    refine gf_X10_13 E hI t_th dX10_isFull_16 ?_
    refine pm_callV (As := [.int a1, .int (mI M th 1)]) (rest := [.int r_3]) 2 E hI (k_X10_rankOf t_th hw) t_th (by decide) rfl kc_X10_rankOf kl_X10_108 km_X10_rankOf ks_X10_rankOf ki_X10 (by decide +kernel) ⟨by decide, by decide⟩ rfl hl.1 rfl (by first | exact Nat.le_of_ble_eq_true rfl | (simp only [List.map, pm_rf_cat]; exact Nat.le_of_ble_eq_true rfl)) dX10_isFull_19 ⟨by decide, by decide⟩ (fun r9 M9 H locs hp hX1 hI => ?_)
    clear hw
    obtain ⟨r_4, rfl, rfl, hw⟩ := hp
    refine pm_nrm (cells' := 0) (slots' := 0) (g2 := F0 m 22 ls [.int r_4, .int r_3]) rfl rfl rfl ?_
    refine lv_icmp_ne (tgt := 29) hx hb dX10_isFull_22 (by decide) (fun h_5 => ?_) (fun h_5 => ?_)
    · replace hw := hw.1 h_5
      exact c_X10_isFull_29 E hret hI (lv_sub hl [] rfl) hw
    · replace hw := hw.2 h_5
      refine lv_iconst (v := (1 : Int32)) hx hb dX10_isFull_25 (by decide) ?_
      refine lv_goto (tgt := 30) hx hb dX10_isFull_26 (by decide) ?_
      exact c_X10_isFull_30 E hret hI (lv_sub hl [] rfl) hw
set_option maxHeartbeats 4000000 in
set_option maxRecDepth 100000 in
theorem c_X10_full_53 {p : Program} {l : Launch} {e : Env} {s : State} {m : MethodId} {args : Array Value} {below : List Frame} {meth : Method} {c : Code} {G : pm_G} {H0 : Heap} {Post : Int32 → Prop} {v0 : Nat} {v1 : Int32} {v2 : Int32} {v3 : Int32} {v4 : Int32} {M : pm_M} {k_15 : Int32 → Int32 → Prop} (E : pm_E G p s m args meth c cX10_full 5 RX10) (hret : meth.sig.returnType = (some .int)) (hk_15 : ∀ (v3 : Int32) (v4 : Int32) (H : Heap) (locs : List Loc) (ls : Array Slot), pm_I G H0 M H locs → (pm_is M v0 9) → lv_has ls 5 [(0, .ref (H0.size + v0)), (1, .int v1), (2, .int v2), (3, .int v3), (4, .int v4)] → k_15 v3 v4 → W p l e rm_X10_full s m args below meth c H locs 0 0 (pm_Z G H0 M (pm_Pi (fun r9 M9 => M = M9 ∧ Post r9)) below args s rm_X10_full.cells rm_X10_full.slots) (F0 m 15 ls [])) {H : Heap} {locs : List Loc} {ls : Array Slot} (hI : pm_I G H0 M H locs) (t_v0 : pm_is M v0 9) (hl : lv_has ls 5 [(0, .ref (H0.size + v0)), (1, .int v1), (2, .int v2), (3, .int v3), (4, .int v4)]) (hw : w_X10_full_53 Post k_15 v0 v1 v2 v3 v4 M) : W p l e rm_X10_full s m args below meth c H locs 0 0 (pm_Z G H0 M (pm_Pi (fun r9 M9 => M = M9 ∧ Post r9)) below args s rm_X10_full.cells rm_X10_full.slots) (F0 m 53 ls []) := by
  have hx := E.1
  have hb := E.2.1
  have hown := E.2.2.2.1
  have hts := E.2.2.2.2.1
  unfold w_X10_full_53 at hw
  obtain ⟨x_1, e_x_1⟩ : ∃ z : Int32, z = v4 + (1 : Int32) := ⟨_, rfl⟩
  refine lv_iinc (v := x_1) (lv' := [(4, .int x_1), (0, .ref (H0.size + v0)), (1, .int v1), (2, .int v2), (3, .int v3)]) hx hb dX10_full_53 hl (k := 4) rfl (by rw [e_x_1]; rfl) (by decide) rfl (fun ls hl_2 => ?_)
  replace hw := hw x_1 e_x_1
  refine lv_goto (tgt := 15) hx hb dX10_full_56 (by decide) ?_
  exact hk_15 _ _ _ _ _ hI t_v0 (lv_sub hl_2 [1, 2, 3, 4, 0] rfl) hw
set_option maxHeartbeats 4000000 in
set_option maxRecDepth 100000 in
theorem c_X10_full_50 {p : Program} {l : Launch} {e : Env} {s : State} {m : MethodId} {args : Array Value} {below : List Frame} {meth : Method} {c : Code} {G : pm_G} {H0 : Heap} {Post : Int32 → Prop} {v0 : Nat} {v1 : Int32} {v2 : Int32} {v4 : Int32} {M : pm_M} {k_15 : Int32 → Int32 → Prop} (E : pm_E G p s m args meth c cX10_full 5 RX10) (hret : meth.sig.returnType = (some .int)) (hk_15 : ∀ (v3 : Int32) (v4 : Int32) (H : Heap) (locs : List Loc) (ls : Array Slot), pm_I G H0 M H locs → (pm_is M v0 9) → lv_has ls 5 [(0, .ref (H0.size + v0)), (1, .int v1), (2, .int v2), (3, .int v3), (4, .int v4)] → k_15 v3 v4 → W p l e rm_X10_full s m args below meth c H locs 0 0 (pm_Z G H0 M (pm_Pi (fun r9 M9 => M = M9 ∧ Post r9)) below args s rm_X10_full.cells rm_X10_full.slots) (F0 m 15 ls [])) {H : Heap} {locs : List Loc} {ls : Array Slot} (hI : pm_I G H0 M H locs) (t_v0 : pm_is M v0 9) (hl : lv_has ls 5 [(0, .ref (H0.size + v0)), (1, .int v1), (2, .int v2), (4, .int v4)]) (hw : w_X10_full_50 Post k_15 v0 v1 v2 v4 M) : W p l e rm_X10_full s m args below meth c H locs 0 0 (pm_Z G H0 M (pm_Pi (fun r9 M9 => M = M9 ∧ Post r9)) below args s rm_X10_full.cells rm_X10_full.slots) (F0 m 50 ls []) := by
  have hx := E.1
  have hb := E.2.1
  have hown := E.2.2.2.1
  have hts := E.2.2.2.2.1
  unfold w_X10_full_50 at hw
  refine lv_iload hx hb dX10_full_50 (lv_at hl 3 rfl) ?_
  refine lv_istore_n (lv' := [(3, .int v4), (0, .ref (H0.size + v0)), (1, .int v1), (2, .int v2), (4, .int v4)]) hx hb dX10_full_52 rfl hl (by decide) rfl (fun ls hl_1 => ?_)
  exact c_X10_full_53 E hret hk_15 hI t_v0 (lv_sub hl_1 [1, 2, 3, 0, 4] rfl) hw
set_option maxHeartbeats 4000000 in
set_option maxRecDepth 100000 in
theorem c_X10_full_15 {p : Program} {l : Launch} {e : Env} {s : State} {m : MethodId} {args : Array Value} {below : List Frame} {meth : Method} {c : Code} {G : pm_G} {H0 : Heap} {Post : Int32 → Prop} {v0 : Nat} {v1 : Int32} {v2 : Int32} {M : pm_M} (E : pm_E G p s m args meth c cX10_full 5 RX10) (hret : meth.sig.returnType = (some .int)) : ∀ (n : Nat) (v3 : Int32) (v4 : Int32) (H : Heap) (locs : List Loc) (ls : Array Slot), pm_I G H0 M H locs → (pm_is M v0 9) → lv_has ls 5 [(0, .ref (H0.size + v0)), (1, .int v1), (2, .int v2), (3, .int v3), (4, .int v4)] → w_X10_full_15 Post v0 v1 v2 M n v3 v4 → W p l e rm_X10_full s m args below meth c H locs 0 0 (pm_Z G H0 M (pm_Pi (fun r9 M9 => M = M9 ∧ Post r9)) below args s rm_X10_full.cells rm_X10_full.slots) (F0 m 15 ls []) := by
  have hx := E.1
  have hb := E.2.1
  have hown := E.2.2.2.1
  have hts := E.2.2.2.2.1
  intro n
  induction n with
  | zero =>
    intro v3 v4 H locs ls hI t_v0 hl hw
    unfold w_X10_full_15 at hw
    exact hw.elim
  | succ n ih =>
    intro v3 v4 H locs ls hI t_v0 hl hw
    unfold w_X10_full_15 at hw
    refine lv_iload hx hb dX10_full_15 (lv_at hl 4 rfl) ?_
    refine lv_aload_n hx hb dX10_full_17 rfl (lv_at hl 0 rfl) ?_
    refine gf_X10_13 E hI t_v0 dX10_full_18 ?_
    refine lv_icmp_gt (tgt := 59) hx hb dX10_full_21 (by decide) (fun h_1 => ?_) (fun h_1 => ?_)
    · replace hw := hw.1 h_1
      refine lv_iload_n hx hb dX10_full_59 rfl (lv_at hl 3 rfl) ?_
      exact pm_iret E hret hI pm_X.rf ⟨_, rfl, rfl, hw⟩ (by decide) (by decide) dX10_full_60
    · replace hw := hw.2 h_1
      refine lv_aload_n hx hb dX10_full_24 rfl (lv_at hl 0 rfl) ?_
      refine lv_iload_n hx hb dX10_full_25 rfl (lv_at hl 1 rfl) ?_
      refine lv_iload hx hb dX10_full_26 (lv_at hl 4 rfl) ?_
      refine pm_callV (As := [.int v1, .int v4]) (rest := []) 2 E hI (k_X10_isFull t_v0 hw) t_v0 (by decide) rfl kc_X10_isFull kl_X10_207 km_X10_isFull ks_X10_isFull ki_X10 (by decide +kernel) ⟨by decide, by decide⟩ rfl hl.1 rfl (by first | exact Nat.le_of_ble_eq_true rfl | (simp only [List.map, pm_rf_cat]; exact Nat.le_of_ble_eq_true rfl)) dX10_full_28 ⟨by decide, by decide⟩ (fun r9 M9 H locs hp hX1 hI => ?_)
      clear hw
      obtain ⟨r_2, rfl, rfl, hw⟩ := hp
      refine pm_nrm (cells' := 0) (slots' := 0) (g2 := F0 m 31 ls [.int r_2]) rfl rfl rfl ?_
      refine lv_if_eq (tgt := 53) hx hb dX10_full_31 (by decide) (fun h_3 => ?_) (fun h_3 => ?_)
      · replace hw := hw.1 h_3
        exact c_X10_full_53 E hret ih hI t_v0 (lv_sub hl [0, 1, 2, 3, 4] rfl) hw
      · replace hw := hw.2 h_3
        refine lv_iload_n hx hb dX10_full_34 rfl (lv_at hl 3 rfl) ?_
        refine lv_iconst (v := (-1 : Int32)) hx hb dX10_full_35 (by decide) ?_
        refine lv_icmp_eq (tgt := 50) hx hb dX10_full_36 (by decide) (fun h_4 => ?_) (fun h_4 => ?_)
        · replace hw := hw.1 h_4
          exact c_X10_full_50 E hret ih hI t_v0 (lv_sub hl [0, 1, 2, 4] rfl) hw
        · replace hw := hw.2 h_4
          refine lv_aload_n hx hb dX10_full_39 rfl (lv_at hl 0 rfl) ?_
          refine lv_iload hx hb dX10_full_40 (lv_at hl 4 rfl) ?_
          refine lv_iload_n hx hb dX10_full_42 rfl (lv_at hl 3 rfl) ?_
          refine lv_iload_n hx hb dX10_full_43 rfl (lv_at hl 2 rfl) ?_
          refine pm_callV (As := [.int v4, .int v3, .int v2]) (rest := []) 3 E hI (k_X10_isBetter t_v0 hw) t_v0 (by decide) rfl kc_X10_isBetter kl_X10_210 km_X10_isBetter ks_X10_isBetter ki_X10 (by decide +kernel) ⟨by decide, by decide⟩ rfl hl.1 rfl (by first | exact Nat.le_of_ble_eq_true rfl | (simp only [List.map, pm_rf_cat]; exact Nat.le_of_ble_eq_true rfl)) dX10_full_44 ⟨by decide, by decide⟩ (fun r9 M9 H locs hp hX1 hI => ?_)
          clear hw
          obtain ⟨r_5, rfl, rfl, hw⟩ := hp
          refine pm_nrm (cells' := 0) (slots' := 0) (g2 := F0 m 47 ls [.int r_5]) rfl rfl rfl ?_
          refine lv_if_eq (tgt := 53) hx hb dX10_full_47 (by decide) (fun h_6 => ?_) (fun h_6 => ?_)
          · replace hw := hw.1 h_6
            exact c_X10_full_53 E hret ih hI t_v0 (lv_sub hl [0, 1, 2, 3, 4] rfl) hw
          · replace hw := hw.2 h_6
            exact c_X10_full_50 E hret ih hI t_v0 (lv_sub hl [0, 1, 2, 4] rfl) hw
set_option maxHeartbeats 4000000 in
set_option maxRecDepth 100000 in
theorem k_X10_full {l : Launch} {G : pm_G} {H0 : Heap} {th : Nat} {a1 : Int32} {a2 : Int32} {M : pm_M} {Post : Int32 → Prop} (t_th : pm_is M th 9) (hw : w_X10_full th a1 a2 M Post) : pm_C l G H0 yX10_full cX10_full 5 (some .int) rm_X10_full [.ref (H0.size + th), .int a1, .int a2] M (pm_Pi (fun r9 M9 => M = M9 ∧ Post r9)) := by
  refine pm_start (by decide +kernel) (Nat.le_of_ble_eq_true rfl) ?_
  intro p e s m args below meth c H ls E hret hnm hI hl
  have hl : lv_has ls 5 [(0, .ref (H0.size + th)), (1, .int a1), (2, .int a2)] := hl
  have hx := E.1
  have hb := E.2.1
  have hown := E.2.2.2.1
  have hts := E.2.2.2.2.1
  unfold w_X10_full at hw
  refine lv_aload_n hx hb dX10_full_0 rfl (lv_at hl 0 rfl) ?_
  refine lv_iload_n hx hb dX10_full_1 rfl (lv_at hl 1 rfl) ?_
  refine pm_callV (As := [.int a1]) (rest := []) 1 E hI (k_X10_isRule t_th hw) t_th (by decide) rfl kc_X10_isRule kl_X10_191 km_X10_isRule ks_X10_isRule ki_X10 (by decide +kernel) ⟨by decide, by decide⟩ rfl hl.1 rfl (by first | exact Nat.le_of_ble_eq_true rfl | (simp only [List.map, pm_rf_cat]; exact Nat.le_of_ble_eq_true rfl)) dX10_full_2 ⟨by decide, by decide⟩ (fun r9 M9 H locs hp hX1 hI => ?_)
  clear hw
  obtain ⟨r_1, rfl, rfl, hw⟩ := hp
  refine pm_nrm (cells' := 0) (slots' := 0) (g2 := F0 m 5 ls [.int r_1]) rfl rfl rfl ?_
  refine lv_if_ne (tgt := 10) hx hb dX10_full_5 (by decide) (fun h_2 => ?_) (fun h_2 => ?_)
  · replace hw := hw.1 h_2
    refine lv_iconst (v := (-1 : Int32)) hx hb dX10_full_10 (by decide) ?_
    refine lv_istore_n (lv' := [(3, .int (-1 : Int32)), (0, .ref (H0.size + th)), (1, .int a1), (2, .int a2)]) hx hb dX10_full_11 rfl hl (by decide) rfl (fun ls hl_3 => ?_)
    refine lv_iconst (v := (0 : Int32)) hx hb dX10_full_12 (by decide) ?_
    refine lv_istore (lv' := [(4, .int (0 : Int32)), (3, .int (-1 : Int32)), (0, .ref (H0.size + th)), (1, .int a1), (2, .int a2)]) hx hb dX10_full_13 hl_3 (by decide) rfl (fun ls hl_4 => ?_)
    obtain ⟨n_5, hw⟩ := hw
    exact c_X10_full_15 E hret n_5 _ _ _ _ _ hI t_th (lv_sub hl_4 [2, 3, 4, 1, 0] rfl) hw
  · replace hw := hw.2 h_2
    refine lv_iconst (v := (-1 : Int32)) hx hb dX10_full_8 (by decide) ?_
    exact pm_iret E hret hI pm_X.rf ⟨_, rfl, rfl, hw⟩ (by decide) (by decide) dX10_full_9
set_option maxHeartbeats 4000000 in
set_option maxRecDepth 100000 in
theorem c_X10_both_67 {p : Program} {l : Launch} {e : Env} {s : State} {m : MethodId} {args : Array Value} {below : List Frame} {meth : Method} {c : Code} {G : pm_G} {H0 : Heap} {Post : Int32 → Prop} {v0 : Nat} {v1 : Int32} {v2 : Int32} {v3 : Int32} {v4 : Int32} {M : pm_M} {k_23 : Int32 → Int32 → Prop} (E : pm_E G p s m args meth c cX10_both 5 RX10) (hret : meth.sig.returnType = (some .int)) (hk_23 : ∀ (v3 : Int32) (v4 : Int32) (H : Heap) (locs : List Loc) (ls : Array Slot), pm_I G H0 M H locs → (pm_is M v0 9) → lv_has ls 5 [(0, .ref (H0.size + v0)), (1, .int v1), (2, .int v2), (3, .int v3), (4, .int v4)] → k_23 v3 v4 → W p l e rm_X10_both s m args below meth c H locs 0 0 (pm_Z G H0 M (pm_Pi (fun r9 M9 => M = M9 ∧ Post r9)) below args s rm_X10_both.cells rm_X10_both.slots) (F0 m 23 ls [])) {H : Heap} {locs : List Loc} {ls : Array Slot} (hI : pm_I G H0 M H locs) (t_v0 : pm_is M v0 9) (hl : lv_has ls 5 [(0, .ref (H0.size + v0)), (1, .int v1), (2, .int v2), (3, .int v3), (4, .int v4)]) (hw : w_X10_both_67 Post k_23 v0 v1 v2 v3 v4 M) : W p l e rm_X10_both s m args below meth c H locs 0 0 (pm_Z G H0 M (pm_Pi (fun r9 M9 => M = M9 ∧ Post r9)) below args s rm_X10_both.cells rm_X10_both.slots) (F0 m 67 ls []) := by
  have hx := E.1
  have hb := E.2.1
  have hown := E.2.2.2.1
  have hts := E.2.2.2.2.1
  unfold w_X10_both_67 at hw
  obtain ⟨x_1, e_x_1⟩ : ∃ z : Int32, z = v4 + (1 : Int32) := ⟨_, rfl⟩
  refine lv_iinc (v := x_1) (lv' := [(4, .int x_1), (0, .ref (H0.size + v0)), (1, .int v1), (2, .int v2), (3, .int v3)]) hx hb dX10_both_67 hl (k := 4) rfl (by rw [e_x_1]; rfl) (by decide) rfl (fun ls hl_2 => ?_)
  replace hw := hw x_1 e_x_1
  refine lv_goto (tgt := 23) hx hb dX10_both_70 (by decide) ?_
  exact hk_23 _ _ _ _ _ hI t_v0 (lv_sub hl_2 [1, 2, 3, 4, 0] rfl) hw
set_option maxHeartbeats 4000000 in
set_option maxRecDepth 100000 in
theorem c_X10_both_23 {p : Program} {l : Launch} {e : Env} {s : State} {m : MethodId} {args : Array Value} {below : List Frame} {meth : Method} {c : Code} {G : pm_G} {H0 : Heap} {Post : Int32 → Prop} {v0 : Nat} {v1 : Int32} {v2 : Int32} {M : pm_M} (E : pm_E G p s m args meth c cX10_both 5 RX10) (hret : meth.sig.returnType = (some .int)) : ∀ (n : Nat) (v3 : Int32) (v4 : Int32) (H : Heap) (locs : List Loc) (ls : Array Slot), pm_I G H0 M H locs → (pm_is M v0 9) → lv_has ls 5 [(0, .ref (H0.size + v0)), (1, .int v1), (2, .int v2), (3, .int v3), (4, .int v4)] → w_X10_both_23 Post v0 v1 v2 M n v3 v4 → W p l e rm_X10_both s m args below meth c H locs 0 0 (pm_Z G H0 M (pm_Pi (fun r9 M9 => M = M9 ∧ Post r9)) below args s rm_X10_both.cells rm_X10_both.slots) (F0 m 23 ls []) := by
  have hx := E.1
  have hb := E.2.1
  have hown := E.2.2.2.1
  have hts := E.2.2.2.2.1
  intro n
  induction n with
  | zero =>
    intro v3 v4 H locs ls hI t_v0 hl hw
    unfold w_X10_both_23 at hw
    exact hw.elim
  | succ n ih =>
    intro v3 v4 H locs ls hI t_v0 hl hw
    unfold w_X10_both_23 at hw
    refine lv_iload hx hb dX10_both_23 (lv_at hl 4 rfl) ?_
    refine lv_aload_n hx hb dX10_both_25 rfl (lv_at hl 0 rfl) ?_
    refine gf_X10_13 E hI t_v0 dX10_both_26 ?_
    refine lv_icmp_gt (tgt := 73) hx hb dX10_both_29 (by decide) (fun h_1 => ?_) (fun h_1 => ?_)
    · replace hw := hw.1 h_1
      refine lv_iload_n hx hb dX10_both_73 rfl (lv_at hl 3 rfl) ?_
      exact pm_iret E hret hI pm_X.rf ⟨_, rfl, rfl, hw⟩ (by decide) (by decide) dX10_both_74
    · replace hw := hw.2 h_1
      refine lv_aload_n hx hb dX10_both_32 rfl (lv_at hl 0 rfl) ?_
      refine lv_iload_n hx hb dX10_both_33 rfl (lv_at hl 1 rfl) ?_
      refine lv_iload hx hb dX10_both_34 (lv_at hl 4 rfl) ?_
      refine pm_callV (As := [.int v1, .int v4]) (rest := []) 2 E hI (k_X10_isAllowed t_v0 hw) t_v0 (by decide) rfl kc_X10_isAllowed kl_X10_100 km_X10_isAllowed ks_X10_isAllowed ki_X10 (by decide +kernel) ⟨by decide, by decide⟩ rfl hl.1 rfl (by first | exact Nat.le_of_ble_eq_true rfl | (simp only [List.map, pm_rf_cat]; exact Nat.le_of_ble_eq_true rfl)) dX10_both_36 ⟨by decide, by decide⟩ (fun r9 M9 H locs hp hX1 hI => ?_)
      clear hw
      obtain ⟨r_2, rfl, rfl, hw⟩ := hp
      refine pm_nrm (cells' := 0) (slots' := 0) (g2 := F0 m 39 ls [.int r_2]) rfl rfl rfl ?_
      refine lv_if_eq (tgt := 67) hx hb dX10_both_39 (by decide) (fun h_3 => ?_) (fun h_3 => ?_)
      · replace hw := hw.1 h_3
        exact c_X10_both_67 E hret ih hI t_v0 (lv_sub hl [0, 1, 2, 3, 4] rfl) hw
      · replace hw := hw.2 h_3
        refine lv_aload_n hx hb dX10_both_42 rfl (lv_at hl 0 rfl) ?_
        refine lv_iload_n hx hb dX10_both_43 rfl (lv_at hl 2 rfl) ?_
        refine lv_iload hx hb dX10_both_44 (lv_at hl 4 rfl) ?_
        refine pm_callV (As := [.int v2, .int v4]) (rest := []) 2 E hI (k_X10_isAllowed t_v0 hw) t_v0 (by decide) rfl kc_X10_isAllowed kl_X10_100 km_X10_isAllowed ks_X10_isAllowed ki_X10 (by decide +kernel) ⟨by decide, by decide⟩ rfl hl.1 rfl (by first | exact Nat.le_of_ble_eq_true rfl | (simp only [List.map, pm_rf_cat]; exact Nat.le_of_ble_eq_true rfl)) dX10_both_46 ⟨by decide, by decide⟩ (fun r9 M9 H locs hp hX1 hI => ?_)
        clear hw
        obtain ⟨r_4, rfl, rfl, hw⟩ := hp
        refine pm_nrm (cells' := 0) (slots' := 0) (g2 := F0 m 49 ls [.int r_4]) rfl rfl rfl ?_
        refine lv_if_eq (tgt := 67) hx hb dX10_both_49 (by decide) (fun h_5 => ?_) (fun h_5 => ?_)
        · replace hw := hw.1 h_5
          exact c_X10_both_67 E hret ih hI t_v0 (lv_sub hl [0, 1, 2, 3, 4] rfl) hw
        · replace hw := hw.2 h_5
          refine lv_iload hx hb dX10_both_52 (lv_at hl 4 rfl) ?_
          refine pm_callS (As := [.int v4]) (rest := []) 1 E hI (k_X10_bitsOf hw) kc_X10_bitsOf kl_X10_104 kt_X10_bitsOf ki_X10 (by decide +kernel) ⟨by decide, by decide⟩ rfl hl.1 rfl (by first | exact Nat.le_of_ble_eq_true rfl | (simp only [List.map, pm_rf_cat]; exact Nat.le_of_ble_eq_true rfl)) dX10_both_54 ⟨by decide, by decide⟩ (fun r9 M9 H locs hp hX1 hI => ?_)
          clear hw
          obtain ⟨r_6, rfl, rfl, hw⟩ := hp
          refine pm_nrm (cells' := 0) (slots' := 0) (g2 := F0 m 57 ls [.int r_6]) rfl rfl rfl ?_
          refine lv_iload_n hx hb dX10_both_57 rfl (lv_at hl 3 rfl) ?_
          refine pm_callS (As := [.int v3]) (rest := [.int r_6]) 1 E hI (k_X10_bitsOf hw) kc_X10_bitsOf kl_X10_104 kt_X10_bitsOf ki_X10 (by decide +kernel) ⟨by decide, by decide⟩ rfl hl.1 rfl (by first | exact Nat.le_of_ble_eq_true rfl | (simp only [List.map, pm_rf_cat]; exact Nat.le_of_ble_eq_true rfl)) dX10_both_58 ⟨by decide, by decide⟩ (fun r9 M9 H locs hp hX1 hI => ?_)
          clear hw
          obtain ⟨r_7, rfl, rfl, hw⟩ := hp
          refine pm_nrm (cells' := 0) (slots' := 0) (g2 := F0 m 61 ls [.int r_7, .int r_6]) rfl rfl rfl ?_
          refine lv_icmp_le (tgt := 67) hx hb dX10_both_61 (by decide) (fun h_8 => ?_) (fun h_8 => ?_)
          · replace hw := hw.1 h_8
            exact c_X10_both_67 E hret ih hI t_v0 (lv_sub hl [0, 1, 2, 3, 4] rfl) hw
          · replace hw := hw.2 h_8
            refine lv_iload hx hb dX10_both_64 (lv_at hl 4 rfl) ?_
            refine lv_istore_n (lv' := [(3, .int v4), (0, .ref (H0.size + v0)), (1, .int v1), (2, .int v2), (4, .int v4)]) hx hb dX10_both_66 rfl hl (by decide) rfl (fun ls hl_9 => ?_)
            exact c_X10_both_67 E hret ih hI t_v0 (lv_sub hl_9 [1, 2, 3, 0, 4] rfl) hw
set_option maxHeartbeats 4000000 in
set_option maxRecDepth 100000 in
theorem c_X10_both_16 {p : Program} {l : Launch} {e : Env} {s : State} {m : MethodId} {args : Array Value} {below : List Frame} {meth : Method} {c : Code} {G : pm_G} {H0 : Heap} {Post : Int32 → Prop} {M : pm_M} (E : pm_E G p s m args meth c cX10_both 5 RX10) (hret : meth.sig.returnType = (some .int)) {H : Heap} {locs : List Loc} {ls : Array Slot} (hI : pm_I G H0 M H locs) (hl : lv_has ls 5 []) (hw : w_X10_both_16 Post M) : W p l e rm_X10_both s m args below meth c H locs 0 0 (pm_Z G H0 M (pm_Pi (fun r9 M9 => M = M9 ∧ Post r9)) below args s rm_X10_both.cells rm_X10_both.slots) (F0 m 16 ls []) := by
  have hx := E.1
  have hb := E.2.1
  have hown := E.2.2.2.1
  have hts := E.2.2.2.2.1
  unfold w_X10_both_16 at hw
  refine lv_iconst (v := (-1 : Int32)) hx hb dX10_both_16 (by decide) ?_
  exact pm_iret E hret hI pm_X.rf ⟨_, rfl, rfl, hw⟩ (by decide) (by decide) dX10_both_17
set_option maxHeartbeats 4000000 in
set_option maxRecDepth 100000 in
theorem k_X10_both {l : Launch} {G : pm_G} {H0 : Heap} {th : Nat} {a1 : Int32} {a2 : Int32} {M : pm_M} {Post : Int32 → Prop} (t_th : pm_is M th 9) (hw : w_X10_both th a1 a2 M Post) : pm_C l G H0 yX10_both cX10_both 5 (some .int) rm_X10_both [.ref (H0.size + th), .int a1, .int a2] M (pm_Pi (fun r9 M9 => M = M9 ∧ Post r9)) := by
  refine pm_start (by decide +kernel) (Nat.le_of_ble_eq_true rfl) ?_
  intro p e s m args below meth c H ls E hret hnm hI hl
  have hl : lv_has ls 5 [(0, .ref (H0.size + th)), (1, .int a1), (2, .int a2)] := hl
  have hx := E.1
  have hb := E.2.1
  have hown := E.2.2.2.1
  have hts := E.2.2.2.2.1
  unfold w_X10_both at hw
  refine lv_aload_n hx hb dX10_both_0 rfl (lv_at hl 0 rfl) ?_
  refine lv_iload_n hx hb dX10_both_1 rfl (lv_at hl 1 rfl) ?_
  refine pm_callV (As := [.int a1]) (rest := []) 1 E hI (k_X10_isRule t_th hw) t_th (by decide) rfl kc_X10_isRule kl_X10_191 km_X10_isRule ks_X10_isRule ki_X10 (by decide +kernel) ⟨by decide, by decide⟩ rfl hl.1 rfl (by first | exact Nat.le_of_ble_eq_true rfl | (simp only [List.map, pm_rf_cat]; exact Nat.le_of_ble_eq_true rfl)) dX10_both_2 ⟨by decide, by decide⟩ (fun r9 M9 H locs hp hX1 hI => ?_)
  clear hw
  obtain ⟨r_1, rfl, rfl, hw⟩ := hp
  refine pm_nrm (cells' := 0) (slots' := 0) (g2 := F0 m 5 ls [.int r_1]) rfl rfl rfl ?_
  refine lv_if_eq (tgt := 16) hx hb dX10_both_5 (by decide) (fun h_2 => ?_) (fun h_2 => ?_)
  · replace hw := hw.1 h_2
    exact c_X10_both_16 E hret hI (lv_sub hl [] rfl) hw
  · replace hw := hw.2 h_2
    refine lv_aload_n hx hb dX10_both_8 rfl (lv_at hl 0 rfl) ?_
    refine lv_iload_n hx hb dX10_both_9 rfl (lv_at hl 2 rfl) ?_
    refine pm_callV (As := [.int a2]) (rest := []) 1 E hI (k_X10_isRule t_th hw) t_th (by decide) rfl kc_X10_isRule kl_X10_191 km_X10_isRule ks_X10_isRule ki_X10 (by decide +kernel) ⟨by decide, by decide⟩ rfl hl.1 rfl (by first | exact Nat.le_of_ble_eq_true rfl | (simp only [List.map, pm_rf_cat]; exact Nat.le_of_ble_eq_true rfl)) dX10_both_10 ⟨by decide, by decide⟩ (fun r9 M9 H locs hp hX1 hI => ?_)
    clear hw
    obtain ⟨r_3, rfl, rfl, hw⟩ := hp
    refine pm_nrm (cells' := 0) (slots' := 0) (g2 := F0 m 13 ls [.int r_3]) rfl rfl rfl ?_
    refine lv_if_ne (tgt := 18) hx hb dX10_both_13 (by decide) (fun h_4 => ?_) (fun h_4 => ?_)
    · replace hw := hw.1 h_4
      refine lv_iconst (v := (0 : Int32)) hx hb dX10_both_18 (by decide) ?_
      refine lv_istore_n (lv' := [(3, .int (0 : Int32)), (0, .ref (H0.size + th)), (1, .int a1), (2, .int a2)]) hx hb dX10_both_19 rfl hl (by decide) rfl (fun ls hl_5 => ?_)
      refine lv_iconst (v := (0 : Int32)) hx hb dX10_both_20 (by decide) ?_
      refine lv_istore (lv' := [(4, .int (0 : Int32)), (3, .int (0 : Int32)), (0, .ref (H0.size + th)), (1, .int a1), (2, .int a2)]) hx hb dX10_both_21 hl_5 (by decide) rfl (fun ls hl_6 => ?_)
      obtain ⟨n_7, hw⟩ := hw
      exact c_X10_both_23 E hret n_7 _ _ _ _ _ hI t_th (lv_sub hl_6 [2, 3, 4, 1, 0] rfl) hw
    · replace hw := hw.2 h_4
      exact c_X10_both_16 E hret hI (lv_sub hl [] rfl) hw
set_option maxHeartbeats 4000000 in
set_option maxRecDepth 100000 in
theorem c_X10_split_17 {p : Program} {l : Launch} {e : Env} {s : State} {m : MethodId} {args : Array Value} {below : List Frame} {meth : Method} {c : Code} {G : pm_G} {H0 : Heap} {Post : Int32 → Prop} {v0 : Nat} {v1 : Int32} {v2 : Int32} {v3 : Int32} {M : pm_M} (E : pm_E G p s m args meth c cX10_split 5 RX10) (hret : meth.sig.returnType = (some .int)) : ∀ (n : Nat) (v4 : Int32) (H : Heap) (locs : List Loc) (ls : Array Slot), pm_I G H0 M H locs → (pm_is M v0 9) → lv_has ls 5 [(0, .ref (H0.size + v0)), (1, .int v1), (2, .int v2), (3, .int v3), (4, .int v4)] → w_X10_split_17 Post v0 v1 v2 v3 M n v4 → W p l e rm_X10_split s m args below meth c H locs 0 0 (pm_Z G H0 M (pm_Pi (fun r9 M9 => M = M9 ∧ Post r9)) below args s rm_X10_split.cells rm_X10_split.slots) (F0 m 17 ls []) := by
  have hx := E.1
  have hb := E.2.1
  have hown := E.2.2.2.1
  have hts := E.2.2.2.2.1
  intro n
  induction n with
  | zero =>
    intro v4 H locs ls hI t_v0 hl hw
    unfold w_X10_split_17 at hw
    exact hw.elim
  | succ n ih =>
    intro v4 H locs ls hI t_v0 hl hw
    unfold w_X10_split_17 at hw
    refine lv_iload hx hb dX10_split_17 (lv_at hl 4 rfl) ?_
    refine lv_aload_n hx hb dX10_split_19 rfl (lv_at hl 0 rfl) ?_
    refine gf_X10_13 E hI t_v0 dX10_split_20 ?_
    refine lv_icmp_gt (tgt := 64) hx hb dX10_split_23 (by decide) (fun h_1 => ?_) (fun h_1 => ?_)
    · replace hw := hw.1 h_1
      refine lv_iconst (v := (-1 : Int32)) hx hb dX10_split_64 (by decide) ?_
      exact pm_iret E hret hI pm_X.rf ⟨_, rfl, rfl, hw⟩ (by decide) (by decide) dX10_split_65
    · replace hw := hw.2 h_1
      refine lv_aload_n hx hb dX10_split_26 rfl (lv_at hl 0 rfl) ?_
      refine lv_iload_n hx hb dX10_split_27 rfl (lv_at hl 1 rfl) ?_
      refine lv_iload hx hb dX10_split_28 (lv_at hl 4 rfl) ?_
      refine pm_callV (As := [.int v1, .int v4]) (rest := []) 2 E hI (k_X10_rankOf t_v0 hw) t_v0 (by decide) rfl kc_X10_rankOf kl_X10_108 km_X10_rankOf ks_X10_rankOf ki_X10 (by decide +kernel) ⟨by decide, by decide⟩ rfl hl.1 rfl (by first | exact Nat.le_of_ble_eq_true rfl | (simp only [List.map, pm_rf_cat]; exact Nat.le_of_ble_eq_true rfl)) dX10_split_30 ⟨by decide, by decide⟩ (fun r9 M9 H locs hp hX1 hI => ?_)
      clear hw
      obtain ⟨r_2, rfl, rfl, hw⟩ := hp
      refine pm_nrm (cells' := 0) (slots' := 0) (g2 := F0 m 33 ls [.int r_2]) rfl rfl rfl ?_
      refine lv_aload_n hx hb dX10_split_33 rfl (lv_at hl 0 rfl) ?_
      refine lv_iload_n hx hb dX10_split_34 rfl (lv_at hl 2 rfl) ?_
      refine lv_aload_n hx hb dX10_split_35 rfl (lv_at hl 0 rfl) ?_
      refine gf_X10_13 E hI t_v0 dX10_split_36 ?_
      refine lv_iload hx hb dX10_split_39 (lv_at hl 4 rfl) ?_
      refine lv_iconst (v := (-1 : Int32)) hx hb dX10_split_41 (by decide) ?_
      refine lv_ixor hx hb dX10_split_42 ?_
      refine lv_iand hx hb dX10_split_43 ?_
      refine pm_callV (As := [.int v2, .int ((mI M v0 1) &&& (v4 ^^^ (-1 : Int32)))]) (rest := [.int r_2]) 2 E hI (k_X10_rankOf t_v0 hw) t_v0 (by decide) rfl kc_X10_rankOf kl_X10_108 km_X10_rankOf ks_X10_rankOf ki_X10 (by decide +kernel) ⟨by decide, by decide⟩ rfl hl.1 rfl (by first | exact Nat.le_of_ble_eq_true rfl | (simp only [List.map, pm_rf_cat]; exact Nat.le_of_ble_eq_true rfl)) dX10_split_44 ⟨by decide, by decide⟩ (fun r9 M9 H locs hp hX1 hI => ?_)
      clear hw
      obtain ⟨r_3, rfl, rfl, hw⟩ := hp
      refine pm_nrm (cells' := 0) (slots' := 0) (g2 := F0 m 47 ls [.int r_3, .int r_2]) rfl rfl rfl ?_
      refine lv_iadd hx hb dX10_split_47 ?_
      refine lv_iload_n hx hb dX10_split_48 rfl (lv_at hl 3 rfl) ?_
      refine pm_callS (As := [.int v3]) (rest := [.int (r_2 + r_3)]) 1 E hI (k_X10_bitsOf hw) kc_X10_bitsOf kl_X10_104 kt_X10_bitsOf ki_X10 (by decide +kernel) ⟨by decide, by decide⟩ rfl hl.1 rfl (by first | exact Nat.le_of_ble_eq_true rfl | (simp only [List.map, pm_rf_cat]; exact Nat.le_of_ble_eq_true rfl)) dX10_split_49 ⟨by decide, by decide⟩ (fun r9 M9 H locs hp hX1 hI => ?_)
      clear hw
      obtain ⟨r_4, rfl, rfl, hw⟩ := hp
      refine pm_nrm (cells' := 0) (slots' := 0) (g2 := F0 m 52 ls [.int r_4, .int (r_2 + r_3)]) rfl rfl rfl ?_
      refine lv_icmp_ne (tgt := 58) hx hb dX10_split_52 (by decide) (fun h_5 => ?_) (fun h_5 => ?_)
      · replace hw := hw.1 h_5
        obtain ⟨x_6, e_x_6⟩ : ∃ z : Int32, z = v4 + (1 : Int32) := ⟨_, rfl⟩
        refine lv_iinc (v := x_6) (lv' := [(4, .int x_6), (0, .ref (H0.size + v0)), (1, .int v1), (2, .int v2), (3, .int v3)]) hx hb dX10_split_58 hl (k := 4) rfl (by rw [e_x_6]; rfl) (by decide) rfl (fun ls hl_7 => ?_)
        replace hw := hw x_6 e_x_6
        refine lv_goto (tgt := 17) hx hb dX10_split_61 (by decide) ?_
        exact ih _ _ _ _ hI t_v0 (lv_sub hl_7 [1, 2, 3, 4, 0] rfl) hw
      · replace hw := hw.2 h_5
        refine lv_iload hx hb dX10_split_55 (lv_at hl 4 rfl) ?_
        exact pm_iret E hret hI pm_X.rf ⟨_, rfl, rfl, hw⟩ (by decide) (by decide) dX10_split_57
set_option maxHeartbeats 4000000 in
set_option maxRecDepth 100000 in
theorem k_X10_split {l : Launch} {G : pm_G} {H0 : Heap} {th : Nat} {a1 : Int32} {a2 : Int32} {M : pm_M} {Post : Int32 → Prop} (t_th : pm_is M th 9) (hw : w_X10_split th a1 a2 M Post) : pm_C l G H0 yX10_split cX10_split 5 (some .int) rm_X10_split [.ref (H0.size + th), .int a1, .int a2] M (pm_Pi (fun r9 M9 => M = M9 ∧ Post r9)) := by
  refine pm_start (by decide +kernel) (Nat.le_of_ble_eq_true rfl) ?_
  intro p e s m args below meth c H ls E hret hnm hI hl
  have hl : lv_has ls 5 [(0, .ref (H0.size + th)), (1, .int a1), (2, .int a2)] := hl
  have hx := E.1
  have hb := E.2.1
  have hown := E.2.2.2.1
  have hts := E.2.2.2.2.1
  unfold w_X10_split at hw
  refine lv_aload_n hx hb dX10_split_0 rfl (lv_at hl 0 rfl) ?_
  refine lv_iload_n hx hb dX10_split_1 rfl (lv_at hl 1 rfl) ?_
  refine lv_iload_n hx hb dX10_split_2 rfl (lv_at hl 2 rfl) ?_
  refine pm_callV (As := [.int a1, .int a2]) (rest := []) 2 E hI (k_X10_both t_th hw) t_th (by decide) rfl kc_X10_both kl_X10_214 km_X10_both ks_X10_both ki_X10 (by decide +kernel) ⟨by decide, by decide⟩ rfl hl.1 rfl (by first | exact Nat.le_of_ble_eq_true rfl | (simp only [List.map, pm_rf_cat]; exact Nat.le_of_ble_eq_true rfl)) dX10_split_3 ⟨by decide, by decide⟩ (fun r9 M9 H locs hp hX1 hI => ?_)
  clear hw
  obtain ⟨r_1, rfl, rfl, hw⟩ := hp
  refine pm_nrm (cells' := 0) (slots' := 0) (g2 := F0 m 6 ls [.int r_1]) rfl rfl rfl ?_
  refine lv_istore_n (lv' := [(3, .int r_1), (0, .ref (H0.size + th)), (1, .int a1), (2, .int a2)]) hx hb dX10_split_6 rfl hl (by decide) rfl (fun ls hl_2 => ?_)
  refine lv_iload_n hx hb dX10_split_7 rfl (lv_at hl_2 0 rfl) ?_
  refine lv_iconst (v := (-1 : Int32)) hx hb dX10_split_8 (by decide) ?_
  refine lv_icmp_ne (tgt := 14) hx hb dX10_split_9 (by decide) (fun h_3 => ?_) (fun h_3 => ?_)
  · replace hw := hw.1 h_3
    refine lv_iconst (v := (0 : Int32)) hx hb dX10_split_14 (by decide) ?_
    refine lv_istore (lv' := [(4, .int (0 : Int32)), (3, .int r_1), (0, .ref (H0.size + th)), (1, .int a1), (2, .int a2)]) hx hb dX10_split_15 hl_2 (by decide) rfl (fun ls hl_4 => ?_)
    obtain ⟨n_5, hw⟩ := hw
    exact c_X10_split_17 E hret n_5 _ _ _ _ hI t_th (lv_sub hl_4 [2, 3, 4, 1, 0] rfl) hw
  · replace hw := hw.2 h_3
    refine lv_iconst (v := (-1 : Int32)) hx hb dX10_split_12 (by decide) ?_
    exact pm_iret E hret hI pm_X.rf ⟨_, rfl, rfl, hw⟩ (by decide) (by decide) dX10_split_13
set_option maxHeartbeats 4000000 in
set_option maxRecDepth 100000 in
theorem c_X10_most_79 {p : Program} {l : Launch} {e : Env} {s : State} {m : MethodId} {args : Array Value} {below : List Frame} {meth : Method} {c : Code} {G : pm_G} {H0 : Heap} {Post : Int32 → Prop} {v4 : Int32} {M : pm_M} (E : pm_E G p s m args meth c cX10_most 6 RX10) (hret : meth.sig.returnType = (some .int)) {H : Heap} {locs : List Loc} {ls : Array Slot} (hI : pm_I G H0 M H locs) (hl : lv_has ls 6 [(4, .int v4)]) (hw : w_X10_most_79 Post v4 M) : W p l e rm_X10_most s m args below meth c H locs 0 0 (pm_Z G H0 M (pm_Pi (fun r9 M9 => M = M9 ∧ Post r9)) below args s rm_X10_most.cells rm_X10_most.slots) (F0 m 79 ls []) := by
  have hx := E.1
  have hb := E.2.1
  have hown := E.2.2.2.1
  have hts := E.2.2.2.2.1
  unfold w_X10_most_79 at hw
  refine lv_iload hx hb dX10_most_79 (lv_at hl 0 rfl) ?_
  exact pm_iret E hret hI pm_X.rf ⟨_, rfl, rfl, hw⟩ (by decide) (by decide) dX10_most_81
set_option maxHeartbeats 4000000 in
set_option maxRecDepth 100000 in
theorem c_X10_most_73 {p : Program} {l : Launch} {e : Env} {s : State} {m : MethodId} {args : Array Value} {below : List Frame} {meth : Method} {c : Code} {G : pm_G} {H0 : Heap} {Post : Int32 → Prop} {v0 : Nat} {v1 : Int32} {v2 : Int32} {v3 : Int32} {v4 : Int32} {v5 : Int32} {M : pm_M} {k_6 : Int32 → Int32 → Prop} (E : pm_E G p s m args meth c cX10_most 6 RX10) (hret : meth.sig.returnType = (some .int)) (hk_6 : ∀ (v4 : Int32) (v5 : Int32) (H : Heap) (locs : List Loc) (ls : Array Slot), pm_I G H0 M H locs → (pm_is M v0 9) → lv_has ls 6 [(0, .ref (H0.size + v0)), (1, .int v1), (2, .int v2), (3, .int v3), (4, .int v4), (5, .int v5)] → k_6 v4 v5 → W p l e rm_X10_most s m args below meth c H locs 0 0 (pm_Z G H0 M (pm_Pi (fun r9 M9 => M = M9 ∧ Post r9)) below args s rm_X10_most.cells rm_X10_most.slots) (F0 m 6 ls [])) {H : Heap} {locs : List Loc} {ls : Array Slot} (hI : pm_I G H0 M H locs) (t_v0 : pm_is M v0 9) (hl : lv_has ls 6 [(0, .ref (H0.size + v0)), (1, .int v1), (2, .int v2), (3, .int v3), (4, .int v4), (5, .int v5)]) (hw : w_X10_most_73 Post k_6 v0 v1 v2 v3 v4 v5 M) : W p l e rm_X10_most s m args below meth c H locs 0 0 (pm_Z G H0 M (pm_Pi (fun r9 M9 => M = M9 ∧ Post r9)) below args s rm_X10_most.cells rm_X10_most.slots) (F0 m 73 ls []) := by
  have hx := E.1
  have hb := E.2.1
  have hown := E.2.2.2.1
  have hts := E.2.2.2.2.1
  unfold w_X10_most_73 at hw
  obtain ⟨x_1, e_x_1⟩ : ∃ z : Int32, z = v5 + (1 : Int32) := ⟨_, rfl⟩
  refine lv_iinc (v := x_1) (lv' := [(5, .int x_1), (0, .ref (H0.size + v0)), (1, .int v1), (2, .int v2), (3, .int v3), (4, .int v4)]) hx hb dX10_most_73 hl (k := 5) rfl (by rw [e_x_1]; rfl) (by decide) rfl (fun ls hl_2 => ?_)
  replace hw := hw x_1 e_x_1
  refine lv_goto (tgt := 6) hx hb dX10_most_76 (by decide) ?_
  exact hk_6 _ _ _ _ _ hI t_v0 (lv_sub hl_2 [1, 2, 3, 4, 5, 0] rfl) hw
set_option maxHeartbeats 4000000 in
set_option maxRecDepth 100000 in
theorem c_X10_most_6 {p : Program} {l : Launch} {e : Env} {s : State} {m : MethodId} {args : Array Value} {below : List Frame} {meth : Method} {c : Code} {G : pm_G} {H0 : Heap} {Post : Int32 → Prop} {v0 : Nat} {v1 : Int32} {v2 : Int32} {v3 : Int32} {M : pm_M} (E : pm_E G p s m args meth c cX10_most 6 RX10) (hret : meth.sig.returnType = (some .int)) : ∀ (n : Nat) (v4 : Int32) (v5 : Int32) (H : Heap) (locs : List Loc) (ls : Array Slot), pm_I G H0 M H locs → (pm_is M v0 9) → lv_has ls 6 [(0, .ref (H0.size + v0)), (1, .int v1), (2, .int v2), (3, .int v3), (4, .int v4), (5, .int v5)] → w_X10_most_6 Post v0 v1 v2 v3 M n v4 v5 → W p l e rm_X10_most s m args below meth c H locs 0 0 (pm_Z G H0 M (pm_Pi (fun r9 M9 => M = M9 ∧ Post r9)) below args s rm_X10_most.cells rm_X10_most.slots) (F0 m 6 ls []) := by
  have hx := E.1
  have hb := E.2.1
  have hown := E.2.2.2.1
  have hts := E.2.2.2.2.1
  intro n
  induction n with
  | zero =>
    intro v4 v5 H locs ls hI t_v0 hl hw
    unfold w_X10_most_6 at hw
    exact hw.elim
  | succ n ih =>
    intro v4 v5 H locs ls hI t_v0 hl hw
    unfold w_X10_most_6 at hw
    refine lv_iload hx hb dX10_most_6 (lv_at hl 5 rfl) ?_
    refine lv_aload_n hx hb dX10_most_8 rfl (lv_at hl 0 rfl) ?_
    refine gf_X10_13 E hI t_v0 dX10_most_9 ?_
    refine lv_icmp_gt (tgt := 79) hx hb dX10_most_12 (by decide) (fun h_1 => ?_) (fun h_1 => ?_)
    · replace hw := hw.1 h_1
      exact c_X10_most_79 E hret hI (lv_sub hl [4] rfl) hw
    · replace hw := hw.2 h_1
      refine lv_aload_n hx hb dX10_most_15 rfl (lv_at hl 0 rfl) ?_
      refine lv_iload_n hx hb dX10_most_16 rfl (lv_at hl 1 rfl) ?_
      refine pm_callV (As := [.int v1]) (rest := []) 1 E hI (k_X10_isRule t_v0 hw) t_v0 (by decide) rfl kc_X10_isRule kl_X10_191 km_X10_isRule ks_X10_isRule ki_X10 (by decide +kernel) ⟨by decide, by decide⟩ rfl hl.1 rfl (by first | exact Nat.le_of_ble_eq_true rfl | (simp only [List.map, pm_rf_cat]; exact Nat.le_of_ble_eq_true rfl)) dX10_most_17 ⟨by decide, by decide⟩ (fun r9 M9 H locs hp hX1 hI => ?_)
      clear hw
      obtain ⟨r_2, rfl, rfl, hw⟩ := hp
      refine pm_nrm (cells' := 0) (slots' := 0) (g2 := F0 m 20 ls [.int r_2]) rfl rfl rfl ?_
      refine lv_if_eq (tgt := 79) hx hb dX10_most_20 (by decide) (fun h_3 => ?_) (fun h_3 => ?_)
      · replace hw := hw.1 h_3
        exact c_X10_most_79 E hret hI (lv_sub hl [4] rfl) hw
      · replace hw := hw.2 h_3
        refine lv_aload_n hx hb dX10_most_23 rfl (lv_at hl 0 rfl) ?_
        refine lv_iload_n hx hb dX10_most_24 rfl (lv_at hl 2 rfl) ?_
        refine pm_callV (As := [.int v2]) (rest := []) 1 E hI (k_X10_isRule t_v0 hw) t_v0 (by decide) rfl kc_X10_isRule kl_X10_191 km_X10_isRule ks_X10_isRule ki_X10 (by decide +kernel) ⟨by decide, by decide⟩ rfl hl.1 rfl (by first | exact Nat.le_of_ble_eq_true rfl | (simp only [List.map, pm_rf_cat]; exact Nat.le_of_ble_eq_true rfl)) dX10_most_25 ⟨by decide, by decide⟩ (fun r9 M9 H locs hp hX1 hI => ?_)
        clear hw
        obtain ⟨r_4, rfl, rfl, hw⟩ := hp
        refine pm_nrm (cells' := 0) (slots' := 0) (g2 := F0 m 28 ls [.int r_4]) rfl rfl rfl ?_
        refine lv_if_eq (tgt := 79) hx hb dX10_most_28 (by decide) (fun h_5 => ?_) (fun h_5 => ?_)
        · replace hw := hw.1 h_5
          exact c_X10_most_79 E hret hI (lv_sub hl [4] rfl) hw
        · replace hw := hw.2 h_5
          refine lv_aload_n hx hb dX10_most_31 rfl (lv_at hl 0 rfl) ?_
          refine lv_iload_n hx hb dX10_most_32 rfl (lv_at hl 1 rfl) ?_
          refine lv_iload hx hb dX10_most_33 (lv_at hl 5 rfl) ?_
          refine pm_callV (As := [.int v1, .int v5]) (rest := []) 2 E hI (k_X10_isAllowed t_v0 hw) t_v0 (by decide) rfl kc_X10_isAllowed kl_X10_100 km_X10_isAllowed ks_X10_isAllowed ki_X10 (by decide +kernel) ⟨by decide, by decide⟩ rfl hl.1 rfl (by first | exact Nat.le_of_ble_eq_true rfl | (simp only [List.map, pm_rf_cat]; exact Nat.le_of_ble_eq_true rfl)) dX10_most_35 ⟨by decide, by decide⟩ (fun r9 M9 H locs hp hX1 hI => ?_)
          clear hw
          obtain ⟨r_6, rfl, rfl, hw⟩ := hp
          refine pm_nrm (cells' := 0) (slots' := 0) (g2 := F0 m 38 ls [.int r_6]) rfl rfl rfl ?_
          refine lv_if_eq (tgt := 73) hx hb dX10_most_38 (by decide) (fun h_7 => ?_) (fun h_7 => ?_)
          · replace hw := hw.1 h_7
            exact c_X10_most_73 E hret ih hI t_v0 (lv_sub hl [0, 1, 2, 3, 4, 5] rfl) hw
          · replace hw := hw.2 h_7
            refine lv_aload_n hx hb dX10_most_41 rfl (lv_at hl 0 rfl) ?_
            refine lv_iload_n hx hb dX10_most_42 rfl (lv_at hl 2 rfl) ?_
            refine lv_iload hx hb dX10_most_43 (lv_at hl 5 rfl) ?_
            refine pm_callV (As := [.int v2, .int v5]) (rest := []) 2 E hI (k_X10_isAllowed t_v0 hw) t_v0 (by decide) rfl kc_X10_isAllowed kl_X10_100 km_X10_isAllowed ks_X10_isAllowed ki_X10 (by decide +kernel) ⟨by decide, by decide⟩ rfl hl.1 rfl (by first | exact Nat.le_of_ble_eq_true rfl | (simp only [List.map, pm_rf_cat]; exact Nat.le_of_ble_eq_true rfl)) dX10_most_45 ⟨by decide, by decide⟩ (fun r9 M9 H locs hp hX1 hI => ?_)
            clear hw
            obtain ⟨r_8, rfl, rfl, hw⟩ := hp
            refine pm_nrm (cells' := 0) (slots' := 0) (g2 := F0 m 48 ls [.int r_8]) rfl rfl rfl ?_
            refine lv_if_eq (tgt := 73) hx hb dX10_most_48 (by decide) (fun h_9 => ?_) (fun h_9 => ?_)
            · replace hw := hw.1 h_9
              exact c_X10_most_73 E hret ih hI t_v0 (lv_sub hl [0, 1, 2, 3, 4, 5] rfl) hw
            · replace hw := hw.2 h_9
              refine lv_iload hx hb dX10_most_51 (lv_at hl 5 rfl) ?_
              refine pm_callS (As := [.int v5]) (rest := []) 1 E hI (k_X10_bitsOf hw) kc_X10_bitsOf kl_X10_104 kt_X10_bitsOf ki_X10 (by decide +kernel) ⟨by decide, by decide⟩ rfl hl.1 rfl (by first | exact Nat.le_of_ble_eq_true rfl | (simp only [List.map, pm_rf_cat]; exact Nat.le_of_ble_eq_true rfl)) dX10_most_53 ⟨by decide, by decide⟩ (fun r9 M9 H locs hp hX1 hI => ?_)
              clear hw
              obtain ⟨r_10, rfl, rfl, hw⟩ := hp
              refine pm_nrm (cells' := 0) (slots' := 0) (g2 := F0 m 56 ls [.int r_10]) rfl rfl rfl ?_
              refine lv_iload_n hx hb dX10_most_56 rfl (lv_at hl 3 rfl) ?_
              refine lv_icmp_ne (tgt := 73) hx hb dX10_most_57 (by decide) (fun h_11 => ?_) (fun h_11 => ?_)
              · replace hw := hw.1 h_11
                exact c_X10_most_73 E hret ih hI t_v0 (lv_sub hl [0, 1, 2, 3, 4, 5] rfl) hw
              · replace hw := hw.2 h_11
                refine lv_iload hx hb dX10_most_60 (lv_at hl 4 rfl) ?_
                refine lv_aload_n hx hb dX10_most_62 rfl (lv_at hl 0 rfl) ?_
                refine lv_iload hx hb dX10_most_63 (lv_at hl 5 rfl) ?_
                refine pm_callV (As := [.int v5]) (rest := [.int v4]) 1 E hI (k_X10_weightOf t_v0 hw) t_v0 (by decide) rfl kc_X10_weightOf kl_X10_204 km_X10_weightOf ks_X10_weightOf ki_X10 (by decide +kernel) ⟨by decide, by decide⟩ rfl hl.1 rfl (by first | exact Nat.le_of_ble_eq_true rfl | (simp only [List.map, pm_rf_cat]; exact Nat.le_of_ble_eq_true rfl)) dX10_most_65 ⟨by decide, by decide⟩ (fun r9 M9 H locs hp hX1 hI => ?_)
                clear hw
                obtain ⟨r_12, rfl, rfl, hw⟩ := hp
                refine pm_nrm (cells' := 0) (slots' := 0) (g2 := F0 m 68 ls [.int r_12, .int v4]) rfl rfl rfl ?_
                refine pm_callS (As := [.int v4, .int r_12]) (rest := []) 2 E hI (k_J9_max_7cf53 hw) kc_J9_max_7cf53 kl_X10_111 kt_J9_max_7cf53 ki_J9 (by decide +kernel) ⟨by decide, by decide⟩ rfl hl.1 rfl (by first | exact Nat.le_of_ble_eq_true rfl | (simp only [List.map, pm_rf_cat]; exact Nat.le_of_ble_eq_true rfl)) dX10_most_68 ⟨by decide, by decide⟩ (fun r9 M9 H locs hp hX1 hI => ?_)
                clear hw
                obtain ⟨r_13, rfl, rfl, hw⟩ := hp
                refine pm_nrm (cells' := 0) (slots' := 0) (g2 := F0 m 71 ls [.int r_13]) rfl rfl rfl ?_
                refine lv_istore (lv' := [(4, .int r_13), (0, .ref (H0.size + v0)), (1, .int v1), (2, .int v2), (3, .int v3), (5, .int v5)]) hx hb dX10_most_71 hl (by decide) rfl (fun ls hl_14 => ?_)
                exact c_X10_most_73 E hret ih hI t_v0 (lv_sub hl_14 [1, 2, 3, 4, 0, 5] rfl) hw
set_option maxHeartbeats 4000000 in
set_option maxRecDepth 100000 in
theorem k_X10_most {l : Launch} {G : pm_G} {H0 : Heap} {th : Nat} {a1 : Int32} {a2 : Int32} {a3 : Int32} {M : pm_M} {Post : Int32 → Prop} (t_th : pm_is M th 9) (hw : w_X10_most th a1 a2 a3 M Post) : pm_C l G H0 yX10_most cX10_most 6 (some .int) rm_X10_most [.ref (H0.size + th), .int a1, .int a2, .int a3] M (pm_Pi (fun r9 M9 => M = M9 ∧ Post r9)) := by
  refine pm_start (by decide +kernel) (Nat.le_of_ble_eq_true rfl) ?_
  intro p e s m args below meth c H ls E hret hnm hI hl
  have hl : lv_has ls 6 [(0, .ref (H0.size + th)), (1, .int a1), (2, .int a2), (3, .int a3)] := hl
  have hx := E.1
  have hb := E.2.1
  have hown := E.2.2.2.1
  have hts := E.2.2.2.2.1
  unfold w_X10_most at hw
  refine lv_iconst (v := (-1 : Int32)) hx hb dX10_most_0 (by decide) ?_
  refine lv_istore (lv' := [(4, .int (-1 : Int32)), (0, .ref (H0.size + th)), (1, .int a1), (2, .int a2), (3, .int a3)]) hx hb dX10_most_1 hl (by decide) rfl (fun ls hl_1 => ?_)
  refine lv_iconst (v := (0 : Int32)) hx hb dX10_most_3 (by decide) ?_
  refine lv_istore (lv' := [(5, .int (0 : Int32)), (4, .int (-1 : Int32)), (0, .ref (H0.size + th)), (1, .int a1), (2, .int a2), (3, .int a3)]) hx hb dX10_most_4 hl_1 (by decide) rfl (fun ls hl_2 => ?_)
  obtain ⟨n_3, hw⟩ := hw
  exact c_X10_most_6 E hret n_3 _ _ _ _ _ hI t_th (lv_sub hl_2 [2, 3, 4, 5, 1, 0] rfl) hw
set_option maxHeartbeats 4000000 in
set_option maxRecDepth 100000 in
theorem c_X10_three_83 {p : Program} {l : Launch} {e : Env} {s : State} {m : MethodId} {args : Array Value} {below : List Frame} {meth : Method} {c : Code} {G : pm_G} {H0 : Heap} {Post : Int32 → Prop} {v0 : Nat} {v1 : Int32} {v2 : Int32} {v3 : Int32} {v4 : Int32} {v5 : Int32} {M : pm_M} {k_32 : Int32 → Int32 → Prop} (E : pm_E G p s m args meth c cX10_three 6 RX10) (hret : meth.sig.returnType = (some .int)) (hk_32 : ∀ (v4 : Int32) (v5 : Int32) (H : Heap) (locs : List Loc) (ls : Array Slot), pm_I G H0 M H locs → (pm_is M v0 9) → lv_has ls 6 [(0, .ref (H0.size + v0)), (1, .int v1), (2, .int v2), (3, .int v3), (4, .int v4), (5, .int v5)] → k_32 v4 v5 → W p l e rm_X10_three s m args below meth c H locs 0 0 (pm_Z G H0 M (pm_Pi (fun r9 M9 => M = M9 ∧ Post r9)) below args s rm_X10_three.cells rm_X10_three.slots) (F0 m 32 ls [])) {H : Heap} {locs : List Loc} {ls : Array Slot} (hI : pm_I G H0 M H locs) (t_v0 : pm_is M v0 9) (hl : lv_has ls 6 [(0, .ref (H0.size + v0)), (1, .int v1), (2, .int v2), (3, .int v3), (4, .int v4), (5, .int v5)]) (hw : w_X10_three_83 Post k_32 v0 v1 v2 v3 v4 v5 M) : W p l e rm_X10_three s m args below meth c H locs 0 0 (pm_Z G H0 M (pm_Pi (fun r9 M9 => M = M9 ∧ Post r9)) below args s rm_X10_three.cells rm_X10_three.slots) (F0 m 83 ls []) := by
  have hx := E.1
  have hb := E.2.1
  have hown := E.2.2.2.1
  have hts := E.2.2.2.2.1
  unfold w_X10_three_83 at hw
  obtain ⟨x_1, e_x_1⟩ : ∃ z : Int32, z = v5 + (1 : Int32) := ⟨_, rfl⟩
  refine lv_iinc (v := x_1) (lv' := [(5, .int x_1), (0, .ref (H0.size + v0)), (1, .int v1), (2, .int v2), (3, .int v3), (4, .int v4)]) hx hb dX10_three_83 hl (k := 5) rfl (by rw [e_x_1]; rfl) (by decide) rfl (fun ls hl_2 => ?_)
  replace hw := hw x_1 e_x_1
  refine lv_goto (tgt := 32) hx hb dX10_three_86 (by decide) ?_
  exact hk_32 _ _ _ _ _ hI t_v0 (lv_sub hl_2 [1, 2, 3, 4, 5, 0] rfl) hw
set_option maxHeartbeats 4000000 in
set_option maxRecDepth 100000 in
theorem c_X10_three_32 {p : Program} {l : Launch} {e : Env} {s : State} {m : MethodId} {args : Array Value} {below : List Frame} {meth : Method} {c : Code} {G : pm_G} {H0 : Heap} {Post : Int32 → Prop} {v0 : Nat} {v1 : Int32} {v2 : Int32} {v3 : Int32} {M : pm_M} (E : pm_E G p s m args meth c cX10_three 6 RX10) (hret : meth.sig.returnType = (some .int)) : ∀ (n : Nat) (v4 : Int32) (v5 : Int32) (H : Heap) (locs : List Loc) (ls : Array Slot), pm_I G H0 M H locs → (pm_is M v0 9) → lv_has ls 6 [(0, .ref (H0.size + v0)), (1, .int v1), (2, .int v2), (3, .int v3), (4, .int v4), (5, .int v5)] → w_X10_three_32 Post v0 v1 v2 v3 M n v4 v5 → W p l e rm_X10_three s m args below meth c H locs 0 0 (pm_Z G H0 M (pm_Pi (fun r9 M9 => M = M9 ∧ Post r9)) below args s rm_X10_three.cells rm_X10_three.slots) (F0 m 32 ls []) := by
  have hx := E.1
  have hb := E.2.1
  have hown := E.2.2.2.1
  have hts := E.2.2.2.2.1
  intro n
  induction n with
  | zero =>
    intro v4 v5 H locs ls hI t_v0 hl hw
    unfold w_X10_three_32 at hw
    exact hw.elim
  | succ n ih =>
    intro v4 v5 H locs ls hI t_v0 hl hw
    unfold w_X10_three_32 at hw
    refine lv_iload hx hb dX10_three_32 (lv_at hl 5 rfl) ?_
    refine lv_aload_n hx hb dX10_three_34 rfl (lv_at hl 0 rfl) ?_
    refine gf_X10_13 E hI t_v0 dX10_three_35 ?_
    refine lv_icmp_gt (tgt := 89) hx hb dX10_three_38 (by decide) (fun h_1 => ?_) (fun h_1 => ?_)
    · replace hw := hw.1 h_1
      refine lv_iload hx hb dX10_three_89 (lv_at hl 4 rfl) ?_
      exact pm_iret E hret hI pm_X.rf ⟨_, rfl, rfl, hw⟩ (by decide) (by decide) dX10_three_91
    · replace hw := hw.2 h_1
      refine lv_aload_n hx hb dX10_three_41 rfl (lv_at hl 0 rfl) ?_
      refine lv_iload_n hx hb dX10_three_42 rfl (lv_at hl 1 rfl) ?_
      refine lv_iload hx hb dX10_three_43 (lv_at hl 5 rfl) ?_
      refine pm_callV (As := [.int v1, .int v5]) (rest := []) 2 E hI (k_X10_isAllowed t_v0 hw) t_v0 (by decide) rfl kc_X10_isAllowed kl_X10_100 km_X10_isAllowed ks_X10_isAllowed ki_X10 (by decide +kernel) ⟨by decide, by decide⟩ rfl hl.1 rfl (by first | exact Nat.le_of_ble_eq_true rfl | (simp only [List.map, pm_rf_cat]; exact Nat.le_of_ble_eq_true rfl)) dX10_three_45 ⟨by decide, by decide⟩ (fun r9 M9 H locs hp hX1 hI => ?_)
      clear hw
      obtain ⟨r_2, rfl, rfl, hw⟩ := hp
      refine pm_nrm (cells' := 0) (slots' := 0) (g2 := F0 m 48 ls [.int r_2]) rfl rfl rfl ?_
      refine lv_if_eq (tgt := 83) hx hb dX10_three_48 (by decide) (fun h_3 => ?_) (fun h_3 => ?_)
      · replace hw := hw.1 h_3
        exact c_X10_three_83 E hret ih hI t_v0 (lv_sub hl [0, 1, 2, 3, 4, 5] rfl) hw
      · replace hw := hw.2 h_3
        refine lv_aload_n hx hb dX10_three_51 rfl (lv_at hl 0 rfl) ?_
        refine lv_iload_n hx hb dX10_three_52 rfl (lv_at hl 2 rfl) ?_
        refine lv_iload hx hb dX10_three_53 (lv_at hl 5 rfl) ?_
        refine pm_callV (As := [.int v2, .int v5]) (rest := []) 2 E hI (k_X10_isAllowed t_v0 hw) t_v0 (by decide) rfl kc_X10_isAllowed kl_X10_100 km_X10_isAllowed ks_X10_isAllowed ki_X10 (by decide +kernel) ⟨by decide, by decide⟩ rfl hl.1 rfl (by first | exact Nat.le_of_ble_eq_true rfl | (simp only [List.map, pm_rf_cat]; exact Nat.le_of_ble_eq_true rfl)) dX10_three_55 ⟨by decide, by decide⟩ (fun r9 M9 H locs hp hX1 hI => ?_)
        clear hw
        obtain ⟨r_4, rfl, rfl, hw⟩ := hp
        refine pm_nrm (cells' := 0) (slots' := 0) (g2 := F0 m 58 ls [.int r_4]) rfl rfl rfl ?_
        refine lv_if_eq (tgt := 83) hx hb dX10_three_58 (by decide) (fun h_5 => ?_) (fun h_5 => ?_)
        · replace hw := hw.1 h_5
          exact c_X10_three_83 E hret ih hI t_v0 (lv_sub hl [0, 1, 2, 3, 4, 5] rfl) hw
        · replace hw := hw.2 h_5
          refine lv_aload_n hx hb dX10_three_61 rfl (lv_at hl 0 rfl) ?_
          refine lv_iload_n hx hb dX10_three_62 rfl (lv_at hl 3 rfl) ?_
          refine lv_iload hx hb dX10_three_63 (lv_at hl 5 rfl) ?_
          refine pm_callV (As := [.int v3, .int v5]) (rest := []) 2 E hI (k_X10_isAllowed t_v0 hw) t_v0 (by decide) rfl kc_X10_isAllowed kl_X10_100 km_X10_isAllowed ks_X10_isAllowed ki_X10 (by decide +kernel) ⟨by decide, by decide⟩ rfl hl.1 rfl (by first | exact Nat.le_of_ble_eq_true rfl | (simp only [List.map, pm_rf_cat]; exact Nat.le_of_ble_eq_true rfl)) dX10_three_65 ⟨by decide, by decide⟩ (fun r9 M9 H locs hp hX1 hI => ?_)
          clear hw
          obtain ⟨r_6, rfl, rfl, hw⟩ := hp
          refine pm_nrm (cells' := 0) (slots' := 0) (g2 := F0 m 68 ls [.int r_6]) rfl rfl rfl ?_
          refine lv_if_eq (tgt := 83) hx hb dX10_three_68 (by decide) (fun h_7 => ?_) (fun h_7 => ?_)
          · replace hw := hw.1 h_7
            exact c_X10_three_83 E hret ih hI t_v0 (lv_sub hl [0, 1, 2, 3, 4, 5] rfl) hw
          · replace hw := hw.2 h_7
            refine lv_iload hx hb dX10_three_71 (lv_at hl 4 rfl) ?_
            refine lv_iload hx hb dX10_three_73 (lv_at hl 5 rfl) ?_
            refine pm_callS (As := [.int v5]) (rest := [.int v4]) 1 E hI (k_X10_bitsOf hw) kc_X10_bitsOf kl_X10_104 kt_X10_bitsOf ki_X10 (by decide +kernel) ⟨by decide, by decide⟩ rfl hl.1 rfl (by first | exact Nat.le_of_ble_eq_true rfl | (simp only [List.map, pm_rf_cat]; exact Nat.le_of_ble_eq_true rfl)) dX10_three_75 ⟨by decide, by decide⟩ (fun r9 M9 H locs hp hX1 hI => ?_)
            clear hw
            obtain ⟨r_8, rfl, rfl, hw⟩ := hp
            refine pm_nrm (cells' := 0) (slots' := 0) (g2 := F0 m 78 ls [.int r_8, .int v4]) rfl rfl rfl ?_
            refine pm_callS (As := [.int v4, .int r_8]) (rest := []) 2 E hI (k_J9_max_7cf53 hw) kc_J9_max_7cf53 kl_X10_111 kt_J9_max_7cf53 ki_J9 (by decide +kernel) ⟨by decide, by decide⟩ rfl hl.1 rfl (by first | exact Nat.le_of_ble_eq_true rfl | (simp only [List.map, pm_rf_cat]; exact Nat.le_of_ble_eq_true rfl)) dX10_three_78 ⟨by decide, by decide⟩ (fun r9 M9 H locs hp hX1 hI => ?_)
            clear hw
            obtain ⟨r_9, rfl, rfl, hw⟩ := hp
            refine pm_nrm (cells' := 0) (slots' := 0) (g2 := F0 m 81 ls [.int r_9]) rfl rfl rfl ?_
            refine lv_istore (lv' := [(4, .int r_9), (0, .ref (H0.size + v0)), (1, .int v1), (2, .int v2), (3, .int v3), (5, .int v5)]) hx hb dX10_three_81 hl (by decide) rfl (fun ls hl_10 => ?_)
            exact c_X10_three_83 E hret ih hI t_v0 (lv_sub hl_10 [1, 2, 3, 4, 0, 5] rfl) hw
set_option maxHeartbeats 4000000 in
set_option maxRecDepth 100000 in
theorem c_X10_three_24 {p : Program} {l : Launch} {e : Env} {s : State} {m : MethodId} {args : Array Value} {below : List Frame} {meth : Method} {c : Code} {G : pm_G} {H0 : Heap} {Post : Int32 → Prop} {M : pm_M} (E : pm_E G p s m args meth c cX10_three 6 RX10) (hret : meth.sig.returnType = (some .int)) {H : Heap} {locs : List Loc} {ls : Array Slot} (hI : pm_I G H0 M H locs) (hl : lv_has ls 6 []) (hw : w_X10_three_24 Post M) : W p l e rm_X10_three s m args below meth c H locs 0 0 (pm_Z G H0 M (pm_Pi (fun r9 M9 => M = M9 ∧ Post r9)) below args s rm_X10_three.cells rm_X10_three.slots) (F0 m 24 ls []) := by
  have hx := E.1
  have hb := E.2.1
  have hown := E.2.2.2.1
  have hts := E.2.2.2.2.1
  unfold w_X10_three_24 at hw
  refine lv_iconst (v := (-1 : Int32)) hx hb dX10_three_24 (by decide) ?_
  exact pm_iret E hret hI pm_X.rf ⟨_, rfl, rfl, hw⟩ (by decide) (by decide) dX10_three_25
set_option maxHeartbeats 4000000 in
set_option maxRecDepth 100000 in
theorem k_X10_three {l : Launch} {G : pm_G} {H0 : Heap} {th : Nat} {a1 : Int32} {a2 : Int32} {a3 : Int32} {M : pm_M} {Post : Int32 → Prop} (t_th : pm_is M th 9) (hw : w_X10_three th a1 a2 a3 M Post) : pm_C l G H0 yX10_three cX10_three 6 (some .int) rm_X10_three [.ref (H0.size + th), .int a1, .int a2, .int a3] M (pm_Pi (fun r9 M9 => M = M9 ∧ Post r9)) := by
  refine pm_start (by decide +kernel) (Nat.le_of_ble_eq_true rfl) ?_
  intro p e s m args below meth c H ls E hret hnm hI hl
  have hl : lv_has ls 6 [(0, .ref (H0.size + th)), (1, .int a1), (2, .int a2), (3, .int a3)] := hl
  have hx := E.1
  have hb := E.2.1
  have hown := E.2.2.2.1
  have hts := E.2.2.2.2.1
  unfold w_X10_three at hw
  refine lv_aload_n hx hb dX10_three_0 rfl (lv_at hl 0 rfl) ?_
  refine lv_iload_n hx hb dX10_three_1 rfl (lv_at hl 1 rfl) ?_
  refine pm_callV (As := [.int a1]) (rest := []) 1 E hI (k_X10_isRule t_th hw) t_th (by decide) rfl kc_X10_isRule kl_X10_191 km_X10_isRule ks_X10_isRule ki_X10 (by decide +kernel) ⟨by decide, by decide⟩ rfl hl.1 rfl (by first | exact Nat.le_of_ble_eq_true rfl | (simp only [List.map, pm_rf_cat]; exact Nat.le_of_ble_eq_true rfl)) dX10_three_2 ⟨by decide, by decide⟩ (fun r9 M9 H locs hp hX1 hI => ?_)
  clear hw
  obtain ⟨r_1, rfl, rfl, hw⟩ := hp
  refine pm_nrm (cells' := 0) (slots' := 0) (g2 := F0 m 5 ls [.int r_1]) rfl rfl rfl ?_
  refine lv_if_eq (tgt := 24) hx hb dX10_three_5 (by decide) (fun h_2 => ?_) (fun h_2 => ?_)
  · replace hw := hw.1 h_2
    exact c_X10_three_24 E hret hI (lv_sub hl [] rfl) hw
  · replace hw := hw.2 h_2
    refine lv_aload_n hx hb dX10_three_8 rfl (lv_at hl 0 rfl) ?_
    refine lv_iload_n hx hb dX10_three_9 rfl (lv_at hl 2 rfl) ?_
    refine pm_callV (As := [.int a2]) (rest := []) 1 E hI (k_X10_isRule t_th hw) t_th (by decide) rfl kc_X10_isRule kl_X10_191 km_X10_isRule ks_X10_isRule ki_X10 (by decide +kernel) ⟨by decide, by decide⟩ rfl hl.1 rfl (by first | exact Nat.le_of_ble_eq_true rfl | (simp only [List.map, pm_rf_cat]; exact Nat.le_of_ble_eq_true rfl)) dX10_three_10 ⟨by decide, by decide⟩ (fun r9 M9 H locs hp hX1 hI => ?_)
    clear hw
    obtain ⟨r_3, rfl, rfl, hw⟩ := hp
    refine pm_nrm (cells' := 0) (slots' := 0) (g2 := F0 m 13 ls [.int r_3]) rfl rfl rfl ?_
    refine lv_if_eq (tgt := 24) hx hb dX10_three_13 (by decide) (fun h_4 => ?_) (fun h_4 => ?_)
    · replace hw := hw.1 h_4
      exact c_X10_three_24 E hret hI (lv_sub hl [] rfl) hw
    · replace hw := hw.2 h_4
      refine lv_aload_n hx hb dX10_three_16 rfl (lv_at hl 0 rfl) ?_
      refine lv_iload_n hx hb dX10_three_17 rfl (lv_at hl 3 rfl) ?_
      refine pm_callV (As := [.int a3]) (rest := []) 1 E hI (k_X10_isRule t_th hw) t_th (by decide) rfl kc_X10_isRule kl_X10_191 km_X10_isRule ks_X10_isRule ki_X10 (by decide +kernel) ⟨by decide, by decide⟩ rfl hl.1 rfl (by first | exact Nat.le_of_ble_eq_true rfl | (simp only [List.map, pm_rf_cat]; exact Nat.le_of_ble_eq_true rfl)) dX10_three_18 ⟨by decide, by decide⟩ (fun r9 M9 H locs hp hX1 hI => ?_)
      clear hw
      obtain ⟨r_5, rfl, rfl, hw⟩ := hp
      refine pm_nrm (cells' := 0) (slots' := 0) (g2 := F0 m 21 ls [.int r_5]) rfl rfl rfl ?_
      refine lv_if_ne (tgt := 26) hx hb dX10_three_21 (by decide) (fun h_6 => ?_) (fun h_6 => ?_)
      · replace hw := hw.1 h_6
        refine lv_iconst (v := (0 : Int32)) hx hb dX10_three_26 (by decide) ?_
        refine lv_istore (lv' := [(4, .int (0 : Int32)), (0, .ref (H0.size + th)), (1, .int a1), (2, .int a2), (3, .int a3)]) hx hb dX10_three_27 hl (by decide) rfl (fun ls hl_7 => ?_)
        refine lv_iconst (v := (0 : Int32)) hx hb dX10_three_29 (by decide) ?_
        refine lv_istore (lv' := [(5, .int (0 : Int32)), (4, .int (0 : Int32)), (0, .ref (H0.size + th)), (1, .int a1), (2, .int a2), (3, .int a3)]) hx hb dX10_three_30 hl_7 (by decide) rfl (fun ls hl_8 => ?_)
        obtain ⟨n_9, hw⟩ := hw
        exact c_X10_three_32 E hret n_9 _ _ _ _ _ hI t_th (lv_sub hl_8 [2, 3, 4, 5, 1, 0] rfl) hw
      · replace hw := hw.2 h_6
        exact c_X10_three_24 E hret hI (lv_sub hl [] rfl) hw
set_option maxHeartbeats 4000000 in
set_option maxRecDepth 100000 in
theorem c_X10_undealt_12 {p : Program} {l : Launch} {e : Env} {s : State} {m : MethodId} {args : Array Value} {below : List Frame} {meth : Method} {c : Code} {G : pm_G} {H0 : Heap} {Post : Int32 → Prop} {v0 : Nat} {v1 : Int32} {M : pm_M} (E : pm_E G p s m args meth c cX10_undealt 3 RX10) (hret : meth.sig.returnType = (some .int)) : ∀ (n : Nat) (v2 : Int32) (H : Heap) (locs : List Loc) (ls : Array Slot), pm_I G H0 M H locs → (pm_is M v0 9) → lv_has ls 3 [(0, .ref (H0.size + v0)), (1, .int v1), (2, .int v2)] → w_X10_undealt_12 Post v0 v1 M n v2 → W p l e rm_X10_undealt s m args below meth c H locs 0 0 (pm_Z G H0 M (pm_Pi (fun r9 M9 => M = M9 ∧ Post r9)) below args s rm_X10_undealt.cells rm_X10_undealt.slots) (F0 m 12 ls []) := by
  have hx := E.1
  have hb := E.2.1
  have hown := E.2.2.2.1
  have hts := E.2.2.2.2.1
  intro n
  induction n with
  | zero =>
    intro v2 H locs ls hI t_v0 hl hw
    unfold w_X10_undealt_12 at hw
    exact hw.elim
  | succ n ih =>
    intro v2 H locs ls hI t_v0 hl hw
    unfold w_X10_undealt_12 at hw
    refine lv_iload_n hx hb dX10_undealt_12 rfl (lv_at hl 2 rfl) ?_
    refine lv_aload_n hx hb dX10_undealt_13 rfl (lv_at hl 0 rfl) ?_
    refine gf_X10_7 E hI t_v0 dX10_undealt_14 ?_
    refine lv_icmp_ge (tgt := 40) hx hb dX10_undealt_17 (by decide) (fun h_1 => ?_) (fun h_1 => ?_)
    · replace hw := hw.1 h_1
      refine lv_iconst (v := (0 : Int32)) hx hb dX10_undealt_40 (by decide) ?_
      exact pm_iret E hret hI pm_X.rf ⟨_, rfl, rfl, hw⟩ (by decide) (by decide) dX10_undealt_41
    · replace hw := hw.2 h_1
      refine lv_aload_n hx hb dX10_undealt_20 rfl (lv_at hl 0 rfl) ?_
      refine lv_iload_n hx hb dX10_undealt_21 rfl (lv_at hl 1 rfl) ?_
      refine lv_iconst (v := (1 : Int32)) hx hb dX10_undealt_22 (by decide) ?_
      refine lv_iload_n hx hb dX10_undealt_23 rfl (lv_at hl 2 rfl) ?_
      refine lv_ishl hx hb dX10_undealt_24 ?_
      refine pm_callV (As := [.int v1, .int ((1 : Int32) <<< (v2 &&& 31))]) (rest := []) 2 E hI (k_X10_isAllowed t_v0 hw) t_v0 (by decide) rfl kc_X10_isAllowed kl_X10_100 km_X10_isAllowed ks_X10_isAllowed ki_X10 (by decide +kernel) ⟨by decide, by decide⟩ rfl hl.1 rfl (by first | exact Nat.le_of_ble_eq_true rfl | (simp only [List.map, pm_rf_cat]; exact Nat.le_of_ble_eq_true rfl)) dX10_undealt_25 ⟨by decide, by decide⟩ (fun r9 M9 H locs hp hX1 hI => ?_)
      clear hw
      obtain ⟨r_2, rfl, rfl, hw⟩ := hp
      refine pm_nrm (cells' := 0) (slots' := 0) (g2 := F0 m 28 ls [.int r_2]) rfl rfl rfl ?_
      refine lv_if_ne (tgt := 34) hx hb dX10_undealt_28 (by decide) (fun h_3 => ?_) (fun h_3 => ?_)
      · replace hw := hw.1 h_3
        obtain ⟨x_4, e_x_4⟩ : ∃ z : Int32, z = v2 + (1 : Int32) := ⟨_, rfl⟩
        refine lv_iinc (v := x_4) (lv' := [(2, .int x_4), (0, .ref (H0.size + v0)), (1, .int v1)]) hx hb dX10_undealt_34 hl (k := 2) rfl (by rw [e_x_4]; rfl) (by decide) rfl (fun ls hl_5 => ?_)
        replace hw := hw x_4 e_x_4
        refine lv_goto (tgt := 12) hx hb dX10_undealt_37 (by decide) ?_
        exact ih _ _ _ _ hI t_v0 (lv_sub hl_5 [1, 2, 0] rfl) hw
      · replace hw := hw.2 h_3
        refine lv_bipush (v := (-2 : Int32)) hx hb dX10_undealt_31 (by decide) ?_
        exact pm_iret E hret hI pm_X.rf ⟨_, rfl, rfl, hw⟩ (by decide) (by decide) dX10_undealt_33
set_option maxHeartbeats 4000000 in
set_option maxRecDepth 100000 in
theorem k_X10_undealt {l : Launch} {G : pm_G} {H0 : Heap} {th : Nat} {a1 : Int32} {M : pm_M} {Post : Int32 → Prop} (t_th : pm_is M th 9) (hw : w_X10_undealt th a1 M Post) : pm_C l G H0 yX10_undealt cX10_undealt 3 (some .int) rm_X10_undealt [.ref (H0.size + th), .int a1] M (pm_Pi (fun r9 M9 => M = M9 ∧ Post r9)) := by
  refine pm_start (by decide +kernel) (Nat.le_of_ble_eq_true rfl) ?_
  intro p e s m args below meth c H ls E hret hnm hI hl
  have hl : lv_has ls 3 [(0, .ref (H0.size + th)), (1, .int a1)] := hl
  have hx := E.1
  have hb := E.2.1
  have hown := E.2.2.2.1
  have hts := E.2.2.2.2.1
  unfold w_X10_undealt at hw
  refine lv_aload_n hx hb dX10_undealt_0 rfl (lv_at hl 0 rfl) ?_
  refine lv_iload_n hx hb dX10_undealt_1 rfl (lv_at hl 1 rfl) ?_
  refine pm_callV (As := [.int a1]) (rest := []) 1 E hI (k_X10_isRule t_th hw) t_th (by decide) rfl kc_X10_isRule kl_X10_191 km_X10_isRule ks_X10_isRule ki_X10 (by decide +kernel) ⟨by decide, by decide⟩ rfl hl.1 rfl (by first | exact Nat.le_of_ble_eq_true rfl | (simp only [List.map, pm_rf_cat]; exact Nat.le_of_ble_eq_true rfl)) dX10_undealt_2 ⟨by decide, by decide⟩ (fun r9 M9 H locs hp hX1 hI => ?_)
  clear hw
  obtain ⟨r_1, rfl, rfl, hw⟩ := hp
  refine pm_nrm (cells' := 0) (slots' := 0) (g2 := F0 m 5 ls [.int r_1]) rfl rfl rfl ?_
  refine lv_if_ne (tgt := 10) hx hb dX10_undealt_5 (by decide) (fun h_2 => ?_) (fun h_2 => ?_)
  · replace hw := hw.1 h_2
    refine lv_iconst (v := (0 : Int32)) hx hb dX10_undealt_10 (by decide) ?_
    refine lv_istore_n (lv' := [(2, .int (0 : Int32)), (0, .ref (H0.size + th)), (1, .int a1)]) hx hb dX10_undealt_11 rfl hl (by decide) rfl (fun ls hl_3 => ?_)
    obtain ⟨n_4, hw⟩ := hw
    exact c_X10_undealt_12 E hret n_4 _ _ _ _ hI t_th (lv_sub hl_3 [1, 2, 0] rfl) hw
  · replace hw := hw.2 h_2
    refine lv_iconst (v := (-1 : Int32)) hx hb dX10_undealt_8 (by decide) ?_
    exact pm_iret E hret hI pm_X.rf ⟨_, rfl, rfl, hw⟩ (by decide) (by decide) dX10_undealt_9
set_option maxHeartbeats 4000000 in
set_option maxRecDepth 100000 in
theorem c_X10_fewestOf_91 {p : Program} {l : Launch} {e : Env} {s : State} {m : MethodId} {args : Array Value} {below : List Frame} {meth : Method} {c : Code} {G : pm_G} {H0 : Heap} {M0 : pm_M} {Post : Int32 → pm_M → Prop} {v0 : Nat} {v1 : Int32} {v2 : Int32} {v3 : Int32} {v4 : Int32} {v5 : Int32} {s0 : Int32} {M : pm_M} {k_9 : Int32 → pm_M → Prop} {k_37 : Int32 → Int32 → Prop} (E : pm_E G p s m args meth c cX10_fewestOf 7 RX10) (hret : meth.sig.returnType = (some .int)) (hk_9 : ∀ (v2 : Int32) (M : pm_M) (H : Heap) (locs : List Loc) (ls : Array Slot), pm_X M0 M → pm_I G H0 M H locs → (pm_is M v0 9) → lv_has ls 7 [(0, .ref (H0.size + v0)), (1, .int v1), (2, .int v2)] → k_9 v2 M → W p l e rm_X10_fewestOf s m args below meth c H locs 0 0 (pm_Z G H0 M0 (pm_Pi Post) below args s rm_X10_fewestOf.cells rm_X10_fewestOf.slots) (F0 m 9 ls [])) (hk_37 : ∀ (v5 : Int32) (v6 : Int32) (H : Heap) (locs : List Loc) (ls : Array Slot), pm_X M0 M → pm_I G H0 M H locs → (pm_is M v0 9) → lv_has ls 7 [(0, .ref (H0.size + v0)), (1, .int v1), (2, .int v2), (3, .int v3), (4, .int v4), (5, .int v5), (6, .int v6)] → k_37 v5 v6 → W p l e rm_X10_fewestOf s m args below meth c H locs 0 0 (pm_Z G H0 M0 (pm_Pi Post) below args s rm_X10_fewestOf.cells rm_X10_fewestOf.slots) (F0 m 37 ls [])) {H : Heap} {locs : List Loc} {ls : Array Slot} (hX : pm_X M0 M) (hI : pm_I G H0 M H locs) (t_v0 : pm_is M v0 9) (hl : lv_has ls 7 [(0, .ref (H0.size + v0)), (1, .int v1), (2, .int v2), (3, .int v3), (4, .int v4), (5, .int v5)]) (hw : w_X10_fewestOf_91 Post k_9 k_37 v0 v1 v2 v3 v4 v5 s0 M) : W p l e rm_X10_fewestOf s m args below meth c H locs 0 0 (pm_Z G H0 M0 (pm_Pi Post) below args s rm_X10_fewestOf.cells rm_X10_fewestOf.slots) (F0 m 91 ls [.int s0]) := by
  have hx := E.1
  have hb := E.2.1
  have hown := E.2.2.2.1
  have hts := E.2.2.2.2.1
  unfold w_X10_fewestOf_91 at hw
  refine lv_istore (lv' := [(6, .int s0), (0, .ref (H0.size + v0)), (1, .int v1), (2, .int v2), (3, .int v3), (4, .int v4), (5, .int v5)]) hx hb dX10_fewestOf_91 hl (by decide) rfl (fun ls hl_1 => ?_)
  refine lv_goto (tgt := 37) hx hb dX10_fewestOf_93 (by decide) ?_
  exact hk_37 _ _ _ _ _ hX hI t_v0 (lv_sub hl_1 [1, 2, 3, 4, 5, 6, 0] rfl) hw
set_option maxHeartbeats 4000000 in
set_option maxRecDepth 100000 in
theorem c_X10_fewestOf_75 {p : Program} {l : Launch} {e : Env} {s : State} {m : MethodId} {args : Array Value} {below : List Frame} {meth : Method} {c : Code} {G : pm_G} {H0 : Heap} {M0 : pm_M} {Post : Int32 → pm_M → Prop} {v0 : Nat} {v1 : Int32} {v2 : Int32} {v3 : Int32} {v4 : Int32} {v5 : Int32} {v6 : Int32} {M : pm_M} {k_9 : Int32 → pm_M → Prop} {k_37 : Int32 → Int32 → Prop} (E : pm_E G p s m args meth c cX10_fewestOf 7 RX10) (hret : meth.sig.returnType = (some .int)) (hk_9 : ∀ (v2 : Int32) (M : pm_M) (H : Heap) (locs : List Loc) (ls : Array Slot), pm_X M0 M → pm_I G H0 M H locs → (pm_is M v0 9) → lv_has ls 7 [(0, .ref (H0.size + v0)), (1, .int v1), (2, .int v2)] → k_9 v2 M → W p l e rm_X10_fewestOf s m args below meth c H locs 0 0 (pm_Z G H0 M0 (pm_Pi Post) below args s rm_X10_fewestOf.cells rm_X10_fewestOf.slots) (F0 m 9 ls [])) (hk_37 : ∀ (v5 : Int32) (v6 : Int32) (H : Heap) (locs : List Loc) (ls : Array Slot), pm_X M0 M → pm_I G H0 M H locs → (pm_is M v0 9) → lv_has ls 7 [(0, .ref (H0.size + v0)), (1, .int v1), (2, .int v2), (3, .int v3), (4, .int v4), (5, .int v5), (6, .int v6)] → k_37 v5 v6 → W p l e rm_X10_fewestOf s m args below meth c H locs 0 0 (pm_Z G H0 M0 (pm_Pi Post) below args s rm_X10_fewestOf.cells rm_X10_fewestOf.slots) (F0 m 37 ls [])) {H : Heap} {locs : List Loc} {ls : Array Slot} (hX : pm_X M0 M) (hI : pm_I G H0 M H locs) (t_v0 : pm_is M v0 9) (hl : lv_has ls 7 [(0, .ref (H0.size + v0)), (1, .int v1), (2, .int v2), (3, .int v3), (4, .int v4), (5, .int v5), (6, .int v6)]) (hw : w_X10_fewestOf_75 Post k_9 k_37 v0 v1 v2 v3 v4 v5 v6 M) : W p l e rm_X10_fewestOf s m args below meth c H locs 0 0 (pm_Z G H0 M0 (pm_Pi Post) below args s rm_X10_fewestOf.cells rm_X10_fewestOf.slots) (F0 m 75 ls []) := by
  have hx := E.1
  have hb := E.2.1
  have hown := E.2.2.2.1
  have hts := E.2.2.2.2.1
  unfold w_X10_fewestOf_75 at hw
  refine lv_iload hx hb dX10_fewestOf_75 (lv_at hl 6 rfl) ?_
  refine lv_if_ne (tgt := 84) hx hb dX10_fewestOf_77 (by decide) (fun h_1 => ?_) (fun h_1 => ?_)
  · replace hw := hw.1 h_1
    refine lv_iload hx hb dX10_fewestOf_84 (lv_at hl 6 rfl) ?_
    refine lv_iconst (v := (1 : Int32)) hx hb dX10_fewestOf_86 (by decide) ?_
    refine lv_isub hx hb dX10_fewestOf_87 ?_
    refine lv_iload hx hb dX10_fewestOf_88 (lv_at hl 4 rfl) ?_
    refine lv_iand hx hb dX10_fewestOf_90 ?_
    exact c_X10_fewestOf_91 E hret hk_9 hk_37 hX hI t_v0 (lv_sub hl [0, 1, 2, 3, 4, 5] rfl) hw
  · replace hw := hw.2 h_1
    refine lv_iconst (v := (-1 : Int32)) hx hb dX10_fewestOf_80 (by decide) ?_
    refine lv_goto (tgt := 91) hx hb dX10_fewestOf_81 (by decide) ?_
    exact c_X10_fewestOf_91 E hret hk_9 hk_37 hX hI t_v0 (lv_sub hl [0, 1, 2, 3, 4, 5] rfl) hw
set_option maxHeartbeats 4000000 in
set_option maxRecDepth 100000 in
theorem c_X10_fewestOf_37 {p : Program} {l : Launch} {e : Env} {s : State} {m : MethodId} {args : Array Value} {below : List Frame} {meth : Method} {c : Code} {G : pm_G} {H0 : Heap} {M0 : pm_M} {Post : Int32 → pm_M → Prop} {v0 : Nat} {v1 : Int32} {v2 : Int32} {v3 : Int32} {v4 : Int32} {M : pm_M} {k_9 : Int32 → pm_M → Prop} (E : pm_E G p s m args meth c cX10_fewestOf 7 RX10) (hret : meth.sig.returnType = (some .int)) (hk_9 : ∀ (v2 : Int32) (M : pm_M) (H : Heap) (locs : List Loc) (ls : Array Slot), pm_X M0 M → pm_I G H0 M H locs → (pm_is M v0 9) → lv_has ls 7 [(0, .ref (H0.size + v0)), (1, .int v1), (2, .int v2)] → k_9 v2 M → W p l e rm_X10_fewestOf s m args below meth c H locs 0 0 (pm_Z G H0 M0 (pm_Pi Post) below args s rm_X10_fewestOf.cells rm_X10_fewestOf.slots) (F0 m 9 ls [])) : ∀ (n : Nat) (v5 : Int32) (v6 : Int32) (H : Heap) (locs : List Loc) (ls : Array Slot), pm_X M0 M → pm_I G H0 M H locs → (pm_is M v0 9) → lv_has ls 7 [(0, .ref (H0.size + v0)), (1, .int v1), (2, .int v2), (3, .int v3), (4, .int v4), (5, .int v5), (6, .int v6)] → w_X10_fewestOf_37 Post k_9 v0 v1 v2 v3 v4 M n v5 v6 → W p l e rm_X10_fewestOf s m args below meth c H locs 0 0 (pm_Z G H0 M0 (pm_Pi Post) below args s rm_X10_fewestOf.cells rm_X10_fewestOf.slots) (F0 m 37 ls []) := by
  have hx := E.1
  have hb := E.2.1
  have hown := E.2.2.2.1
  have hts := E.2.2.2.2.1
  intro n
  induction n with
  | zero =>
    intro v5 v6 H locs ls hX hI t_v0 hl hw
    unfold w_X10_fewestOf_37 at hw
    exact hw.elim
  | succ n ih =>
    intro v5 v6 H locs ls hX hI t_v0 hl hw
    unfold w_X10_fewestOf_37 at hw
    refine lv_iload hx hb dX10_fewestOf_37 (lv_at hl 6 rfl) ?_
    refine lv_if_lt (tgt := 96) hx hb dX10_fewestOf_39 (by decide) (fun h_1 => ?_) (fun h_1 => ?_)
    · replace hw := hw.1 h_1
      refine lv_aload_n hx hb dX10_fewestOf_96 rfl (lv_at hl 0 rfl) ?_
      obtain ⟨q_2, e_q_2, hw⟩ := hw
      refine gf_X10_72 E hI t_v0 dX10_fewestOf_97 e_q_2 (fun t_q_2 => ?_)
      refine lv_iload_n hx hb dX10_fewestOf_100 rfl (lv_at hl 2 rfl) ?_
      refine lv_iload hx hb dX10_fewestOf_101 (lv_at hl 5 rfl) ?_
      refine lv_i2b hx hb dX10_fewestOf_103 rfl ?_
      obtain ⟨h_3, hw⟩ := hw
      refine ps_bast E hI t_q_2 h_3 dX10_fewestOf_104 (fun H locs M_4 e_M_4 hX1 hI => ?_)
      replace hw := hw M_4 e_M_4
      replace t_v0 := t_v0.x hX1
      replace hX := hX.tr hX1
      obtain ⟨x_5, e_x_5⟩ : ∃ z : Int32, z = v2 + (1 : Int32) := ⟨_, rfl⟩
      refine lv_iinc (v := x_5) (lv' := [(2, .int x_5), (0, .ref (H0.size + v0)), (1, .int v1), (3, .int v3), (4, .int v4), (5, .int v5), (6, .int v6)]) hx hb dX10_fewestOf_105 hl (k := 2) rfl (by rw [e_x_5]; rfl) (by decide) rfl (fun ls hl_6 => ?_)
      replace hw := hw x_5 e_x_5
      refine lv_goto (tgt := 9) hx hb dX10_fewestOf_108 (by decide) ?_
      exact hk_9 _ _ _ _ _ hX hI t_v0 (lv_sub hl_6 [1, 2, 0] rfl) hw
    · replace hw := hw.2 h_1
      refine lv_aload_n hx hb dX10_fewestOf_42 rfl (lv_at hl 0 rfl) ?_
      refine lv_iload_n hx hb dX10_fewestOf_43 rfl (lv_at hl 1 rfl) ?_
      refine lv_iload hx hb dX10_fewestOf_44 (lv_at hl 6 rfl) ?_
      refine lv_iload_n hx hb dX10_fewestOf_46 rfl (lv_at hl 3 rfl) ?_
      refine lv_ior hx hb dX10_fewestOf_47 ?_
      refine pm_callV (As := [.int v1, .int (v6 ||| v3)]) (rest := []) 2 E hI (k_X10_isAllowed t_v0 hw) t_v0 (by decide) rfl kc_X10_isAllowed kl_X10_100 km_X10_isAllowed ks_X10_isAllowed ki_X10 (by decide +kernel) ⟨by decide, by decide⟩ rfl hl.1 rfl (by first | exact Nat.le_of_ble_eq_true rfl | (simp only [List.map, pm_rf_cat]; exact Nat.le_of_ble_eq_true rfl)) dX10_fewestOf_48 ⟨by decide, by decide⟩ (fun r9 M9 H locs hp hX1 hI => ?_)
      clear hw
      obtain ⟨r_7, rfl, rfl, hw⟩ := hp
      refine pm_nrm (cells' := 0) (slots' := 0) (g2 := F0 m 51 ls [.int r_7]) rfl rfl rfl ?_
      refine lv_if_eq (tgt := 75) hx hb dX10_fewestOf_51 (by decide) (fun h_8 => ?_) (fun h_8 => ?_)
      · replace hw := hw.1 h_8
        exact c_X10_fewestOf_75 E hret hk_9 ih hX hI t_v0 (lv_sub hl [0, 1, 2, 3, 4, 5, 6] rfl) hw
      · replace hw := hw.2 h_8
        refine lv_iload hx hb dX10_fewestOf_54 (lv_at hl 5 rfl) ?_
        refine lv_iconst (v := (1 : Int32)) hx hb dX10_fewestOf_56 (by decide) ?_
        refine lv_aload_n hx hb dX10_fewestOf_57 rfl (lv_at hl 0 rfl) ?_
        obtain ⟨q_9, e_q_9, hw⟩ := hw
        refine gf_X10_72 E hI t_v0 dX10_fewestOf_58 e_q_9 (fun t_q_9 => ?_)
        refine lv_iload hx hb dX10_fewestOf_61 (lv_at hl 4 rfl) ?_
        refine lv_iload hx hb dX10_fewestOf_63 (lv_at hl 6 rfl) ?_
        refine lv_iconst (v := (-1 : Int32)) hx hb dX10_fewestOf_65 (by decide) ?_
        refine lv_ixor hx hb dX10_fewestOf_66 ?_
        refine lv_iand hx hb dX10_fewestOf_67 ?_
        obtain ⟨h_10, hw⟩ := hw
        refine pm_bald E hI t_q_9 h_10 dX10_fewestOf_68 ?_
        refine lv_iadd hx hb dX10_fewestOf_69 ?_
        refine pm_callS (As := [.int v5, .int ((1 : Int32) + (mI M q_9 (v4 &&& (v6 ^^^ (-1 : Int32))).toNatClampNeg))]) (rest := []) 2 E hI (k_J9_min_7cf53 hw) kc_J9_min_7cf53 kl_X10_217 kt_J9_min_7cf53 ki_J9 (by decide +kernel) ⟨by decide, by decide⟩ rfl hl.1 rfl (by first | exact Nat.le_of_ble_eq_true rfl | (simp only [List.map, pm_rf_cat]; exact Nat.le_of_ble_eq_true rfl)) dX10_fewestOf_70 ⟨by decide, by decide⟩ (fun r9 M9 H locs hp hX1 hI => ?_)
        clear hw
        obtain ⟨r_11, rfl, rfl, hw⟩ := hp
        refine pm_nrm (cells' := 0) (slots' := 0) (g2 := F0 m 73 ls [.int r_11]) rfl rfl rfl ?_
        refine lv_istore (lv' := [(5, .int r_11), (0, .ref (H0.size + v0)), (1, .int v1), (2, .int v2), (3, .int v3), (4, .int v4), (6, .int v6)]) hx hb dX10_fewestOf_73 hl (by decide) rfl (fun ls hl_12 => ?_)
        exact c_X10_fewestOf_75 E hret hk_9 ih hX hI t_v0 (lv_sub hl_12 [1, 2, 3, 4, 5, 0, 6] rfl) hw
set_option maxHeartbeats 4000000 in
set_option maxRecDepth 100000 in
theorem c_X10_fewestOf_9 {p : Program} {l : Launch} {e : Env} {s : State} {m : MethodId} {args : Array Value} {below : List Frame} {meth : Method} {c : Code} {G : pm_G} {H0 : Heap} {M0 : pm_M} {Post : Int32 → pm_M → Prop} {v0 : Nat} {v1 : Int32} (E : pm_E G p s m args meth c cX10_fewestOf 7 RX10) (hret : meth.sig.returnType = (some .int)) : ∀ (n : Nat) (v2 : Int32) (M : pm_M) (H : Heap) (locs : List Loc) (ls : Array Slot), pm_X M0 M → pm_I G H0 M H locs → (pm_is M v0 9) → lv_has ls 7 [(0, .ref (H0.size + v0)), (1, .int v1), (2, .int v2)] → w_X10_fewestOf_9 Post v0 v1 n v2 M → W p l e rm_X10_fewestOf s m args below meth c H locs 0 0 (pm_Z G H0 M0 (pm_Pi Post) below args s rm_X10_fewestOf.cells rm_X10_fewestOf.slots) (F0 m 9 ls []) := by
  have hx := E.1
  have hb := E.2.1
  have hown := E.2.2.2.1
  have hts := E.2.2.2.2.1
  intro n
  induction n with
  | zero =>
    intro v2 M H locs ls hX hI t_v0 hl hw
    unfold w_X10_fewestOf_9 at hw
    exact hw.elim
  | succ n ih =>
    intro v2 M H locs ls hX hI t_v0 hl hw
    unfold w_X10_fewestOf_9 at hw
    refine lv_iload_n hx hb dX10_fewestOf_9 rfl (lv_at hl 2 rfl) ?_
    refine lv_aload_n hx hb dX10_fewestOf_10 rfl (lv_at hl 0 rfl) ?_
    refine gf_X10_13 E hI t_v0 dX10_fewestOf_11 ?_
    refine lv_icmp_gt (tgt := 111) hx hb dX10_fewestOf_14 (by decide) (fun h_1 => ?_) (fun h_1 => ?_)
    · replace hw := hw.1 h_1
      refine lv_aload_n hx hb dX10_fewestOf_111 rfl (lv_at hl 0 rfl) ?_
      obtain ⟨q_2, e_q_2, hw⟩ := hw
      refine gf_X10_72 E hI t_v0 dX10_fewestOf_112 e_q_2 (fun t_q_2 => ?_)
      refine lv_aload_n hx hb dX10_fewestOf_115 rfl (lv_at hl 0 rfl) ?_
      refine gf_X10_13 E hI t_v0 dX10_fewestOf_116 ?_
      obtain ⟨h_3, hw⟩ := hw
      refine pm_bald E hI t_q_2 h_3 dX10_fewestOf_119 ?_
      exact pm_iret E hret hI hX ⟨_, rfl, hw⟩ (by decide) (by decide) dX10_fewestOf_120
    · replace hw := hw.2 h_1
      refine lv_iload_n hx hb dX10_fewestOf_17 rfl (lv_at hl 2 rfl) ?_
      refine lv_iload_n hx hb dX10_fewestOf_18 rfl (lv_at hl 2 rfl) ?_
      refine lv_ineg hx hb dX10_fewestOf_19 ?_
      refine lv_iand hx hb dX10_fewestOf_20 ?_
      refine lv_topi (fun x_4 e_x_4 => ?_)
      replace hw := hw x_4 e_x_4
      refine lv_istore_n (lv' := [(3, .int x_4), (0, .ref (H0.size + v0)), (1, .int v1), (2, .int v2)]) hx hb dX10_fewestOf_21 rfl hl (by decide) rfl (fun ls hl_5 => ?_)
      refine lv_iload_n hx hb dX10_fewestOf_22 rfl (lv_at hl_5 3 rfl) ?_
      refine lv_iload_n hx hb dX10_fewestOf_23 rfl (lv_at hl_5 0 rfl) ?_
      refine lv_iconst (v := (-1 : Int32)) hx hb dX10_fewestOf_24 (by decide) ?_
      refine lv_ixor hx hb dX10_fewestOf_25 ?_
      refine lv_iand hx hb dX10_fewestOf_26 ?_
      refine lv_topi (fun x_6 e_x_6 => ?_)
      replace hw := hw x_6 e_x_6
      refine lv_istore (lv' := [(4, .int x_6), (3, .int x_4), (0, .ref (H0.size + v0)), (1, .int v1), (2, .int v2)]) hx hb dX10_fewestOf_27 hl_5 (by decide) rfl (fun ls hl_7 => ?_)
      refine lv_bipush (v := (100 : Int32)) hx hb dX10_fewestOf_29 (by decide) ?_
      refine lv_istore (lv' := [(5, .int (100 : Int32)), (4, .int x_6), (3, .int x_4), (0, .ref (H0.size + v0)), (1, .int v1), (2, .int v2)]) hx hb dX10_fewestOf_31 hl_7 (by decide) rfl (fun ls hl_8 => ?_)
      refine lv_iload hx hb dX10_fewestOf_33 (lv_at hl_8 1 rfl) ?_
      refine lv_istore (lv' := [(6, .int x_6), (5, .int (100 : Int32)), (4, .int x_6), (3, .int x_4), (0, .ref (H0.size + v0)), (1, .int v1), (2, .int v2)]) hx hb dX10_fewestOf_35 hl_8 (by decide) rfl (fun ls hl_9 => ?_)
      obtain ⟨n_10, hw⟩ := hw
      exact c_X10_fewestOf_37 E hret ih n_10 _ _ _ _ _ hX hI t_v0 (lv_sub hl_9 [4, 5, 6, 3, 2, 1, 0] rfl) hw
set_option maxHeartbeats 4000000 in
set_option maxRecDepth 100000 in
theorem k_X10_fewestOf {l : Launch} {G : pm_G} {H0 : Heap} {th : Nat} {a1 : Int32} {M : pm_M} {Post : Int32 → pm_M → Prop} (t_th : pm_is M th 9) (hw : w_X10_fewestOf th a1 M Post) : pm_C l G H0 yX10_fewestOf cX10_fewestOf 7 (some .int) rm_X10_fewestOf [.ref (H0.size + th), .int a1] M (pm_Pi Post) := by
  refine pm_start (by decide +kernel) (Nat.le_of_ble_eq_true rfl) ?_
  intro p e s m args below meth c H ls E hret hnm hI hl
  have hX : pm_X M M := pm_X.rf
  have hl : lv_has ls 7 [(0, .ref (H0.size + th)), (1, .int a1)] := hl
  have hx := E.1
  have hb := E.2.1
  have hown := E.2.2.2.1
  have hts := E.2.2.2.2.1
  unfold w_X10_fewestOf at hw
  refine lv_aload_n hx hb dX10_fewestOf_0 rfl (lv_at hl 0 rfl) ?_
  obtain ⟨q_1, e_q_1, hw⟩ := hw
  refine gf_X10_72 E hI t_th dX10_fewestOf_1 e_q_1 (fun t_q_1 => ?_)
  refine lv_iconst (v := (0 : Int32)) hx hb dX10_fewestOf_4 (by decide) ?_
  refine lv_iconst (v := (0 : Int32)) hx hb dX10_fewestOf_5 (by decide) ?_
  obtain ⟨h_2, hw⟩ := hw
  refine ps_bast E hI t_q_1 h_2 dX10_fewestOf_6 (fun H locs M_3 e_M_3 hX1 hI => ?_)
  replace hw := hw M_3 e_M_3
  replace t_th := t_th.x hX1
  replace hX := hX.tr hX1
  refine lv_iconst (v := (1 : Int32)) hx hb dX10_fewestOf_7 (by decide) ?_
  refine lv_istore_n (lv' := [(2, .int (1 : Int32)), (0, .ref (H0.size + th)), (1, .int a1)]) hx hb dX10_fewestOf_8 rfl hl (by decide) rfl (fun ls hl_4 => ?_)
  obtain ⟨n_5, hw⟩ := hw
  exact c_X10_fewestOf_9 E hret n_5 _ _ _ _ _ hX hI t_th (lv_sub hl_4 [1, 2, 0] rfl) hw
