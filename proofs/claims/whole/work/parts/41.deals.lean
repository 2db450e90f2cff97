set_option maxHeartbeats 4000000 in
set_option maxRecDepth 100000 in
theorem c_X10_deals_119 {p : Program} {d9 : Nat} {R9 : Nat → Int32 → Int32 → Int32 → pm_M → (Int32 → pm_M → Prop) → Prop} {l : Launch} {e : Env} {s : State} {m : MethodId} {args : Array Value} {below : List Frame} {meth : Method} {c : Code} {G : pm_G} {H0 : Heap} {M0 : pm_M} {Post : Int32 → pm_M → Prop} {M : pm_M} (E : pm_E G p s m args meth c cX10_deals 6 RX10) (hret : meth.sig.returnType = (some .boolean)) (hR9 : ∀ (th : Nat) (a1 a2 a3 : Int32) (M : pm_M) (Post : Int32 → pm_M → Prop), pm_is M th 9 → R9 th a1 a2 a3 M Post → pm_C l G H0 yX10_deals cX10_deals 6 (some .boolean) (rm_deals d9) [.ref (H0.size + th), .int a1, .int a2, .int a3] M (pm_Pi Post)) {H : Heap} {locs : List Loc} {ls : Array Slot} (hX : pm_X M0 M) (hI : pm_I G H0 M H locs) (hl : lv_has ls 6 []) (hw : w_X10_deals_119 R9 Post M) : W p l e (rm_deals (d9 + 1)) s m args below meth c H locs 0 0 (pm_Z G H0 M0 (pm_Pi Post) below args s (rm_deals (d9 + 1)).cells (rm_deals (d9 + 1)).slots) (F0 m 119 ls []) := by
  have hx := E.1
  have hb := E.2.1
  have hown := E.2.2.2.1
  have hts := E.2.2.2.2.1
  unfold w_X10_deals_119 at hw
  refine lv_iconst (v := (0 : Int32)) hx hb dX10_deals_119 (by decide) ?_
  exact pm_zret E hret hI hX rfl ⟨_, rfl, hw⟩ (Nat.zero_le _) (Nat.zero_le _) dX10_deals_120
set_option maxHeartbeats 4000000 in
set_option maxRecDepth 100000 in
theorem c_X10_deals_113 {p : Program} {d9 : Nat} {R9 : Nat → Int32 → Int32 → Int32 → pm_M → (Int32 → pm_M → Prop) → Prop} {l : Launch} {e : Env} {s : State} {m : MethodId} {args : Array Value} {below : List Frame} {meth : Method} {c : Code} {G : pm_G} {H0 : Heap} {M0 : pm_M} {Post : Int32 → pm_M → Prop} {v0 : Nat} {v1 : Int32} {v2 : Int32} {v3 : Int32} {v4 : Int32} {v5 : Int32} {M : pm_M} {k_16 : Int32 → Int32 → pm_M → Prop} (E : pm_E G p s m args meth c cX10_deals 6 RX10) (hret : meth.sig.returnType = (some .boolean)) (hR9 : ∀ (th : Nat) (a1 a2 a3 : Int32) (M : pm_M) (Post : Int32 → pm_M → Prop), pm_is M th 9 → R9 th a1 a2 a3 M Post → pm_C l G H0 yX10_deals cX10_deals 6 (some .boolean) (rm_deals d9) [.ref (H0.size + th), .int a1, .int a2, .int a3] M (pm_Pi Post)) (hk_16 : ∀ (v4 : Int32) (v5 : Int32) (M : pm_M) (H : Heap) (locs : List Loc) (ls : Array Slot), pm_X M0 M → pm_I G H0 M H locs → (pm_is M v0 9) → lv_has ls 6 [(0, .ref (H0.size + v0)), (1, .int v1), (2, .int v2), (3, .int v3), (4, .int v4), (5, .int v5)] → k_16 v4 v5 M → W p l e (rm_deals (d9 + 1)) s m args below meth c H locs 0 0 (pm_Z G H0 M0 (pm_Pi Post) below args s (rm_deals (d9 + 1)).cells (rm_deals (d9 + 1)).slots) (F0 m 16 ls [])) {H : Heap} {locs : List Loc} {ls : Array Slot} (hX : pm_X M0 M) (hI : pm_I G H0 M H locs) (t_v0 : pm_is M v0 9) (hl : lv_has ls 6 [(0, .ref (H0.size + v0)), (1, .int v1), (2, .int v2), (3, .int v3), (4, .int v4), (5, .int v5)]) (hw : w_X10_deals_113 R9 Post k_16 v0 v1 v2 v3 v4 v5 M) : W p l e (rm_deals (d9 + 1)) s m args below meth c H locs 0 0 (pm_Z G H0 M0 (pm_Pi Post) below args s (rm_deals (d9 + 1)).cells (rm_deals (d9 + 1)).slots) (F0 m 113 ls []) := by
  have hx := E.1
  have hb := E.2.1
  have hown := E.2.2.2.1
  have hts := E.2.2.2.2.1
  unfold w_X10_deals_113 at hw
  obtain ⟨x_1, e_x_1⟩ : ∃ z : Int32, z = v5 + (1 : Int32) := ⟨_, rfl⟩
  refine lv_iinc (v := x_1) (lv' := [(5, .int x_1), (0, .ref (H0.size + v0)), (1, .int v1), (2, .int v2), (3, .int v3), (4, .int v4)]) hx hb dX10_deals_113 hl (k := 5) rfl (by rw [e_x_1]; rfl) (by decide) rfl (fun ls hl_2 => ?_)
  replace hw := hw x_1 e_x_1
  refine lv_goto (tgt := 16) hx hb dX10_deals_116 (by decide) ?_
  exact hk_16 _ _ _ _ _ _ hX hI t_v0 (lv_sub hl_2 [1, 2, 3, 4, 5, 0] rfl) hw
set_option maxHeartbeats 4000000 in
set_option maxRecDepth 100000 in
theorem c_X10_deals_42 {p : Program} {d9 : Nat} {R9 : Nat → Int32 → Int32 → Int32 → pm_M → (Int32 → pm_M → Prop) → Prop} {l : Launch} {e : Env} {s : State} {m : MethodId} {args : Array Value} {below : List Frame} {meth : Method} {c : Code} {G : pm_G} {H0 : Heap} {M0 : pm_M} {Post : Int32 → pm_M → Prop} {v0 : Nat} {v1 : Int32} {v2 : Int32} {v3 : Int32} {v5 : Int32} {s0 : Int32} {M : pm_M} {k_16 : Int32 → Int32 → pm_M → Prop} (E : pm_E G p s m args meth c cX10_deals 6 RX10) (hret : meth.sig.returnType = (some .boolean)) (hR9 : ∀ (th : Nat) (a1 a2 a3 : Int32) (M : pm_M) (Post : Int32 → pm_M → Prop), pm_is M th 9 → R9 th a1 a2 a3 M Post → pm_C l G H0 yX10_deals cX10_deals 6 (some .boolean) (rm_deals d9) [.ref (H0.size + th), .int a1, .int a2, .int a3] M (pm_Pi Post)) (hk_16 : ∀ (v4 : Int32) (v5 : Int32) (M : pm_M) (H : Heap) (locs : List Loc) (ls : Array Slot), pm_X M0 M → pm_I G H0 M H locs → (pm_is M v0 9) → lv_has ls 6 [(0, .ref (H0.size + v0)), (1, .int v1), (2, .int v2), (3, .int v3), (4, .int v4), (5, .int v5)] → k_16 v4 v5 M → W p l e (rm_deals (d9 + 1)) s m args below meth c H locs 0 0 (pm_Z G H0 M0 (pm_Pi Post) below args s (rm_deals (d9 + 1)).cells (rm_deals (d9 + 1)).slots) (F0 m 16 ls [])) {H : Heap} {locs : List Loc} {ls : Array Slot} (hX : pm_X M0 M) (hI : pm_I G H0 M H locs) (t_v0 : pm_is M v0 9) (hl : lv_has ls 6 [(0, .ref (H0.size + v0)), (1, .int v1), (2, .int v2), (3, .int v3), (5, .int v5)]) (hw : w_X10_deals_42 R9 Post k_16 v0 v1 v2 v3 v5 s0 M) : W p l e (rm_deals (d9 + 1)) s m args below meth c H locs 0 0 (pm_Z G H0 M0 (pm_Pi Post) below args s (rm_deals (d9 + 1)).cells (rm_deals (d9 + 1)).slots) (F0 m 42 ls [.int s0]) := by
  have hx := E.1
  have hb := E.2.1
  have hown := E.2.2.2.1
  have hts := E.2.2.2.2.1
  unfold w_X10_deals_42 at hw
  refine lv_istore (lv' := [(4, .int s0), (0, .ref (H0.size + v0)), (1, .int v1), (2, .int v2), (3, .int v3), (5, .int v5)]) hx hb dX10_deals_42 hl (by decide) rfl (fun ls hl_1 => ?_)
  refine lv_aload_n hx hb dX10_deals_44 rfl (lv_at hl_1 1 rfl) ?_
  refine lv_iload_n hx hb dX10_deals_45 rfl (lv_at hl_1 2 rfl) ?_
  refine lv_aload_n hx hb dX10_deals_46 rfl (lv_at hl_1 1 rfl) ?_
  obtain ⟨q_2, e_q_2, hw⟩ := hw
  refine gf_X10_78 E hI t_v0 dX10_deals_47 e_q_2 (fun t_q_2 => ?_)
  refine lv_iload hx hb dX10_deals_50 (lv_at hl_1 5 rfl) ?_
  obtain ⟨h_3, hw⟩ := hw
  refine pm_iald E hI t_q_2 h_3 dX10_deals_52 ?_
  refine lv_iconst (v := (1 : Int32)) hx hb dX10_deals_53 (by decide) ?_
  refine lv_iload_n hx hb dX10_deals_54 rfl (lv_at hl_1 3 rfl) ?_
  refine lv_ishl hx hb dX10_deals_55 ?_
  refine lv_ior hx hb dX10_deals_56 ?_
  refine pm_callV (As := [.int v1, .int ((mI M q_2 v5.toNatClampNeg) ||| ((1 : Int32) <<< (v2 &&& 31)))]) (rest := []) 2 E hI (k_X10_isAllowed t_v0 hw) t_v0 (by decide) rfl kc_X10_isAllowed kl_X10_100 km_X10_isAllowed ks_X10_isAllowed ki_X10 (by decide +kernel) ⟨by show 0 + 1 ≤ d9 + 1 + 1; omega, by show 8 + (3 + 11) + 0 ≤ 100 + 40 * (d9 + 1); omega⟩ rfl hl_1.1 rfl (by first | exact Nat.le_of_ble_eq_true rfl | (simp only [List.map, pm_rf_cat]; exact Nat.le_of_ble_eq_true rfl)) dX10_deals_57 ⟨Nat.le_refl 0, Nat.le_refl 0⟩ (fun r9 M9 H locs hp hX1 hI => ?_)
  clear hw
  obtain ⟨r_4, rfl, rfl, hw⟩ := hp
  refine pm_nrm (cells' := 0) (slots' := 0) (g2 := F0 m 60 ls [.int r_4]) rfl rfl rfl ?_
  refine lv_if_eq (tgt := 113) hx hb dX10_deals_60 (by decide) (fun h_5 => ?_) (fun h_5 => ?_)
  · replace hw := hw.1 h_5
    exact c_X10_deals_113 E hret hR9 hk_16 hX hI t_v0 (lv_sub hl_1 [1, 2, 3, 4, 0, 5] rfl) hw
  · replace hw := hw.2 h_5
    refine lv_aload_n hx hb dX10_deals_63 rfl (lv_at hl_1 1 rfl) ?_
    obtain ⟨q_6, e_q_6, hw⟩ := hw
    refine gf_X10_75 E hI t_v0 dX10_deals_64 e_q_6 (fun t_q_6 => ?_)
    refine lv_iload_n hx hb dX10_deals_67 rfl (lv_at hl_1 3 rfl) ?_
    refine lv_iload hx hb dX10_deals_68 (lv_at hl_1 5 rfl) ?_
    obtain ⟨h_7, hw⟩ := hw
    refine ps_iast E hI t_q_6 h_7 dX10_deals_70 (fun H locs M_8 e_M_8 hX1 hI => ?_)
    replace hw := hw M_8 e_M_8
    replace t_v0 := t_v0.x hX1
    replace hX := hX.tr hX1
    refine lv_aload_n hx hb dX10_deals_71 rfl (lv_at hl_1 1 rfl) ?_
    obtain ⟨q_9, e_q_9, hw⟩ := hw
    refine gf_X10_78 E hI t_v0 dX10_deals_72 e_q_9 (fun t_q_9 => ?_)
    refine lv_iload hx hb dX10_deals_75 (lv_at hl_1 5 rfl) ?_
    refine lv_dup2_11 hx hb dX10_deals_77 rfl rfl ?_
    obtain ⟨h_10, hw⟩ := hw
    refine pm_iald E hI t_q_9 h_10 dX10_deals_78 ?_
    refine lv_iconst (v := (1 : Int32)) hx hb dX10_deals_79 (by decide) ?_
    refine lv_iload_n hx hb dX10_deals_80 rfl (lv_at hl_1 3 rfl) ?_
    refine lv_ishl hx hb dX10_deals_81 ?_
    refine lv_ior hx hb dX10_deals_82 ?_
    obtain ⟨h_11, hw⟩ := hw
    refine ps_iast E hI t_q_9 h_11 dX10_deals_83 (fun H locs M_12 e_M_12 hX1 hI => ?_)
    replace hw := hw M_12 e_M_12
    replace t_v0 := t_v0.x hX1
    replace hX := hX.tr hX1
    refine lv_aload_n hx hb dX10_deals_84 rfl (lv_at hl_1 1 rfl) ?_
    refine lv_iload_n hx hb dX10_deals_85 rfl (lv_at hl_1 2 rfl) ?_
    refine lv_iload_n hx hb dX10_deals_86 rfl (lv_at hl_1 3 rfl) ?_
    refine lv_iconst (v := (1 : Int32)) hx hb dX10_deals_87 (by decide) ?_
    refine lv_iadd hx hb dX10_deals_88 ?_
    refine lv_iload_n hx hb dX10_deals_89 rfl (lv_at hl_1 4 rfl) ?_
    refine pm_callV (As := [.int v1, .int (v2 + (1 : Int32)), .int v3]) (rest := []) 3 E hI (hR9 _ _ _ _ _ _ t_v0 hw) t_v0 (by decide) rfl kc_X10_deals kl_X10_226 km_X10_deals ks_X10_deals ki_X10 (by decide +kernel) ⟨by show d9 + 1 + 1 ≤ d9 + 1 + 1; omega, by show 8 + (6 + 11) + (100 + 40 * d9) ≤ 100 + 40 * (d9 + 1); omega⟩ rfl hl_1.1 rfl (by first | exact Nat.le_of_ble_eq_true rfl | (simp only [List.map, pm_rf_cat]; exact Nat.le_of_ble_eq_true rfl)) dX10_deals_90 ⟨Nat.le_refl 0, Nat.le_refl 0⟩ (fun r9 M_13 H locs hp hX1 hI => ?_)
    clear hw
    obtain ⟨r_14, rfl, hw⟩ := hp
    replace t_v0 := t_v0.x hX1
    replace hX := hX.tr hX1
    refine pm_nrm (cells' := 0) (slots' := 0) (g2 := F0 m 93 ls [.int r_14]) rfl rfl rfl ?_
    refine lv_if_eq (tgt := 98) hx hb dX10_deals_93 (by decide) (fun h_15 => ?_) (fun h_15 => ?_)
    · replace hw := hw.1 h_15
      refine lv_aload_n hx hb dX10_deals_98 rfl (lv_at hl_1 1 rfl) ?_
      obtain ⟨q_16, e_q_16, hw⟩ := hw
      refine gf_X10_78 E hI t_v0 dX10_deals_99 e_q_16 (fun t_q_16 => ?_)
      refine lv_iload hx hb dX10_deals_102 (lv_at hl_1 5 rfl) ?_
      refine lv_dup2_11 hx hb dX10_deals_104 rfl rfl ?_
      obtain ⟨h_17, hw⟩ := hw
      refine pm_iald E hI t_q_16 h_17 dX10_deals_105 ?_
      refine lv_iconst (v := (1 : Int32)) hx hb dX10_deals_106 (by decide) ?_
      refine lv_iload_n hx hb dX10_deals_107 rfl (lv_at hl_1 3 rfl) ?_
      refine lv_ishl hx hb dX10_deals_108 ?_
      refine lv_iconst (v := (-1 : Int32)) hx hb dX10_deals_109 (by decide) ?_
      refine lv_ixor hx hb dX10_deals_110 ?_
      refine lv_iand hx hb dX10_deals_111 ?_
      obtain ⟨h_18, hw⟩ := hw
      refine ps_iast E hI t_q_16 h_18 dX10_deals_112 (fun H locs M_19 e_M_19 hX1 hI => ?_)
      replace hw := hw M_19 e_M_19
      replace t_v0 := t_v0.x hX1
      replace hX := hX.tr hX1
      exact c_X10_deals_113 E hret hR9 hk_16 hX hI t_v0 (lv_sub hl_1 [1, 2, 3, 4, 0, 5] rfl) hw
    · replace hw := hw.2 h_15
      refine lv_iconst (v := (1 : Int32)) hx hb dX10_deals_96 (by decide) ?_
      exact pm_zret E hret hI hX rfl ⟨_, rfl, hw⟩ (Nat.zero_le _) (Nat.zero_le _) dX10_deals_97
set_option maxHeartbeats 4000000 in
set_option maxRecDepth 100000 in
theorem c_X10_deals_16 {p : Program} {d9 : Nat} {R9 : Nat → Int32 → Int32 → Int32 → pm_M → (Int32 → pm_M → Prop) → Prop} {l : Launch} {e : Env} {s : State} {m : MethodId} {args : Array Value} {below : List Frame} {meth : Method} {c : Code} {G : pm_G} {H0 : Heap} {M0 : pm_M} {Post : Int32 → pm_M → Prop} {v0 : Nat} {v1 : Int32} {v2 : Int32} {v3 : Int32} (E : pm_E G p s m args meth c cX10_deals 6 RX10) (hret : meth.sig.returnType = (some .boolean)) (hR9 : ∀ (th : Nat) (a1 a2 a3 : Int32) (M : pm_M) (Post : Int32 → pm_M → Prop), pm_is M th 9 → R9 th a1 a2 a3 M Post → pm_C l G H0 yX10_deals cX10_deals 6 (some .boolean) (rm_deals d9) [.ref (H0.size + th), .int a1, .int a2, .int a3] M (pm_Pi Post)) : ∀ (n : Nat) (v4 : Int32) (v5 : Int32) (M : pm_M) (H : Heap) (locs : List Loc) (ls : Array Slot), pm_X M0 M → pm_I G H0 M H locs → (pm_is M v0 9) → lv_has ls 6 [(0, .ref (H0.size + v0)), (1, .int v1), (2, .int v2), (3, .int v3), (4, .int v4), (5, .int v5)] → w_X10_deals_16 R9 Post v0 v1 v2 v3 n v4 v5 M → W p l e (rm_deals (d9 + 1)) s m args below meth c H locs 0 0 (pm_Z G H0 M0 (pm_Pi Post) below args s (rm_deals (d9 + 1)).cells (rm_deals (d9 + 1)).slots) (F0 m 16 ls []) := by
  have hx := E.1
  have hb := E.2.1
  have hown := E.2.2.2.1
  have hts := E.2.2.2.2.1
  intro n
  induction n with
  | zero =>
    intro v4 v5 M H locs ls hX hI t_v0 hl hw
    unfold w_X10_deals_16 at hw
    exact hw.elim
  | succ n ih =>
    intro v4 v5 M H locs ls hX hI t_v0 hl hw
    unfold w_X10_deals_16 at hw
    refine lv_iload hx hb dX10_deals_16 (lv_at hl 5 rfl) ?_
    refine lv_iload_n hx hb dX10_deals_18 rfl (lv_at hl 3 rfl) ?_
    refine lv_icmp_ge (tgt := 119) hx hb dX10_deals_19 (by decide) (fun h_1 => ?_) (fun h_1 => ?_)
    · replace hw := hw.1 h_1
      exact c_X10_deals_119 E hret hR9 hX hI (lv_sub hl [] rfl) hw
    · replace hw := hw.2 h_1
      refine lv_iload hx hb dX10_deals_22 (lv_at hl 4 rfl) ?_
      refine lv_if_ne (tgt := 119) hx hb dX10_deals_24 (by decide) (fun h_2 => ?_) (fun h_2 => ?_)
      · replace hw := hw.1 h_2
        exact c_X10_deals_119 E hret hR9 hX hI (lv_sub hl [] rfl) hw
      · replace hw := hw.2 h_2
        refine lv_aload_n hx hb dX10_deals_27 rfl (lv_at hl 0 rfl) ?_
        obtain ⟨q_3, e_q_3, hw⟩ := hw
        refine gf_X10_78 E hI t_v0 dX10_deals_28 e_q_3 (fun t_q_3 => ?_)
        refine lv_iload hx hb dX10_deals_31 (lv_at hl 5 rfl) ?_
        obtain ⟨h_4, hw⟩ := hw
        refine pm_iald E hI t_q_3 h_4 dX10_deals_33 ?_
        refine lv_if_ne (tgt := 41) hx hb dX10_deals_34 (by decide) (fun h_5 => ?_) (fun h_5 => ?_)
        · replace hw := hw.1 h_5
          refine lv_iconst (v := (0 : Int32)) hx hb dX10_deals_41 (by decide) ?_
          exact c_X10_deals_42 E hret hR9 ih hX hI t_v0 (lv_sub hl [0, 1, 2, 3, 5] rfl) hw
        · replace hw := hw.2 h_5
          refine lv_iconst (v := (1 : Int32)) hx hb dX10_deals_37 (by decide) ?_
          refine lv_goto (tgt := 42) hx hb dX10_deals_38 (by decide) ?_
          exact c_X10_deals_42 E hret hR9 ih hX hI t_v0 (lv_sub hl [0, 1, 2, 3, 5] rfl) hw
set_option maxHeartbeats 4000000 in
set_option maxRecDepth 100000 in
theorem k_X10_deals {l : Launch} {G : pm_G} {H0 : Heap} : ∀ (d9 : Nat) (th : Nat) (a1 a2 a3 : Int32) (M : pm_M) (Post : Int32 → pm_M → Prop), pm_is M th 9 → w_X10_deals d9 th a1 a2 a3 M Post → pm_C l G H0 yX10_deals cX10_deals 6 (some .boolean) (rm_deals d9) [.ref (H0.size + th), .int a1, .int a2, .int a3] M (pm_Pi Post) := by
  intro d9
  induction d9 with
  | zero => intro th a1 a2 a3 M Post t_th hw; unfold w_X10_deals at hw; exact hw.elim
  | succ d9 hR9 =>
    intro th a1 a2 a3 M Post t_th hw
    refine pm_start (by decide +kernel) (Nat.le_of_ble_eq_true rfl) ?_
    intro p e s m args below meth c H ls E hret hnm hI hl
    have hX : pm_X M M := pm_X.rf
    have hl : lv_has ls 6 [(0, .ref (H0.size + th)), (1, .int a1), (2, .int a2), (3, .int a3)] := hl
    have hx := E.1
    have hb := E.2.1
    have hown := E.2.2.2.1
    have hts := E.2.2.2.2.1
    unfold w_X10_deals at hw
    refine lv_iload_n hx hb dX10_deals_0 rfl (lv_at hl 2 rfl) ?_
    refine lv_aload_n hx hb dX10_deals_1 rfl (lv_at hl 0 rfl) ?_
    refine gf_X10_7 E hI t_th dX10_deals_2 ?_
    refine lv_icmp_ne (tgt := 10) hx hb dX10_deals_5 (by decide) (fun h_1 => ?_) (fun h_1 => ?_)
    · replace hw := hw.1 h_1
      refine lv_iconst (v := (0 : Int32)) hx hb dX10_deals_10 (by decide) ?_
      refine lv_istore (lv' := [(4, .int (0 : Int32)), (0, .ref (H0.size + th)), (1, .int a1), (2, .int a2), (3, .int a3)]) hx hb dX10_deals_11 hl (by decide) rfl (fun ls hl_2 => ?_)
      refine lv_iconst (v := (0 : Int32)) hx hb dX10_deals_13 (by decide) ?_
      refine lv_istore (lv' := [(5, .int (0 : Int32)), (4, .int (0 : Int32)), (0, .ref (H0.size + th)), (1, .int a1), (2, .int a2), (3, .int a3)]) hx hb dX10_deals_14 hl_2 (by decide) rfl (fun ls hl_3 => ?_)
      obtain ⟨n_4, hw⟩ := hw
      exact c_X10_deals_16 E hret hR9 n_4 _ _ _ _ _ _ hX hI t_th (lv_sub hl_3 [2, 3, 4, 5, 1, 0] rfl) hw
    · replace hw := hw.2 h_1
      refine lv_iconst (v := (1 : Int32)) hx hb dX10_deals_8 (by decide) ?_
      exact pm_zret E hret hI hX rfl ⟨_, rfl, hw⟩ (Nat.zero_le _) (Nat.zero_le _) dX10_deals_9
set_option maxHeartbeats 4000000 in
set_option maxRecDepth 100000 in
theorem c_X10_dealt_83 {p : Program} {l : Launch} {e : Env} {s : State} {m : MethodId} {args : Array Value} {below : List Frame} {meth : Method} {c : Code} {G : pm_G} {H0 : Heap} {M0 : pm_M} {Post : Int32 → pm_M → Prop} {s0 : Int32} {M : pm_M} (E : pm_E G p s m args meth c cX10_dealt 6 RX10) (hret : meth.sig.returnType = (some .int)) {H : Heap} {locs : List Loc} {ls : Array Slot} (hX : pm_X M0 M) (hI : pm_I G H0 M H locs) (hl : lv_has ls 6 []) (hw : w_X10_dealt_83 Post s0 M) : W p l e rm_X10_dealt s m args below meth c H locs 0 0 (pm_Z G H0 M0 (pm_Pi Post) below args s rm_X10_dealt.cells rm_X10_dealt.slots) (F0 m 83 ls [.int s0]) := by
  have hx := E.1
  have hb := E.2.1
  have hown := E.2.2.2.1
  have hts := E.2.2.2.2.1
  unfold w_X10_dealt_83 at hw
  exact pm_iret E hret hI hX ⟨_, rfl, hw⟩ (by decide) (by decide) dX10_dealt_83
set_option maxHeartbeats 4000000 in
set_option maxRecDepth 100000 in
theorem c_X10_dealt_37 {p : Program} {l : Launch} {e : Env} {s : State} {m : MethodId} {args : Array Value} {below : List Frame} {meth : Method} {c : Code} {G : pm_G} {H0 : Heap} {M0 : pm_M} {Post : Int32 → pm_M → Prop} {v0 : Nat} {v1 : Int32} {v2 : Int32} {v4 : Int32} (E : pm_E G p s m args meth c cX10_dealt 6 RX10) (hret : meth.sig.returnType = (some .int)) : ∀ (n : Nat) (v5 : Int32) (M : pm_M) (H : Heap) (locs : List Loc) (ls : Array Slot), pm_X M0 M → pm_I G H0 M H locs → (pm_is M v0 9) → lv_has ls 6 [(0, .ref (H0.size + v0)), (1, .int v1), (2, .int v2), (4, .int v4), (5, .int v5)] → w_X10_dealt_37 Post v0 v1 v2 v4 n v5 M → W p l e rm_X10_dealt s m args below meth c H locs 0 0 (pm_Z G H0 M0 (pm_Pi Post) below args s rm_X10_dealt.cells rm_X10_dealt.slots) (F0 m 37 ls []) := by
  have hx := E.1
  have hb := E.2.1
  have hown := E.2.2.2.1
  have hts := E.2.2.2.2.1
  intro n
  induction n with
  | zero =>
    intro v5 M H locs ls hX hI t_v0 hl hw
    unfold w_X10_dealt_37 at hw
    exact hw.elim
  | succ n ih =>
    intro v5 M H locs ls hX hI t_v0 hl hw
    unfold w_X10_dealt_37 at hw
    refine lv_iload hx hb dX10_dealt_37 (lv_at hl 4 rfl) ?_
    refine lv_bipush (v := (12 : Int32)) hx hb dX10_dealt_39 (by decide) ?_
    refine lv_icmp_ge (tgt := 58) hx hb dX10_dealt_41 (by decide) (fun h_1 => ?_) (fun h_1 => ?_)
    · replace hw := hw.1 h_1
      refine lv_aload_n hx hb dX10_dealt_58 rfl (lv_at hl 0 rfl) ?_
      refine lv_iload_n hx hb dX10_dealt_59 rfl (lv_at hl 1 rfl) ?_
      refine lv_iconst (v := (0 : Int32)) hx hb dX10_dealt_60 (by decide) ?_
      refine lv_iload hx hb dX10_dealt_61 (lv_at hl 3 rfl) ?_
      refine pm_callV (As := [.int v1, .int (0 : Int32), .int v4]) (rest := []) 3 E hI (k_X10_deals 14 _ _ _ _ _ _ t_v0 hw) t_v0 (by decide) rfl kc_X10_deals kl_X10_226 km_X10_deals ks_X10_deals ki_X10 (by decide +kernel) ⟨by decide, by decide⟩ rfl hl.1 rfl (by first | exact Nat.le_of_ble_eq_true rfl | (simp only [List.map, pm_rf_cat]; exact Nat.le_of_ble_eq_true rfl)) dX10_dealt_63 ⟨by decide, by decide⟩ (fun r9 M_2 H locs hp hX1 hI => ?_)
      clear hw
      obtain ⟨r_3, rfl, hw⟩ := hp
      replace t_v0 := t_v0.x hX1
      replace hX := hX.tr hX1
      refine pm_nrm (cells' := 0) (slots' := 0) (g2 := F0 m 66 ls [.int r_3]) rfl rfl rfl ?_
      refine lv_istore (lv' := [(5, .int r_3), (0, .ref (H0.size + v0)), (1, .int v1), (2, .int v2), (4, .int v4)]) hx hb dX10_dealt_66 hl (by decide) rfl (fun ls hl_4 => ?_)
      refine lv_iload hx hb dX10_dealt_68 (lv_at hl_4 0 rfl) ?_
      refine lv_if_eq (tgt := 82) hx hb dX10_dealt_70 (by decide) (fun h_5 => ?_) (fun h_5 => ?_)
      · replace hw := hw.1 h_5
        refine lv_iconst (v := (-1 : Int32)) hx hb dX10_dealt_82 (by decide) ?_
        exact c_X10_dealt_83 E hret hX hI (lv_sub hl_4 [] rfl) hw
      · replace hw := hw.2 h_5
        refine lv_aload_n hx hb dX10_dealt_73 rfl (lv_at hl_4 1 rfl) ?_
        obtain ⟨q_6, e_q_6, hw⟩ := hw
        refine gf_X10_75 E hI t_v0 dX10_dealt_74 e_q_6 (fun t_q_6 => ?_)
        refine lv_iload_n hx hb dX10_dealt_77 rfl (lv_at hl_4 3 rfl) ?_
        obtain ⟨h_7, hw⟩ := hw
        refine pm_iald E hI t_q_6 h_7 dX10_dealt_78 ?_
        refine lv_goto (tgt := 83) hx hb dX10_dealt_79 (by decide) ?_
        exact c_X10_dealt_83 E hret hX hI (lv_sub hl_4 [] rfl) hw
    · replace hw := hw.2 h_1
      refine lv_aload_n hx hb dX10_dealt_44 rfl (lv_at hl 0 rfl) ?_
      obtain ⟨q_8, e_q_8, hw⟩ := hw
      refine gf_X10_78 E hI t_v0 dX10_dealt_45 e_q_8 (fun t_q_8 => ?_)
      refine lv_iload hx hb dX10_dealt_48 (lv_at hl 4 rfl) ?_
      refine lv_iconst (v := (0 : Int32)) hx hb dX10_dealt_50 (by decide) ?_
      obtain ⟨h_9, hw⟩ := hw
      refine ps_iast E hI t_q_8 h_9 dX10_dealt_51 (fun H locs M_10 e_M_10 hX1 hI => ?_)
      replace hw := hw M_10 e_M_10
      replace t_v0 := t_v0.x hX1
      replace hX := hX.tr hX1
      obtain ⟨x_11, e_x_11⟩ : ∃ z : Int32, z = v5 + (1 : Int32) := ⟨_, rfl⟩
      refine lv_iinc (v := x_11) (lv' := [(5, .int x_11), (0, .ref (H0.size + v0)), (1, .int v1), (2, .int v2), (4, .int v4)]) hx hb dX10_dealt_52 hl (k := 4) rfl (by rw [e_x_11]; rfl) (by decide) rfl (fun ls hl_12 => ?_)
      replace hw := hw x_11 e_x_11
      refine lv_goto (tgt := 37) hx hb dX10_dealt_55 (by decide) ?_
      exact ih _ _ _ _ _ hX hI t_v0 (lv_sub hl_12 [1, 2, 3, 4, 0] rfl) hw
set_option maxHeartbeats 4000000 in
set_option maxRecDepth 100000 in
theorem c_X10_dealt_19 {p : Program} {l : Launch} {e : Env} {s : State} {m : MethodId} {args : Array Value} {below : List Frame} {meth : Method} {c : Code} {G : pm_G} {H0 : Heap} {M0 : pm_M} {Post : Int32 → pm_M → Prop} {M : pm_M} (E : pm_E G p s m args meth c cX10_dealt 6 RX10) (hret : meth.sig.returnType = (some .int)) {H : Heap} {locs : List Loc} {ls : Array Slot} (hX : pm_X M0 M) (hI : pm_I G H0 M H locs) (hl : lv_has ls 6 []) (hw : w_X10_dealt_19 Post M) : W p l e rm_X10_dealt s m args below meth c H locs 0 0 (pm_Z G H0 M0 (pm_Pi Post) below args s rm_X10_dealt.cells rm_X10_dealt.slots) (F0 m 19 ls []) := by
  have hx := E.1
  have hb := E.2.1
  have hown := E.2.2.2.1
  have hts := E.2.2.2.2.1
  unfold w_X10_dealt_19 at hw
  refine lv_iconst (v := (-1 : Int32)) hx hb dX10_dealt_19 (by decide) ?_
  exact pm_iret E hret hI hX ⟨_, rfl, hw⟩ (by decide) (by decide) dX10_dealt_20
set_option maxHeartbeats 4000000 in
set_option maxRecDepth 100000 in
theorem k_X10_dealt {l : Launch} {G : pm_G} {H0 : Heap} {th : Nat} {a1 : Int32} {a2 : Int32} {M : pm_M} {Post : Int32 → pm_M → Prop} (t_th : pm_is M th 9) (hw : w_X10_dealt th a1 a2 M Post) : pm_C l G H0 yX10_dealt cX10_dealt 6 (some .int) rm_X10_dealt [.ref (H0.size + th), .int a1, .int a2] M (pm_Pi Post) := by
  refine pm_start (by decide +kernel) (Nat.le_of_ble_eq_true rfl) ?_
  intro p e s m args below meth c H ls E hret hnm hI hl
  have hX : pm_X M M := pm_X.rf
  have hl : lv_has ls 6 [(0, .ref (H0.size + th)), (1, .int a1), (2, .int a2)] := hl
  have hx := E.1
  have hb := E.2.1
  have hown := E.2.2.2.1
  have hts := E.2.2.2.2.1
  unfold w_X10_dealt at hw
  refine lv_aload_n hx hb dX10_dealt_0 rfl (lv_at hl 0 rfl) ?_
  refine lv_iload_n hx hb dX10_dealt_1 rfl (lv_at hl 1 rfl) ?_
  refine pm_callV (As := [.int a1]) (rest := []) 1 E hI (k_X10_undealt t_th hw) t_th (by decide) rfl kc_X10_undealt kl_X10_220 km_X10_undealt ks_X10_undealt ki_X10 (by decide +kernel) ⟨by decide, by decide⟩ rfl hl.1 rfl (by first | exact Nat.le_of_ble_eq_true rfl | (simp only [List.map, pm_rf_cat]; exact Nat.le_of_ble_eq_true rfl)) dX10_dealt_2 ⟨by decide, by decide⟩ (fun r9 M9 H locs hp hX1 hI => ?_)
  clear hw
  obtain ⟨r_1, rfl, rfl, hw⟩ := hp
  refine pm_nrm (cells' := 0) (slots' := 0) (g2 := F0 m 5 ls [.int r_1]) rfl rfl rfl ?_
  refine lv_istore_n (lv' := [(3, .int r_1), (0, .ref (H0.size + th)), (1, .int a1), (2, .int a2)]) hx hb dX10_dealt_5 rfl hl (by decide) rfl (fun ls hl_2 => ?_)
  refine lv_iload_n hx hb dX10_dealt_6 rfl (lv_at hl_2 0 rfl) ?_
  refine lv_iconst (v := (-1 : Int32)) hx hb dX10_dealt_7 (by decide) ?_
  refine lv_icmp_eq (tgt := 19) hx hb dX10_dealt_8 (by decide) (fun h_3 => ?_) (fun h_3 => ?_)
  · replace hw := hw.1 h_3
    exact c_X10_dealt_19 E hret hX hI (lv_sub hl_2 [] rfl) hw
  · replace hw := hw.2 h_3
    refine lv_aload_n hx hb dX10_dealt_11 rfl (lv_at hl_2 1 rfl) ?_
    refine lv_iload_n hx hb dX10_dealt_12 rfl (lv_at hl_2 3 rfl) ?_
    refine pm_callV (As := [.int a2]) (rest := []) 1 E hI (k_X10_isThing t_th hw) t_th (by decide) rfl kc_X10_isThing kl_X10_88 km_X10_isThing ks_X10_isThing ki_X10 (by decide +kernel) ⟨by decide, by decide⟩ rfl hl_2.1 rfl (by first | exact Nat.le_of_ble_eq_true rfl | (simp only [List.map, pm_rf_cat]; exact Nat.le_of_ble_eq_true rfl)) dX10_dealt_13 ⟨by decide, by decide⟩ (fun r9 M9 H locs hp hX1 hI => ?_)
    clear hw
    obtain ⟨r_4, rfl, rfl, hw⟩ := hp
    refine pm_nrm (cells' := 0) (slots' := 0) (g2 := F0 m 16 ls [.int r_4]) rfl rfl rfl ?_
    refine lv_if_ne (tgt := 21) hx hb dX10_dealt_16 (by decide) (fun h_5 => ?_) (fun h_5 => ?_)
    · replace hw := hw.1 h_5
      refine lv_iload_n hx hb dX10_dealt_21 rfl (lv_at hl_2 0 rfl) ?_
      refine lv_if_eq (tgt := 27) hx hb dX10_dealt_22 (by decide) (fun h_6 => ?_) (fun h_6 => ?_)
      · replace hw := hw.1 h_6
        refine lv_aload_n hx hb dX10_dealt_27 rfl (lv_at hl_2 1 rfl) ?_
        refine lv_iload_n hx hb dX10_dealt_28 rfl (lv_at hl_2 2 rfl) ?_
        refine pm_callV (As := [.int a1]) (rest := []) 1 E hI (k_X10_fewestOf t_th hw) t_th (by decide) rfl kc_X10_fewestOf kl_X10_223 km_X10_fewestOf ks_X10_fewestOf ki_X10 (by decide +kernel) ⟨by decide, by decide⟩ rfl hl_2.1 rfl (by first | exact Nat.le_of_ble_eq_true rfl | (simp only [List.map, pm_rf_cat]; exact Nat.le_of_ble_eq_true rfl)) dX10_dealt_29 ⟨by decide, by decide⟩ (fun r9 M_7 H locs hp hX1 hI => ?_)
        clear hw
        obtain ⟨r_8, rfl, hw⟩ := hp
        replace t_th := t_th.x hX1
        replace hX := hX.tr hX1
        refine pm_nrm (cells' := 0) (slots' := 0) (g2 := F0 m 32 ls [.int r_8]) rfl rfl rfl ?_
        refine lv_istore (lv' := [(4, .int r_8), (3, .int r_1), (0, .ref (H0.size + th)), (1, .int a1), (2, .int a2)]) hx hb dX10_dealt_32 hl_2 (by decide) rfl (fun ls hl_9 => ?_)
        refine lv_iconst (v := (0 : Int32)) hx hb dX10_dealt_34 (by decide) ?_
        refine lv_istore (lv' := [(5, .int (0 : Int32)), (4, .int r_8), (3, .int r_1), (0, .ref (H0.size + th)), (1, .int a1), (2, .int a2)]) hx hb dX10_dealt_35 hl_9 (by decide) rfl (fun ls hl_10 => ?_)
        obtain ⟨n_11, hw⟩ := hw
        exact c_X10_dealt_37 E hret n_11 _ _ _ _ _ hX hI t_th (lv_sub hl_10 [3, 4, 5, 1, 0] rfl) hw
      · replace hw := hw.2 h_6
        refine lv_iload_n hx hb dX10_dealt_25 rfl (lv_at hl_2 0 rfl) ?_
        exact pm_iret E hret hI hX ⟨_, rfl, hw⟩ (by decide) (by decide) dX10_dealt_26
    · replace hw := hw.2 h_5
      exact c_X10_dealt_19 E hret hX hI (lv_sub hl_2 [] rfl) hw
