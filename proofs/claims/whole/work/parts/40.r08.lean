set_option maxHeartbeats 4000000 in
set_option maxRecDepth 100000 in
theorem c_X10_lead_27 {p : Program} {l : Launch} {e : Env} {s : State} {m : MethodId} {args : Array Value} {below : List Frame} {meth : Method} {c : Code} {G : pm_G} {H0 : Heap} {Post : Int32 → Prop} {v3 : Int32} {M : pm_M} (E : pm_E G p s m args meth c cX10_lead 4 RX10) (hret : meth.sig.returnType = (some .int)) {H : Heap} {locs : List Loc} {ls : Array Slot} (hI : pm_I G H0 M H locs) (hl : lv_has ls 4 [(3, .int v3)]) (hw : w_X10_lead_27 Post v3 M) : W p l e rm_X10_lead s m args below meth c H locs 0 0 (pm_Z G H0 M (pm_Pi (fun r9 M9 => M = M9 ∧ Post r9)) below args s rm_X10_lead.cells rm_X10_lead.slots) (F0 m 27 ls []) := by
  have hx := E.1
  have hb := E.2.1
  have hown := E.2.2.2.1
  have hts := E.2.2.2.2.1
  unfold w_X10_lead_27 at hw
  refine lv_iload_n hx hb dX10_lead_27 rfl (lv_at hl 0 rfl) ?_
  exact pm_iret E hret hI pm_X.rf ⟨_, rfl, rfl, hw⟩ (by decide) (by decide) dX10_lead_28
set_option maxHeartbeats 4000000 in
set_option maxRecDepth 100000 in
theorem c_X10_lead_2 {p : Program} {l : Launch} {e : Env} {s : State} {m : MethodId} {args : Array Value} {below : List Frame} {meth : Method} {c : Code} {G : pm_G} {H0 : Heap} {Post : Int32 → Prop} {v0 : Nat} {v1 : Int32} {v2 : Int32} {M : pm_M} (E : pm_E G p s m args meth c cX10_lead 4 RX10) (hret : meth.sig.returnType = (some .int)) : ∀ (n : Nat) (v3 : Int32) (H : Heap) (locs : List Loc) (ls : Array Slot), pm_I G H0 M H locs → (pm_is M v0 9) → lv_has ls 4 [(0, .ref (H0.size + v0)), (1, .int v1), (2, .int v2), (3, .int v3)] → w_X10_lead_2 Post v0 v1 v2 M n v3 → W p l e rm_X10_lead s m args below meth c H locs 0 0 (pm_Z G H0 M (pm_Pi (fun r9 M9 => M = M9 ∧ Post r9)) below args s rm_X10_lead.cells rm_X10_lead.slots) (F0 m 2 ls []) := by
  have hx := E.1
  have hb := E.2.1
  have hown := E.2.2.2.1
  have hts := E.2.2.2.2.1
  intro n
  induction n with
  | zero =>
    intro v3 H locs ls hI t_v0 hl hw
    unfold w_X10_lead_2 at hw
    exact hw.elim
  | succ n ih =>
    intro v3 H locs ls hI t_v0 hl hw
    unfold w_X10_lead_2 at hw
    refine lv_iload_n hx hb dX10_lead_2 rfl (lv_at hl 3 rfl) ?_
    refine lv_iload_n hx hb dX10_lead_3 rfl (lv_at hl 2 rfl) ?_
    refine lv_icmp_ge (tgt := 27) hx hb dX10_lead_4 (by decide) (fun h_1 => ?_) (fun h_1 => ?_)
    · replace hw := hw.1 h_1
      exact c_X10_lead_27 E hret hI (lv_sub hl [3] rfl) hw
    · replace hw := hw.2 h_1
      refine lv_aload_n hx hb dX10_lead_7 rfl (lv_at hl 0 rfl) ?_
      obtain ⟨q_2, e_q_2, hw⟩ := hw
      refine gf_X10_69 E hI t_v0 dX10_lead_8 e_q_2 (fun t_q_2 => ?_)
      refine lv_bipush (v := (6 : Int32)) hx hb dX10_lead_11 (by decide) ?_
      refine lv_iload_n hx hb dX10_lead_13 rfl (lv_at hl 1 rfl) ?_
      refine lv_imul hx hb dX10_lead_14 ?_
      refine lv_iload_n hx hb dX10_lead_15 rfl (lv_at hl 3 rfl) ?_
      refine lv_iadd hx hb dX10_lead_16 ?_
      obtain ⟨h_3, hw⟩ := hw
      refine pm_iald E hI t_q_2 h_3 dX10_lead_17 ?_
      refine lv_if_ne (tgt := 27) hx hb dX10_lead_18 (by decide) (fun h_4 => ?_) (fun h_4 => ?_)
      · replace hw := hw.1 h_4
        exact c_X10_lead_27 E hret hI (lv_sub hl [3] rfl) hw
      · replace hw := hw.2 h_4
        obtain ⟨x_5, e_x_5⟩ : ∃ z : Int32, z = v3 + (1 : Int32) := ⟨_, rfl⟩
        refine lv_iinc (v := x_5) (lv' := [(3, .int x_5), (0, .ref (H0.size + v0)), (1, .int v1), (2, .int v2)]) hx hb dX10_lead_21 hl (k := 3) rfl (by rw [e_x_5]; rfl) (by decide) rfl (fun ls hl_6 => ?_)
        replace hw := hw x_5 e_x_5
        refine lv_goto (tgt := 2) hx hb dX10_lead_24 (by decide) ?_
        exact ih _ _ _ _ hI t_v0 (lv_sub hl_6 [1, 2, 3, 0] rfl) hw
set_option maxHeartbeats 4000000 in
set_option maxRecDepth 100000 in
theorem k_X10_lead {l : Launch} {G : pm_G} {H0 : Heap} {th : Nat} {a1 : Int32} {a2 : Int32} {M : pm_M} {Post : Int32 → Prop} (t_th : pm_is M th 9) (hw : w_X10_lead th a1 a2 M Post) : pm_C l G H0 yX10_lead cX10_lead 4 (some .int) rm_X10_lead [.ref (H0.size + th), .int a1, .int a2] M (pm_Pi (fun r9 M9 => M = M9 ∧ Post r9)) := by
  refine pm_start (by decide +kernel) (Nat.le_of_ble_eq_true rfl) ?_
  intro p e s m args below meth c H ls E hret hnm hI hl
  have hl : lv_has ls 4 [(0, .ref (H0.size + th)), (1, .int a1), (2, .int a2)] := hl
  have hx := E.1
  have hb := E.2.1
  have hown := E.2.2.2.1
  have hts := E.2.2.2.2.1
  unfold w_X10_lead at hw
  refine lv_iconst (v := (0 : Int32)) hx hb dX10_lead_0 (by decide) ?_
  refine lv_istore_n (lv' := [(3, .int (0 : Int32)), (0, .ref (H0.size + th)), (1, .int a1), (2, .int a2)]) hx hb dX10_lead_1 rfl hl (by decide) rfl (fun ls hl_1 => ?_)
  obtain ⟨n_2, hw⟩ := hw
  exact c_X10_lead_2 E hret n_2 _ _ _ _ hI t_th (lv_sub hl_1 [1, 2, 3, 0] rfl) hw
set_option maxHeartbeats 4000000 in
set_option maxRecDepth 100000 in
theorem c_J9_floorMod_7cf53_18 {p : Program} {l : Launch} {e : Env} {s : State} {m : MethodId} {args : Array Value} {below : List Frame} {meth : Method} {c : Code} {G : pm_G} {H0 : Heap} {Post : Int32 → Prop} {v2 : Int32} {M : pm_M} (E : pm_E G p s m args meth c cJ9_floorMod_7cf53 3 RJ9) (hret : meth.sig.returnType = (some .int)) {H : Heap} {locs : List Loc} {ls : Array Slot} (hI : pm_I G H0 M H locs) (hl : lv_has ls 3 [(2, .int v2)]) (hw : w_J9_floorMod_7cf53_18 Post v2 M) : W p l e rm_J9_floorMod_7cf53 s m args below meth c H locs 0 0 (pm_Z G H0 M (pm_Pi (fun r9 M9 => M = M9 ∧ Post r9)) below args s rm_J9_floorMod_7cf53.cells rm_J9_floorMod_7cf53.slots) (F0 m 18 ls []) := by
  have hx := E.1
  have hb := E.2.1
  have hown := E.2.2.2.1
  have hts := E.2.2.2.2.1
  unfold w_J9_floorMod_7cf53_18 at hw
  refine lv_iload_n hx hb dJ9_floorMod_7cf53_18 rfl (lv_at hl 0 rfl) ?_
  exact pm_iret E hret hI pm_X.rf ⟨_, rfl, rfl, hw⟩ (by decide) (by decide) dJ9_floorMod_7cf53_19
set_option maxHeartbeats 4000000 in
set_option maxRecDepth 100000 in
theorem k_J9_floorMod_7cf53 {l : Launch} {G : pm_G} {H0 : Heap} {a0 : Int32} {a1 : Int32} {M : pm_M} {Post : Int32 → Prop} (hw : w_J9_floorMod_7cf53 a0 a1 M Post) : pm_C l G H0 yJ9_floorMod_7cf53 cJ9_floorMod_7cf53 3 (some .int) rm_J9_floorMod_7cf53 [.int a0, .int a1] M (pm_Pi (fun r9 M9 => M = M9 ∧ Post r9)) := by
  refine pm_startF (by decide +kernel) (Nat.le_of_ble_eq_true rfl) ?_
  intro p e s m args below meth c H ls E hret hnm hI hl
  have hl : lv_has ls 3 [(0, .int a0), (1, .int a1)] := hl
  have hx := E.1
  have hb := E.2.1
  have hown := E.2.2.2.1
  have hts := E.2.2.2.2.1
  unfold w_J9_floorMod_7cf53 at hw
  refine lv_iload_n hx hb dJ9_floorMod_7cf53_0 rfl (lv_at hl 0 rfl) ?_
  refine lv_iload_n hx hb dJ9_floorMod_7cf53_1 rfl (lv_at hl 1 rfl) ?_
  obtain ⟨h9, hw⟩ := hw
  refine lv_irem hx hb dJ9_floorMod_7cf53_2 h9 ?_
  refine lv_topi (fun x_1 e_x_1 => ?_)
  replace hw := hw x_1 e_x_1
  refine lv_istore_n (lv' := [(2, .int x_1), (0, .int a0), (1, .int a1)]) hx hb dJ9_floorMod_7cf53_3 rfl hl (by decide) rfl (fun ls hl_2 => ?_)
  refine lv_iload_n hx hb dJ9_floorMod_7cf53_4 rfl (lv_at hl_2 1 rfl) ?_
  refine lv_iload_n hx hb dJ9_floorMod_7cf53_5 rfl (lv_at hl_2 2 rfl) ?_
  refine lv_ixor hx hb dJ9_floorMod_7cf53_6 ?_
  refine lv_if_ge (tgt := 18) hx hb dJ9_floorMod_7cf53_7 (by decide) (fun h_3 => ?_) (fun h_3 => ?_)
  · replace hw := hw.1 h_3
    exact c_J9_floorMod_7cf53_18 E hret hI (lv_sub hl_2 [0] rfl) hw
  · replace hw := hw.2 h_3
    refine lv_iload_n hx hb dJ9_floorMod_7cf53_10 rfl (lv_at hl_2 0 rfl) ?_
    refine lv_if_eq (tgt := 18) hx hb dJ9_floorMod_7cf53_11 (by decide) (fun h_4 => ?_) (fun h_4 => ?_)
    · replace hw := hw.1 h_4
      exact c_J9_floorMod_7cf53_18 E hret hI (lv_sub hl_2 [0] rfl) hw
    · replace hw := hw.2 h_4
      refine lv_iload_n hx hb dJ9_floorMod_7cf53_14 rfl (lv_at hl_2 0 rfl) ?_
      refine lv_iload_n hx hb dJ9_floorMod_7cf53_15 rfl (lv_at hl_2 2 rfl) ?_
      refine lv_iadd hx hb dJ9_floorMod_7cf53_16 ?_
      exact pm_iret E hret hI pm_X.rf ⟨_, rfl, rfl, hw⟩ (by decide) (by decide) dJ9_floorMod_7cf53_17
set_option maxHeartbeats 4000000 in
set_option maxRecDepth 100000 in
theorem c_X10_isFree_267 {p : Program} {l : Launch} {e : Env} {s : State} {m : MethodId} {args : Array Value} {below : List Frame} {meth : Method} {c : Code} {G : pm_G} {H0 : Heap} {M0 : pm_M} {Post : Int32 → pm_M → Prop} {v0 : Nat} {v1 : Int32} {v2 : Int32} {v3 : Int32} {v4 : Int32} {v5 : Int32} {M : pm_M} {k_6 : Int32 → Int32 → pm_M → Prop} (E : pm_E G p s m args meth c cX10_isFree 10 RX10) (hret : meth.sig.returnType = (some .boolean)) (hk_6 : ∀ (v4 : Int32) (v5 : Int32) (M : pm_M) (H : Heap) (locs : List Loc) (ls : Array Slot), pm_X M0 M → pm_I G H0 M H locs → (pm_is M v0 9) → lv_has ls 10 [(0, .ref (H0.size + v0)), (1, .int v1), (2, .int v2), (3, .int v3), (4, .int v4), (5, .int v5)] → k_6 v4 v5 M → W p l e rm_X10_isFree s m args below meth c H locs 0 0 (pm_Z G H0 M0 (pm_Pi Post) below args s rm_X10_isFree.cells rm_X10_isFree.slots) (F0 m 6 ls [])) {H : Heap} {locs : List Loc} {ls : Array Slot} (hX : pm_X M0 M) (hI : pm_I G H0 M H locs) (t_v0 : pm_is M v0 9) (hl : lv_has ls 10 [(0, .ref (H0.size + v0)), (1, .int v1), (2, .int v2), (3, .int v3), (4, .int v4), (5, .int v5)]) (hw : w_X10_isFree_267 Post k_6 v0 v1 v2 v3 v4 v5 M) : W p l e rm_X10_isFree s m args below meth c H locs 0 0 (pm_Z G H0 M0 (pm_Pi Post) below args s rm_X10_isFree.cells rm_X10_isFree.slots) (F0 m 267 ls []) := by
  have hx := E.1
  have hb := E.2.1
  have hown := E.2.2.2.1
  have hts := E.2.2.2.2.1
  unfold w_X10_isFree_267 at hw
  obtain ⟨x_1, e_x_1⟩ : ∃ z : Int32, z = v5 + (1 : Int32) := ⟨_, rfl⟩
  refine lv_iinc (v := x_1) (lv' := [(5, .int x_1), (0, .ref (H0.size + v0)), (1, .int v1), (2, .int v2), (3, .int v3), (4, .int v4)]) hx hb dX10_isFree_267 hl (k := 5) rfl (by rw [e_x_1]; rfl) (by decide) rfl (fun ls hl_2 => ?_)
  replace hw := hw x_1 e_x_1
  refine lv_goto (tgt := 6) hx hb dX10_isFree_270 (by decide) ?_
  exact hk_6 _ _ _ _ _ _ hX hI t_v0 (lv_sub hl_2 [1, 2, 3, 4, 5, 0] rfl) hw
set_option maxHeartbeats 4000000 in
set_option maxRecDepth 100000 in
theorem c_X10_isFree_221 {p : Program} {l : Launch} {e : Env} {s : State} {m : MethodId} {args : Array Value} {below : List Frame} {meth : Method} {c : Code} {G : pm_G} {H0 : Heap} {M0 : pm_M} {Post : Int32 → pm_M → Prop} {v0 : Nat} {v1 : Int32} {v2 : Int32} {v3 : Int32} {v4 : Int32} {v5 : Int32} {v7 : Int32} {k_6 : Int32 → Int32 → pm_M → Prop} (E : pm_E G p s m args meth c cX10_isFree 10 RX10) (hret : meth.sig.returnType = (some .boolean)) (hk_6 : ∀ (v4 : Int32) (v5 : Int32) (M : pm_M) (H : Heap) (locs : List Loc) (ls : Array Slot), pm_X M0 M → pm_I G H0 M H locs → (pm_is M v0 9) → lv_has ls 10 [(0, .ref (H0.size + v0)), (1, .int v1), (2, .int v2), (3, .int v3), (4, .int v4), (5, .int v5)] → k_6 v4 v5 M → W p l e rm_X10_isFree s m args below meth c H locs 0 0 (pm_Z G H0 M0 (pm_Pi Post) below args s rm_X10_isFree.cells rm_X10_isFree.slots) (F0 m 6 ls [])) : ∀ (n : Nat) (v8 : Int32) (M : pm_M) (H : Heap) (locs : List Loc) (ls : Array Slot), pm_X M0 M → pm_I G H0 M H locs → (pm_is M v0 9) → lv_has ls 10 [(0, .ref (H0.size + v0)), (1, .int v1), (2, .int v2), (3, .int v3), (4, .int v4), (5, .int v5), (7, .int v7), (8, .int v8)] → w_X10_isFree_221 Post k_6 v0 v1 v2 v3 v4 v5 v7 n v8 M → W p l e rm_X10_isFree s m args below meth c H locs 0 0 (pm_Z G H0 M0 (pm_Pi Post) below args s rm_X10_isFree.cells rm_X10_isFree.slots) (F0 m 221 ls []) := by
  have hx := E.1
  have hb := E.2.1
  have hown := E.2.2.2.1
  have hts := E.2.2.2.2.1
  intro n
  induction n with
  | zero =>
    intro v8 M H locs ls hX hI t_v0 hl hw
    unfold w_X10_isFree_221 at hw
    exact hw.elim
  | succ n ih =>
    intro v8 M H locs ls hX hI t_v0 hl hw
    unfold w_X10_isFree_221 at hw
    refine lv_iload hx hb dX10_isFree_221 (lv_at hl 7 rfl) ?_
    refine lv_iload_n hx hb dX10_isFree_223 rfl (lv_at hl 3 rfl) ?_
    refine lv_icmp_ge (tgt := 264) hx hb dX10_isFree_224 (by decide) (fun h_1 => ?_) (fun h_1 => ?_)
    · replace hw := hw.1 h_1
      obtain ⟨x_2, e_x_2⟩ : ∃ z : Int32, z = v4 + (1 : Int32) := ⟨_, rfl⟩
      refine lv_iinc (v := x_2) (lv' := [(4, .int x_2), (0, .ref (H0.size + v0)), (1, .int v1), (2, .int v2), (3, .int v3), (5, .int v5), (7, .int v7), (8, .int v8)]) hx hb dX10_isFree_264 hl (k := 4) rfl (by rw [e_x_2]; rfl) (by decide) rfl (fun ls hl_3 => ?_)
      replace hw := hw x_2 e_x_2
      exact c_X10_isFree_267 E hret hk_6 hX hI t_v0 (lv_sub hl_3 [1, 2, 3, 4, 0, 5] rfl) hw
    · replace hw := hw.2 h_1
      refine lv_aload_n hx hb dX10_isFree_227 rfl (lv_at hl 0 rfl) ?_
      obtain ⟨q_4, e_q_4, hw⟩ := hw
      refine gf_X10_69 E hI t_v0 dX10_isFree_228 e_q_4 (fun t_q_4 => ?_)
      refine lv_bipush (v := (6 : Int32)) hx hb dX10_isFree_231 (by decide) ?_
      refine lv_iload hx hb dX10_isFree_233 (lv_at hl 4 rfl) ?_
      refine lv_imul hx hb dX10_isFree_235 ?_
      refine lv_iload hx hb dX10_isFree_236 (lv_at hl 7 rfl) ?_
      refine lv_iadd hx hb dX10_isFree_238 ?_
      refine lv_iload hx hb dX10_isFree_239 (lv_at hl 6 rfl) ?_
      refine lv_aload_n hx hb dX10_isFree_241 rfl (lv_at hl 0 rfl) ?_
      refine gf_X10_69 E hI t_v0 dX10_isFree_242 e_q_4 (fun _ => ?_)
      refine lv_bipush (v := (6 : Int32)) hx hb dX10_isFree_245 (by decide) ?_
      refine lv_iload hx hb dX10_isFree_247 (lv_at hl 4 rfl) ?_
      refine lv_imul hx hb dX10_isFree_249 ?_
      refine lv_iload hx hb dX10_isFree_250 (lv_at hl 7 rfl) ?_
      refine lv_iadd hx hb dX10_isFree_252 ?_
      obtain ⟨h_5, hw⟩ := hw
      refine pm_iald E hI t_q_4 h_5 dX10_isFree_253 ?_
      refine lv_imul hx hb dX10_isFree_254 ?_
      refine lv_iload_n hx hb dX10_isFree_255 rfl (lv_at hl 2 rfl) ?_
      obtain ⟨h9, hw⟩ := hw
      refine lv_irem hx hb dX10_isFree_256 h9 ?_
      obtain ⟨h_6, hw⟩ := hw
      refine ps_iast E hI t_q_4 h_6 dX10_isFree_257 (fun H locs M_7 e_M_7 hX1 hI => ?_)
      replace hw := hw M_7 e_M_7
      replace t_v0 := t_v0.x hX1
      replace hX := hX.tr hX1
      obtain ⟨x_8, e_x_8⟩ : ∃ z : Int32, z = v8 + (1 : Int32) := ⟨_, rfl⟩
      refine lv_iinc (v := x_8) (lv' := [(8, .int x_8), (0, .ref (H0.size + v0)), (1, .int v1), (2, .int v2), (3, .int v3), (4, .int v4), (5, .int v5), (7, .int v7)]) hx hb dX10_isFree_258 hl (k := 7) rfl (by rw [e_x_8]; rfl) (by decide) rfl (fun ls hl_9 => ?_)
      replace hw := hw x_8 e_x_8
      refine lv_goto (tgt := 221) hx hb dX10_isFree_261 (by decide) ?_
      exact ih _ _ _ _ _ hX hI t_v0 (lv_sub hl_9 [1, 2, 3, 4, 5, 6, 7, 0] rfl) hw
set_option maxHeartbeats 4000000 in
set_option maxRecDepth 100000 in
theorem c_X10_isFree_190 {p : Program} {l : Launch} {e : Env} {s : State} {m : MethodId} {args : Array Value} {below : List Frame} {meth : Method} {c : Code} {G : pm_G} {H0 : Heap} {M0 : pm_M} {Post : Int32 → pm_M → Prop} {v0 : Nat} {v1 : Int32} {v2 : Int32} {v3 : Int32} {v4 : Int32} {v5 : Int32} {v6 : Int32} {M : pm_M} {k_6 : Int32 → Int32 → pm_M → Prop} (E : pm_E G p s m args meth c cX10_isFree 10 RX10) (hret : meth.sig.returnType = (some .boolean)) (hk_6 : ∀ (v4 : Int32) (v5 : Int32) (M : pm_M) (H : Heap) (locs : List Loc) (ls : Array Slot), pm_X M0 M → pm_I G H0 M H locs → (pm_is M v0 9) → lv_has ls 10 [(0, .ref (H0.size + v0)), (1, .int v1), (2, .int v2), (3, .int v3), (4, .int v4), (5, .int v5)] → k_6 v4 v5 M → W p l e rm_X10_isFree s m args below meth c H locs 0 0 (pm_Z G H0 M0 (pm_Pi Post) below args s rm_X10_isFree.cells rm_X10_isFree.slots) (F0 m 6 ls [])) : ∀ (n : Nat) (v7 : Int32) (H : Heap) (locs : List Loc) (ls : Array Slot), pm_X M0 M → pm_I G H0 M H locs → (pm_is M v0 9) → lv_has ls 10 [(0, .ref (H0.size + v0)), (1, .int v1), (2, .int v2), (3, .int v3), (4, .int v4), (5, .int v5), (6, .int v6), (7, .int v7)] → w_X10_isFree_190 Post k_6 v0 v1 v2 v3 v4 v5 v6 M n v7 → W p l e rm_X10_isFree s m args below meth c H locs 0 0 (pm_Z G H0 M0 (pm_Pi Post) below args s rm_X10_isFree.cells rm_X10_isFree.slots) (F0 m 190 ls []) := by
  have hx := E.1
  have hb := E.2.1
  have hown := E.2.2.2.1
  have hts := E.2.2.2.2.1
  intro n
  induction n with
  | zero =>
    intro v7 H locs ls hX hI t_v0 hl hw
    unfold w_X10_isFree_190 at hw
    exact hw.elim
  | succ n ih =>
    intro v7 H locs ls hX hI t_v0 hl hw
    unfold w_X10_isFree_190 at hw
    refine lv_iload hx hb dX10_isFree_190 (lv_at hl 7 rfl) ?_
    refine lv_aload_n hx hb dX10_isFree_192 rfl (lv_at hl 0 rfl) ?_
    obtain ⟨q_1, e_q_1, hw⟩ := hw
    refine gf_X10_69 E hI t_v0 dX10_isFree_193 e_q_1 (fun t_q_1 => ?_)
    refine lv_bipush (v := (6 : Int32)) hx hb dX10_isFree_196 (by decide) ?_
    refine lv_iload hx hb dX10_isFree_198 (lv_at hl 4 rfl) ?_
    refine lv_imul hx hb dX10_isFree_200 ?_
    refine lv_iload hx hb dX10_isFree_201 (lv_at hl 6 rfl) ?_
    refine lv_iadd hx hb dX10_isFree_203 ?_
    obtain ⟨h_2, hw⟩ := hw
    refine pm_iald E hI t_q_1 h_2 dX10_isFree_204 ?_
    refine lv_imul hx hb dX10_isFree_205 ?_
    refine lv_iload_n hx hb dX10_isFree_206 rfl (lv_at hl 2 rfl) ?_
    obtain ⟨h9, hw⟩ := hw
    refine lv_irem hx hb dX10_isFree_207 h9 ?_
    refine lv_iconst (v := (1 : Int32)) hx hb dX10_isFree_208 (by decide) ?_
    refine lv_icmp_eq (tgt := 218) hx hb dX10_isFree_209 (by decide) (fun h_3 => ?_) (fun h_3 => ?_)
    · replace hw := hw.1 h_3
      refine lv_iconst (v := (0 : Int32)) hx hb dX10_isFree_218 (by decide) ?_
      refine lv_istore (lv' := [(8, .int (0 : Int32)), (0, .ref (H0.size + v0)), (1, .int v1), (2, .int v2), (3, .int v3), (4, .int v4), (5, .int v5), (6, .int v6), (7, .int v7)]) hx hb dX10_isFree_219 hl (by decide) rfl (fun ls hl_4 => ?_)
      obtain ⟨n_5, hw⟩ := hw
      exact c_X10_isFree_221 E hret hk_6 n_5 _ _ _ _ _ hX hI t_v0 (lv_sub hl_4 [1, 2, 3, 4, 5, 6, 8, 0] rfl) hw
    · replace hw := hw.2 h_3
      obtain ⟨x_6, e_x_6⟩ : ∃ z : Int32, z = v7 + (1 : Int32) := ⟨_, rfl⟩
      refine lv_iinc (v := x_6) (lv' := [(7, .int x_6), (0, .ref (H0.size + v0)), (1, .int v1), (2, .int v2), (3, .int v3), (4, .int v4), (5, .int v5), (6, .int v6)]) hx hb dX10_isFree_212 hl (k := 7) rfl (by rw [e_x_6]; rfl) (by decide) rfl (fun ls hl_7 => ?_)
      replace hw := hw x_6 e_x_6
      refine lv_goto (tgt := 190) hx hb dX10_isFree_215 (by decide) ?_
      exact ih _ _ _ _ hX hI t_v0 (lv_sub hl_7 [1, 2, 3, 4, 5, 6, 7, 0] rfl) hw
set_option maxHeartbeats 4000000 in
set_option maxRecDepth 100000 in
theorem c_X10_isFree_105 {p : Program} {l : Launch} {e : Env} {s : State} {m : MethodId} {args : Array Value} {below : List Frame} {meth : Method} {c : Code} {G : pm_G} {H0 : Heap} {M0 : pm_M} {Post : Int32 → pm_M → Prop} {v0 : Nat} {v1 : Int32} {v2 : Int32} {v3 : Int32} {v4 : Int32} {v5 : Int32} {v6 : Int32} {v8 : Int32} {k_6 : Int32 → Int32 → pm_M → Prop} {k_71 : Int32 → pm_M → Prop} (E : pm_E G p s m args meth c cX10_isFree 10 RX10) (hret : meth.sig.returnType = (some .boolean)) (hk_6 : ∀ (v4 : Int32) (v5 : Int32) (M : pm_M) (H : Heap) (locs : List Loc) (ls : Array Slot), pm_X M0 M → pm_I G H0 M H locs → (pm_is M v0 9) → lv_has ls 10 [(0, .ref (H0.size + v0)), (1, .int v1), (2, .int v2), (3, .int v3), (4, .int v4), (5, .int v5)] → k_6 v4 v5 M → W p l e rm_X10_isFree s m args below meth c H locs 0 0 (pm_Z G H0 M0 (pm_Pi Post) below args s rm_X10_isFree.cells rm_X10_isFree.slots) (F0 m 6 ls [])) (hk_71 : ∀ (v6 : Int32) (M : pm_M) (H : Heap) (locs : List Loc) (ls : Array Slot), pm_X M0 M → pm_I G H0 M H locs → (pm_is M v0 9) → lv_has ls 10 [(0, .ref (H0.size + v0)), (1, .int v1), (2, .int v2), (3, .int v3), (4, .int v4), (5, .int v5), (6, .int v6)] → k_71 v6 M → W p l e rm_X10_isFree s m args below meth c H locs 0 0 (pm_Z G H0 M0 (pm_Pi Post) below args s rm_X10_isFree.cells rm_X10_isFree.slots) (F0 m 71 ls [])) : ∀ (n : Nat) (v9 : Int32) (M : pm_M) (H : Heap) (locs : List Loc) (ls : Array Slot), pm_X M0 M → pm_I G H0 M H locs → (pm_is M v0 9) → lv_has ls 10 [(0, .ref (H0.size + v0)), (1, .int v1), (2, .int v2), (3, .int v3), (4, .int v4), (5, .int v5), (6, .int v6), (8, .int v8), (9, .int v9)] → w_X10_isFree_105 Post k_6 k_71 v0 v1 v2 v3 v4 v5 v6 v8 n v9 M → W p l e rm_X10_isFree s m args below meth c H locs 0 0 (pm_Z G H0 M0 (pm_Pi Post) below args s rm_X10_isFree.cells rm_X10_isFree.slots) (F0 m 105 ls []) := by
  have hx := E.1
  have hb := E.2.1
  have hown := E.2.2.2.1
  have hts := E.2.2.2.2.1
  intro n
  induction n with
  | zero =>
    intro v9 M H locs ls hX hI t_v0 hl hw
    unfold w_X10_isFree_105 at hw
    exact hw.elim
  | succ n ih =>
    intro v9 M H locs ls hX hI t_v0 hl hw
    unfold w_X10_isFree_105 at hw
    refine lv_iload hx hb dX10_isFree_105 (lv_at hl 8 rfl) ?_
    refine lv_iload_n hx hb dX10_isFree_107 rfl (lv_at hl 3 rfl) ?_
    refine lv_icmp_ge (tgt := 164) hx hb dX10_isFree_108 (by decide) (fun h_1 => ?_) (fun h_1 => ?_)
    · replace hw := hw.1 h_1
      obtain ⟨x_2, e_x_2⟩ : ∃ z : Int32, z = v6 + (1 : Int32) := ⟨_, rfl⟩
      refine lv_iinc (v := x_2) (lv' := [(6, .int x_2), (0, .ref (H0.size + v0)), (1, .int v1), (2, .int v2), (3, .int v3), (4, .int v4), (5, .int v5), (8, .int v8), (9, .int v9)]) hx hb dX10_isFree_164 hl (k := 6) rfl (by rw [e_x_2]; rfl) (by decide) rfl (fun ls hl_3 => ?_)
      replace hw := hw x_2 e_x_2
      refine lv_goto (tgt := 71) hx hb dX10_isFree_167 (by decide) ?_
      exact hk_71 _ _ _ _ _ hX hI t_v0 (lv_sub hl_3 [1, 2, 3, 4, 5, 6, 0] rfl) hw
    · replace hw := hw.2 h_1
      refine lv_aload_n hx hb dX10_isFree_111 rfl (lv_at hl 0 rfl) ?_
      obtain ⟨q_4, e_q_4, hw⟩ := hw
      refine gf_X10_69 E hI t_v0 dX10_isFree_112 e_q_4 (fun t_q_4 => ?_)
      refine lv_bipush (v := (6 : Int32)) hx hb dX10_isFree_115 (by decide) ?_
      refine lv_iload hx hb dX10_isFree_117 (lv_at hl 4 rfl) ?_
      refine lv_imul hx hb dX10_isFree_119 ?_
      refine lv_iload hx hb dX10_isFree_120 (lv_at hl 8 rfl) ?_
      refine lv_iadd hx hb dX10_isFree_122 ?_
      refine lv_aload_n hx hb dX10_isFree_123 rfl (lv_at hl 0 rfl) ?_
      refine gf_X10_69 E hI t_v0 dX10_isFree_124 e_q_4 (fun _ => ?_)
      refine lv_bipush (v := (6 : Int32)) hx hb dX10_isFree_127 (by decide) ?_
      refine lv_iload hx hb dX10_isFree_129 (lv_at hl 4 rfl) ?_
      refine lv_imul hx hb dX10_isFree_131 ?_
      refine lv_iload hx hb dX10_isFree_132 (lv_at hl 8 rfl) ?_
      refine lv_iadd hx hb dX10_isFree_134 ?_
      obtain ⟨h_5, hw⟩ := hw
      refine pm_iald E hI t_q_4 h_5 dX10_isFree_135 ?_
      refine lv_iload hx hb dX10_isFree_136 (lv_at hl 7 rfl) ?_
      refine lv_aload_n hx hb dX10_isFree_138 rfl (lv_at hl 0 rfl) ?_
      refine gf_X10_69 E hI t_v0 dX10_isFree_139 e_q_4 (fun _ => ?_)
      refine lv_bipush (v := (6 : Int32)) hx hb dX10_isFree_142 (by decide) ?_
      refine lv_iload hx hb dX10_isFree_144 (lv_at hl 6 rfl) ?_
      refine lv_imul hx hb dX10_isFree_146 ?_
      refine lv_iload hx hb dX10_isFree_147 (lv_at hl 8 rfl) ?_
      refine lv_iadd hx hb dX10_isFree_149 ?_
      obtain ⟨h_6, hw⟩ := hw
      refine pm_iald E hI t_q_4 h_6 dX10_isFree_150 ?_
      refine lv_imul hx hb dX10_isFree_151 ?_
      refine lv_isub hx hb dX10_isFree_152 ?_
      refine lv_iload_n hx hb dX10_isFree_153 rfl (lv_at hl 2 rfl) ?_
      refine pm_callS (As := [.int ((mI M q_4 (((6 : Int32) * v4) + v9).toNatClampNeg) - (v8 * (mI M q_4 (((6 : Int32) * v6) + v9).toNatClampNeg))), .int v2]) (rest := [.int (((6 : Int32) * v4) + v9), .ref (H0.size + q_4)]) 2 E hI (k_J9_floorMod_7cf53 hw) kc_J9_floorMod_7cf53 kl_X10_186 kt_J9_floorMod_7cf53 ki_J9 (by decide +kernel) ⟨by decide, by decide⟩ rfl hl.1 rfl (by first | exact Nat.le_of_ble_eq_true rfl | (simp only [List.map, pm_rf_cat]; exact Nat.le_of_ble_eq_true rfl)) dX10_isFree_154 ⟨by decide, by decide⟩ (fun r9 M9 H locs hp hX1 hI => ?_)
      clear hw
      obtain ⟨r_7, rfl, rfl, hw⟩ := hp
      refine pm_nrm (cells' := 0) (slots' := 0) (g2 := F0 m 157 ls [.int r_7, .int (((6 : Int32) * v4) + v9), .ref (H0.size + q_4)]) rfl rfl rfl ?_
      obtain ⟨h_8, hw⟩ := hw
      refine ps_iast E hI t_q_4 h_8 dX10_isFree_157 (fun H locs M_9 e_M_9 hX1 hI => ?_)
      replace hw := hw M_9 e_M_9
      replace t_v0 := t_v0.x hX1
      replace hX := hX.tr hX1
      obtain ⟨x_10, e_x_10⟩ : ∃ z : Int32, z = v9 + (1 : Int32) := ⟨_, rfl⟩
      refine lv_iinc (v := x_10) (lv' := [(9, .int x_10), (0, .ref (H0.size + v0)), (1, .int v1), (2, .int v2), (3, .int v3), (4, .int v4), (5, .int v5), (6, .int v6), (8, .int v8)]) hx hb dX10_isFree_158 hl (k := 8) rfl (by rw [e_x_10]; rfl) (by decide) rfl (fun ls hl_11 => ?_)
      replace hw := hw x_10 e_x_10
      refine lv_goto (tgt := 105) hx hb dX10_isFree_161 (by decide) ?_
      exact ih _ _ _ _ _ hX hI t_v0 (lv_sub hl_11 [1, 2, 3, 4, 5, 6, 7, 8, 0] rfl) hw
set_option maxHeartbeats 4000000 in
set_option maxRecDepth 100000 in
theorem c_X10_isFree_71 {p : Program} {l : Launch} {e : Env} {s : State} {m : MethodId} {args : Array Value} {below : List Frame} {meth : Method} {c : Code} {G : pm_G} {H0 : Heap} {M0 : pm_M} {Post : Int32 → pm_M → Prop} {v0 : Nat} {v1 : Int32} {v2 : Int32} {v3 : Int32} {v4 : Int32} {v5 : Int32} {k_6 : Int32 → Int32 → pm_M → Prop} (E : pm_E G p s m args meth c cX10_isFree 10 RX10) (hret : meth.sig.returnType = (some .boolean)) (hk_6 : ∀ (v4 : Int32) (v5 : Int32) (M : pm_M) (H : Heap) (locs : List Loc) (ls : Array Slot), pm_X M0 M → pm_I G H0 M H locs → (pm_is M v0 9) → lv_has ls 10 [(0, .ref (H0.size + v0)), (1, .int v1), (2, .int v2), (3, .int v3), (4, .int v4), (5, .int v5)] → k_6 v4 v5 M → W p l e rm_X10_isFree s m args below meth c H locs 0 0 (pm_Z G H0 M0 (pm_Pi Post) below args s rm_X10_isFree.cells rm_X10_isFree.slots) (F0 m 6 ls [])) : ∀ (n : Nat) (v6 : Int32) (M : pm_M) (H : Heap) (locs : List Loc) (ls : Array Slot), pm_X M0 M → pm_I G H0 M H locs → (pm_is M v0 9) → lv_has ls 10 [(0, .ref (H0.size + v0)), (1, .int v1), (2, .int v2), (3, .int v3), (4, .int v4), (5, .int v5), (6, .int v6)] → w_X10_isFree_71 Post k_6 v0 v1 v2 v3 v4 v5 n v6 M → W p l e rm_X10_isFree s m args below meth c H locs 0 0 (pm_Z G H0 M0 (pm_Pi Post) below args s rm_X10_isFree.cells rm_X10_isFree.slots) (F0 m 71 ls []) := by
  have hx := E.1
  have hb := E.2.1
  have hown := E.2.2.2.1
  have hts := E.2.2.2.2.1
  intro n
  induction n with
  | zero =>
    intro v6 M H locs ls hX hI t_v0 hl hw
    unfold w_X10_isFree_71 at hw
    exact hw.elim
  | succ n ih =>
    intro v6 M H locs ls hX hI t_v0 hl hw
    unfold w_X10_isFree_71 at hw
    refine lv_iload hx hb dX10_isFree_71 (lv_at hl 6 rfl) ?_
    refine lv_iload hx hb dX10_isFree_73 (lv_at hl 4 rfl) ?_
    refine lv_icmp_ge (tgt := 170) hx hb dX10_isFree_75 (by decide) (fun h_1 => ?_) (fun h_1 => ?_)
    · replace hw := hw.1 h_1
      refine lv_aload_n hx hb dX10_isFree_170 rfl (lv_at hl 0 rfl) ?_
      refine lv_iload hx hb dX10_isFree_171 (lv_at hl 4 rfl) ?_
      refine lv_iload_n hx hb dX10_isFree_173 rfl (lv_at hl 3 rfl) ?_
      refine pm_callV (As := [.int v4, .int v3]) (rest := []) 2 E hI (k_X10_lead t_v0 hw) t_v0 (by decide) rfl kc_X10_lead kl_X10_183 km_X10_lead ks_X10_lead ki_X10 (by decide +kernel) ⟨by decide, by decide⟩ rfl hl.1 rfl (by first | exact Nat.le_of_ble_eq_true rfl | (simp only [List.map, pm_rf_cat]; exact Nat.le_of_ble_eq_true rfl)) dX10_isFree_174 ⟨by decide, by decide⟩ (fun r9 M9 H locs hp hX1 hI => ?_)
      clear hw
      obtain ⟨r_2, rfl, rfl, hw⟩ := hp
      refine pm_nrm (cells' := 0) (slots' := 0) (g2 := F0 m 177 ls [.int r_2]) rfl rfl rfl ?_
      refine lv_istore (lv' := [(6, .int r_2), (0, .ref (H0.size + v0)), (1, .int v1), (2, .int v2), (3, .int v3), (4, .int v4), (5, .int v5)]) hx hb dX10_isFree_177 hl (by decide) rfl (fun ls hl_3 => ?_)
      refine lv_iload hx hb dX10_isFree_179 (lv_at hl_3 0 rfl) ?_
      refine lv_iload_n hx hb dX10_isFree_181 rfl (lv_at hl_3 4 rfl) ?_
      refine lv_icmp_ne (tgt := 187) hx hb dX10_isFree_182 (by decide) (fun h_4 => ?_) (fun h_4 => ?_)
      · replace hw := hw.1 h_4
        refine lv_iconst (v := (1 : Int32)) hx hb dX10_isFree_187 (by decide) ?_
        refine lv_istore (lv' := [(7, .int (1 : Int32)), (6, .int r_2), (0, .ref (H0.size + v0)), (1, .int v1), (2, .int v2), (3, .int v3), (4, .int v4), (5, .int v5)]) hx hb dX10_isFree_188 hl_3 (by decide) rfl (fun ls hl_5 => ?_)
        obtain ⟨n_6, hw⟩ := hw
        exact c_X10_isFree_190 E hret hk_6 n_6 _ _ _ _ hX hI t_v0 (lv_sub hl_5 [2, 3, 4, 5, 6, 7, 1, 0] rfl) hw
      · replace hw := hw.2 h_4
        refine lv_iconst (v := (0 : Int32)) hx hb dX10_isFree_185 (by decide) ?_
        exact pm_zret E hret hI hX rfl ⟨_, rfl, hw⟩ (by decide) (by decide) dX10_isFree_186
    · replace hw := hw.2 h_1
      refine lv_aload_n hx hb dX10_isFree_78 rfl (lv_at hl 0 rfl) ?_
      refine lv_iload hx hb dX10_isFree_79 (lv_at hl 6 rfl) ?_
      refine lv_iload_n hx hb dX10_isFree_81 rfl (lv_at hl 3 rfl) ?_
      refine pm_callV (As := [.int v6, .int v3]) (rest := []) 2 E hI (k_X10_lead t_v0 hw) t_v0 (by decide) rfl kc_X10_lead kl_X10_183 km_X10_lead ks_X10_lead ki_X10 (by decide +kernel) ⟨by decide, by decide⟩ rfl hl.1 rfl (by first | exact Nat.le_of_ble_eq_true rfl | (simp only [List.map, pm_rf_cat]; exact Nat.le_of_ble_eq_true rfl)) dX10_isFree_82 ⟨by decide, by decide⟩ (fun r9 M9 H locs hp hX1 hI => ?_)
      clear hw
      obtain ⟨r_7, rfl, rfl, hw⟩ := hp
      refine pm_nrm (cells' := 0) (slots' := 0) (g2 := F0 m 85 ls [.int r_7]) rfl rfl rfl ?_
      refine lv_istore (lv' := [(7, .int r_7), (0, .ref (H0.size + v0)), (1, .int v1), (2, .int v2), (3, .int v3), (4, .int v4), (5, .int v5), (6, .int v6)]) hx hb dX10_isFree_85 hl (by decide) rfl (fun ls hl_8 => ?_)
      refine lv_aload_n hx hb dX10_isFree_87 rfl (lv_at hl_8 1 rfl) ?_
      obtain ⟨q_9, e_q_9, hw⟩ := hw
      refine gf_X10_69 E hI t_v0 dX10_isFree_88 e_q_9 (fun t_q_9 => ?_)
      refine lv_bipush (v := (6 : Int32)) hx hb dX10_isFree_91 (by decide) ?_
      refine lv_iload hx hb dX10_isFree_93 (lv_at hl_8 5 rfl) ?_
      refine lv_imul hx hb dX10_isFree_95 ?_
      refine lv_iload hx hb dX10_isFree_96 (lv_at hl_8 0 rfl) ?_
      refine lv_iadd hx hb dX10_isFree_98 ?_
      obtain ⟨h_10, hw⟩ := hw
      refine pm_iald E hI t_q_9 h_10 dX10_isFree_99 ?_
      refine lv_topi (fun x_11 e_x_11 => ?_)
      replace hw := hw x_11 e_x_11
      refine lv_istore (lv' := [(8, .int x_11), (7, .int r_7), (0, .ref (H0.size + v0)), (1, .int v1), (2, .int v2), (3, .int v3), (4, .int v4), (5, .int v5), (6, .int v6)]) hx hb dX10_isFree_100 hl_8 (by decide) rfl (fun ls hl_12 => ?_)
      refine lv_iconst (v := (0 : Int32)) hx hb dX10_isFree_102 (by decide) ?_
      refine lv_istore (lv' := [(9, .int (0 : Int32)), (8, .int x_11), (7, .int r_7), (0, .ref (H0.size + v0)), (1, .int v1), (2, .int v2), (3, .int v3), (4, .int v4), (5, .int v5), (6, .int v6)]) hx hb dX10_isFree_103 hl_12 (by decide) rfl (fun ls hl_13 => ?_)
      obtain ⟨n_14, hw⟩ := hw
      exact c_X10_isFree_105 E hret hk_6 ih n_14 _ _ _ _ _ hX hI t_v0 (lv_sub hl_13 [3, 4, 5, 6, 7, 8, 9, 1, 0] rfl) hw
set_option maxHeartbeats 4000000 in
set_option maxRecDepth 100000 in
theorem c_X10_isFree_30 {p : Program} {l : Launch} {e : Env} {s : State} {m : MethodId} {args : Array Value} {below : List Frame} {meth : Method} {c : Code} {G : pm_G} {H0 : Heap} {M0 : pm_M} {Post : Int32 → pm_M → Prop} {v0 : Nat} {v1 : Int32} {v2 : Int32} {v3 : Int32} {v4 : Int32} {v5 : Int32} {k_6 : Int32 → Int32 → pm_M → Prop} (E : pm_E G p s m args meth c cX10_isFree 10 RX10) (hret : meth.sig.returnType = (some .boolean)) (hk_6 : ∀ (v4 : Int32) (v5 : Int32) (M : pm_M) (H : Heap) (locs : List Loc) (ls : Array Slot), pm_X M0 M → pm_I G H0 M H locs → (pm_is M v0 9) → lv_has ls 10 [(0, .ref (H0.size + v0)), (1, .int v1), (2, .int v2), (3, .int v3), (4, .int v4), (5, .int v5)] → k_6 v4 v5 M → W p l e rm_X10_isFree s m args below meth c H locs 0 0 (pm_Z G H0 M0 (pm_Pi Post) below args s rm_X10_isFree.cells rm_X10_isFree.slots) (F0 m 6 ls [])) : ∀ (n : Nat) (v6 : Int32) (M : pm_M) (H : Heap) (locs : List Loc) (ls : Array Slot), pm_X M0 M → pm_I G H0 M H locs → (pm_is M v0 9) → lv_has ls 10 [(0, .ref (H0.size + v0)), (1, .int v1), (2, .int v2), (3, .int v3), (4, .int v4), (5, .int v5), (6, .int v6)] → w_X10_isFree_30 Post k_6 v0 v1 v2 v3 v4 v5 n v6 M → W p l e rm_X10_isFree s m args below meth c H locs 0 0 (pm_Z G H0 M0 (pm_Pi Post) below args s rm_X10_isFree.cells rm_X10_isFree.slots) (F0 m 30 ls []) := by
  have hx := E.1
  have hb := E.2.1
  have hown := E.2.2.2.1
  have hts := E.2.2.2.2.1
  intro n
  induction n with
  | zero =>
    intro v6 M H locs ls hX hI t_v0 hl hw
    unfold w_X10_isFree_30 at hw
    exact hw.elim
  | succ n ih =>
    intro v6 M H locs ls hX hI t_v0 hl hw
    unfold w_X10_isFree_30 at hw
    refine lv_iload hx hb dX10_isFree_30 (lv_at hl 6 rfl) ?_
    refine lv_iload_n hx hb dX10_isFree_32 rfl (lv_at hl 3 rfl) ?_
    refine lv_icmp_ge (tgt := 68) hx hb dX10_isFree_33 (by decide) (fun h_1 => ?_) (fun h_1 => ?_)
    · replace hw := hw.1 h_1
      refine lv_iconst (v := (0 : Int32)) hx hb dX10_isFree_68 (by decide) ?_
      refine lv_istore (lv' := [(6, .int (0 : Int32)), (0, .ref (H0.size + v0)), (1, .int v1), (2, .int v2), (3, .int v3), (4, .int v4), (5, .int v5)]) hx hb dX10_isFree_69 hl (by decide) rfl (fun ls hl_2 => ?_)
      obtain ⟨n_3, hw⟩ := hw
      exact c_X10_isFree_71 E hret hk_6 n_3 _ _ _ _ _ hX hI t_v0 (lv_sub hl_2 [1, 2, 3, 4, 5, 6, 0] rfl) hw
    · replace hw := hw.2 h_1
      refine lv_aload_n hx hb dX10_isFree_36 rfl (lv_at hl 0 rfl) ?_
      obtain ⟨q_4, e_q_4, hw⟩ := hw
      refine gf_X10_69 E hI t_v0 dX10_isFree_37 e_q_4 (fun t_q_4 => ?_)
      refine lv_bipush (v := (6 : Int32)) hx hb dX10_isFree_40 (by decide) ?_
      refine lv_iload hx hb dX10_isFree_42 (lv_at hl 4 rfl) ?_
      refine lv_imul hx hb dX10_isFree_44 ?_
      refine lv_iload hx hb dX10_isFree_45 (lv_at hl 6 rfl) ?_
      refine lv_iadd hx hb dX10_isFree_47 ?_
      refine lv_aload_n hx hb dX10_isFree_48 rfl (lv_at hl 0 rfl) ?_
      obtain ⟨q_5, e_q_5, hw⟩ := hw
      refine gf_X10_66 E hI t_v0 dX10_isFree_49 e_q_5 (fun t_q_5 => ?_)
      refine lv_bipush (v := (6 : Int32)) hx hb dX10_isFree_52 (by decide) ?_
      refine lv_iload hx hb dX10_isFree_54 (lv_at hl 5 rfl) ?_
      refine lv_imul hx hb dX10_isFree_56 ?_
      refine lv_iload hx hb dX10_isFree_57 (lv_at hl 6 rfl) ?_
      refine lv_iadd hx hb dX10_isFree_59 ?_
      obtain ⟨h_6, hw⟩ := hw
      refine pm_iald E hI t_q_5 h_6 dX10_isFree_60 ?_
      obtain ⟨h_7, hw⟩ := hw
      refine ps_iast E hI t_q_4 h_7 dX10_isFree_61 (fun H locs M_8 e_M_8 hX1 hI => ?_)
      replace hw := hw M_8 e_M_8
      replace t_v0 := t_v0.x hX1
      replace hX := hX.tr hX1
      obtain ⟨x_9, e_x_9⟩ : ∃ z : Int32, z = v6 + (1 : Int32) := ⟨_, rfl⟩
      refine lv_iinc (v := x_9) (lv' := [(6, .int x_9), (0, .ref (H0.size + v0)), (1, .int v1), (2, .int v2), (3, .int v3), (4, .int v4), (5, .int v5)]) hx hb dX10_isFree_62 hl (k := 6) rfl (by rw [e_x_9]; rfl) (by decide) rfl (fun ls hl_10 => ?_)
      replace hw := hw x_9 e_x_9
      refine lv_goto (tgt := 30) hx hb dX10_isFree_65 (by decide) ?_
      exact ih _ _ _ _ _ hX hI t_v0 (lv_sub hl_10 [1, 2, 3, 4, 5, 6, 0] rfl) hw
set_option maxHeartbeats 4000000 in
set_option maxRecDepth 100000 in
theorem c_X10_isFree_6 {p : Program} {l : Launch} {e : Env} {s : State} {m : MethodId} {args : Array Value} {below : List Frame} {meth : Method} {c : Code} {G : pm_G} {H0 : Heap} {M0 : pm_M} {Post : Int32 → pm_M → Prop} {v0 : Nat} {v1 : Int32} {v2 : Int32} {v3 : Int32} (E : pm_E G p s m args meth c cX10_isFree 10 RX10) (hret : meth.sig.returnType = (some .boolean)) : ∀ (n : Nat) (v4 : Int32) (v5 : Int32) (M : pm_M) (H : Heap) (locs : List Loc) (ls : Array Slot), pm_X M0 M → pm_I G H0 M H locs → (pm_is M v0 9) → lv_has ls 10 [(0, .ref (H0.size + v0)), (1, .int v1), (2, .int v2), (3, .int v3), (4, .int v4), (5, .int v5)] → w_X10_isFree_6 Post v0 v1 v2 v3 n v4 v5 M → W p l e rm_X10_isFree s m args below meth c H locs 0 0 (pm_Z G H0 M0 (pm_Pi Post) below args s rm_X10_isFree.cells rm_X10_isFree.slots) (F0 m 6 ls []) := by
  have hx := E.1
  have hb := E.2.1
  have hown := E.2.2.2.1
  have hts := E.2.2.2.2.1
  intro n
  induction n with
  | zero =>
    intro v4 v5 M H locs ls hX hI t_v0 hl hw
    unfold w_X10_isFree_6 at hw
    exact hw.elim
  | succ n ih =>
    intro v4 v5 M H locs ls hX hI t_v0 hl hw
    unfold w_X10_isFree_6 at hw
    refine lv_iload hx hb dX10_isFree_6 (lv_at hl 5 rfl) ?_
    refine lv_aload_n hx hb dX10_isFree_8 rfl (lv_at hl 0 rfl) ?_
    refine gf_X10_7 E hI t_v0 dX10_isFree_9 ?_
    refine lv_icmp_ge (tgt := 273) hx hb dX10_isFree_12 (by decide) (fun h_1 => ?_) (fun h_1 => ?_)
    · replace hw := hw.1 h_1
      refine lv_iconst (v := (1 : Int32)) hx hb dX10_isFree_273 (by decide) ?_
      exact pm_zret E hret hI hX rfl ⟨_, rfl, hw⟩ (by decide) (by decide) dX10_isFree_274
    · replace hw := hw.2 h_1
      refine lv_iload_n hx hb dX10_isFree_15 rfl (lv_at hl 1 rfl) ?_
      refine lv_iload hx hb dX10_isFree_16 (lv_at hl 5 rfl) ?_
      refine lv_ishr hx hb dX10_isFree_18 ?_
      refine lv_iconst (v := (1 : Int32)) hx hb dX10_isFree_19 (by decide) ?_
      refine lv_iand hx hb dX10_isFree_20 ?_
      refine lv_if_ne (tgt := 27) hx hb dX10_isFree_21 (by decide) (fun h_2 => ?_) (fun h_2 => ?_)
      · replace hw := hw.1 h_2
        refine lv_iconst (v := (0 : Int32)) hx hb dX10_isFree_27 (by decide) ?_
        refine lv_istore (lv' := [(6, .int (0 : Int32)), (0, .ref (H0.size + v0)), (1, .int v1), (2, .int v2), (3, .int v3), (4, .int v4), (5, .int v5)]) hx hb dX10_isFree_28 hl (by decide) rfl (fun ls hl_3 => ?_)
        obtain ⟨n_4, hw⟩ := hw
        exact c_X10_isFree_30 E hret ih n_4 _ _ _ _ _ hX hI t_v0 (lv_sub hl_3 [1, 2, 3, 4, 5, 6, 0] rfl) hw
      · replace hw := hw.2 h_2
        refine lv_goto (tgt := 267) hx hb dX10_isFree_24 (by decide) ?_
        exact c_X10_isFree_267 E hret ih hX hI t_v0 (lv_sub hl [0, 1, 2, 3, 4, 5] rfl) hw
set_option maxHeartbeats 4000000 in
set_option maxRecDepth 100000 in
theorem k_X10_isFree {l : Launch} {G : pm_G} {H0 : Heap} {th : Nat} {a1 : Int32} {a2 : Int32} {a3 : Int32} {M : pm_M} {Post : Int32 → pm_M → Prop} (t_th : pm_is M th 9) (hw : w_X10_isFree th a1 a2 a3 M Post) : pm_C l G H0 yX10_isFree cX10_isFree 10 (some .boolean) rm_X10_isFree [.ref (H0.size + th), .int a1, .int a2, .int a3] M (pm_Pi Post) := by
  refine pm_start (by decide +kernel) (Nat.le_of_ble_eq_true rfl) ?_
  intro p e s m args below meth c H ls E hret hnm hI hl
  have hX : pm_X M M := pm_X.rf
  have hl : lv_has ls 10 [(0, .ref (H0.size + th)), (1, .int a1), (2, .int a2), (3, .int a3)] := hl
  have hx := E.1
  have hb := E.2.1
  have hown := E.2.2.2.1
  have hts := E.2.2.2.2.1
  unfold w_X10_isFree at hw
  refine lv_iconst (v := (0 : Int32)) hx hb dX10_isFree_0 (by decide) ?_
  refine lv_istore (lv' := [(4, .int (0 : Int32)), (0, .ref (H0.size + th)), (1, .int a1), (2, .int a2), (3, .int a3)]) hx hb dX10_isFree_1 hl (by decide) rfl (fun ls hl_1 => ?_)
  refine lv_iconst (v := (0 : Int32)) hx hb dX10_isFree_3 (by decide) ?_
  refine lv_istore (lv' := [(5, .int (0 : Int32)), (4, .int (0 : Int32)), (0, .ref (H0.size + th)), (1, .int a1), (2, .int a2), (3, .int a3)]) hx hb dX10_isFree_4 hl_1 (by decide) rfl (fun ls hl_2 => ?_)
  obtain ⟨n_3, hw⟩ := hw
  exact c_X10_isFree_6 E hret n_3 _ _ _ _ _ _ hX hI t_th (lv_sub hl_2 [2, 3, 4, 5, 1, 0] rfl) hw
set_option maxHeartbeats 4000000 in
set_option maxRecDepth 100000 in
theorem c_X10_readsRows_144 {p : Program} {l : Launch} {e : Env} {s : State} {m : MethodId} {args : Array Value} {below : List Frame} {meth : Method} {c : Code} {G : pm_G} {H0 : Heap} {M0 : pm_M} {Post : pm_M → Prop} {M : pm_M} (E : pm_E G p s m args meth c cX10_readsRows 5 RX10) (hret : meth.sig.returnType = none) {H : Heap} {locs : List Loc} {ls : Array Slot} (hX : pm_X M0 M) (hI : pm_I G H0 M H locs) (hl : lv_has ls 5 []) (hw : w_X10_readsRows_144 Post M) : W p l e rm_X10_readsRows s m args below meth c H locs 0 0 (pm_Z G H0 M0 (pm_Pv Post) below args s rm_X10_readsRows.cells rm_X10_readsRows.slots) (F0 m 144 ls []) := by
  have hx := E.1
  have hb := E.2.1
  have hown := E.2.2.2.1
  have hts := E.2.2.2.2.1
  unfold w_X10_readsRows_144 at hw
  exact pm_vret E hret hI hX ⟨rfl, hw⟩ (by decide) (by decide) dX10_readsRows_144
set_option maxHeartbeats 4000000 in
set_option maxRecDepth 100000 in
theorem c_X10_readsRows_138 {p : Program} {l : Launch} {e : Env} {s : State} {m : MethodId} {args : Array Value} {below : List Frame} {meth : Method} {c : Code} {G : pm_G} {H0 : Heap} {M0 : pm_M} {Post : pm_M → Prop} {v0 : Nat} {v1 : Int32} {v2 : Int32} {v3 : Int32} {M : pm_M} {k_108 : Int32 → pm_M → Prop} (E : pm_E G p s m args meth c cX10_readsRows 5 RX10) (hret : meth.sig.returnType = none) (hk_108 : ∀ (v3 : Int32) (M : pm_M) (H : Heap) (locs : List Loc) (ls : Array Slot), pm_X M0 M → pm_I G H0 M H locs → (pm_is M v0 9) → lv_has ls 5 [(0, .ref (H0.size + v0)), (1, .int v1), (2, .int v2), (3, .int v3)] → k_108 v3 M → W p l e rm_X10_readsRows s m args below meth c H locs 0 0 (pm_Z G H0 M0 (pm_Pv Post) below args s rm_X10_readsRows.cells rm_X10_readsRows.slots) (F0 m 108 ls [])) {H : Heap} {locs : List Loc} {ls : Array Slot} (hX : pm_X M0 M) (hI : pm_I G H0 M H locs) (t_v0 : pm_is M v0 9) (hl : lv_has ls 5 [(0, .ref (H0.size + v0)), (1, .int v1), (2, .int v2), (3, .int v3)]) (hw : w_X10_readsRows_138 Post k_108 v0 v1 v2 v3 M) : W p l e rm_X10_readsRows s m args below meth c H locs 0 0 (pm_Z G H0 M0 (pm_Pv Post) below args s rm_X10_readsRows.cells rm_X10_readsRows.slots) (F0 m 138 ls []) := by
  have hx := E.1
  have hb := E.2.1
  have hown := E.2.2.2.1
  have hts := E.2.2.2.2.1
  unfold w_X10_readsRows_138 at hw
  obtain ⟨x_1, e_x_1⟩ : ∃ z : Int32, z = v3 + (1 : Int32) := ⟨_, rfl⟩
  refine lv_iinc (v := x_1) (lv' := [(3, .int x_1), (0, .ref (H0.size + v0)), (1, .int v1), (2, .int v2)]) hx hb dX10_readsRows_138 hl (k := 3) rfl (by rw [e_x_1]; rfl) (by decide) rfl (fun ls hl_2 => ?_)
  replace hw := hw x_1 e_x_1
  refine lv_goto (tgt := 108) hx hb dX10_readsRows_141 (by decide) ?_
  exact hk_108 _ _ _ _ _ hX hI t_v0 (lv_sub hl_2 [1, 2, 3, 0] rfl) hw
set_option maxHeartbeats 4000000 in
set_option maxRecDepth 100000 in
theorem c_X10_readsRows_108 {p : Program} {l : Launch} {e : Env} {s : State} {m : MethodId} {args : Array Value} {below : List Frame} {meth : Method} {c : Code} {G : pm_G} {H0 : Heap} {M0 : pm_M} {Post : pm_M → Prop} {v0 : Nat} {v1 : Int32} {v2 : Int32} (E : pm_E G p s m args meth c cX10_readsRows 5 RX10) (hret : meth.sig.returnType = none) : ∀ (n : Nat) (v3 : Int32) (M : pm_M) (H : Heap) (locs : List Loc) (ls : Array Slot), pm_X M0 M → pm_I G H0 M H locs → (pm_is M v0 9) → lv_has ls 5 [(0, .ref (H0.size + v0)), (1, .int v1), (2, .int v2), (3, .int v3)] → w_X10_readsRows_108 Post v0 v1 v2 n v3 M → W p l e rm_X10_readsRows s m args below meth c H locs 0 0 (pm_Z G H0 M0 (pm_Pv Post) below args s rm_X10_readsRows.cells rm_X10_readsRows.slots) (F0 m 108 ls []) := by
  have hx := E.1
  have hb := E.2.1
  have hown := E.2.2.2.1
  have hts := E.2.2.2.2.1
  intro n
  induction n with
  | zero =>
    intro v3 M H locs ls hX hI t_v0 hl hw
    unfold w_X10_readsRows_108 at hw
    exact hw.elim
  | succ n ih =>
    intro v3 M H locs ls hX hI t_v0 hl hw
    unfold w_X10_readsRows_108 at hw
    refine lv_iload_n hx hb dX10_readsRows_108 rfl (lv_at hl 3 rfl) ?_
    refine lv_aload_n hx hb dX10_readsRows_109 rfl (lv_at hl 0 rfl) ?_
    refine gf_X10_13 E hI t_v0 dX10_readsRows_110 ?_
    refine lv_icmp_gt (tgt := 144) hx hb dX10_readsRows_113 (by decide) (fun h_1 => ?_) (fun h_1 => ?_)
    · replace hw := hw.1 h_1
      exact c_X10_readsRows_144 E hret hX hI (lv_sub hl [] rfl) hw
    · replace hw := hw.2 h_1
      refine lv_aload_n hx hb dX10_readsRows_116 rfl (lv_at hl 0 rfl) ?_
      refine gf_X10_116 E hI t_v0 dX10_readsRows_117 ?_
      refine lv_if_ne (tgt := 144) hx hb dX10_readsRows_120 (by decide) (fun h_2 => ?_) (fun h_2 => ?_)
      · replace hw := hw.1 h_2
        exact c_X10_readsRows_144 E hret hX hI (lv_sub hl [] rfl) hw
      · replace hw := hw.2 h_2
        refine lv_aload_n hx hb dX10_readsRows_123 rfl (lv_at hl 0 rfl) ?_
        refine lv_iload_n hx hb dX10_readsRows_124 rfl (lv_at hl 3 rfl) ?_
        refine lv_iload_n hx hb dX10_readsRows_125 rfl (lv_at hl 1 rfl) ?_
        refine lv_iload_n hx hb dX10_readsRows_126 rfl (lv_at hl 2 rfl) ?_
        refine pm_callV (As := [.int v3, .int v1, .int v2]) (rest := []) 3 E hI (k_X10_isFree t_v0 hw) t_v0 (by decide) rfl kc_X10_isFree kl_X10_180 km_X10_isFree ks_X10_isFree ki_X10 (by decide +kernel) ⟨by decide, by decide⟩ rfl hl.1 rfl (by first | exact Nat.le_of_ble_eq_true rfl | (simp only [List.map, pm_rf_cat]; exact Nat.le_of_ble_eq_true rfl)) dX10_readsRows_127 ⟨by decide, by decide⟩ (fun r9 M_3 H locs hp hX1 hI => ?_)
        clear hw
        obtain ⟨r_4, rfl, hw⟩ := hp
        replace t_v0 := t_v0.x hX1
        replace hX := hX.tr hX1
        refine pm_nrm (cells' := 0) (slots' := 0) (g2 := F0 m 130 ls [.int r_4]) rfl rfl rfl ?_
        refine lv_if_eq (tgt := 138) hx hb dX10_readsRows_130 (by decide) (fun h_5 => ?_) (fun h_5 => ?_)
        · replace hw := hw.1 h_5
          exact c_X10_readsRows_138 E hret ih hX hI t_v0 (lv_sub hl [0, 1, 2, 3] rfl) hw
        · replace hw := hw.2 h_5
          refine lv_aload_n hx hb dX10_readsRows_133 rfl (lv_at hl 0 rfl) ?_
          refine lv_iload_n hx hb dX10_readsRows_134 rfl (lv_at hl 3 rfl) ?_
          refine pm_callV (As := [.int v3]) (rest := []) 1 E hI (k_X10_allow t_v0 hw) t_v0 (by decide) rfl kc_X10_allow kl_X10_156 km_X10_allow ks_X10_allow ki_X10 (by decide +kernel) ⟨by decide, by decide⟩ rfl hl.1 rfl (by first | exact Nat.le_of_ble_eq_true rfl | (simp only [List.map, pm_rf_cat]; exact Nat.le_of_ble_eq_true rfl)) dX10_readsRows_135 ⟨by decide, by decide⟩ (fun r9 M_6 H locs hp hX1 hI => ?_)
          clear hw
          obtain ⟨rfl, hw⟩ := hp
          replace t_v0 := t_v0.x hX1
          replace hX := hX.tr hX1
          refine pm_nrm (cells' := 0) (slots' := 0) (g2 := F0 m 138 ls []) rfl rfl rfl ?_
          exact c_X10_readsRows_138 E hret ih hX hI t_v0 (lv_sub hl [0, 1, 2, 3] rfl) hw
set_option maxHeartbeats 4000000 in
set_option maxRecDepth 100000 in
theorem c_X10_readsRows_67 {p : Program} {l : Launch} {e : Env} {s : State} {m : MethodId} {args : Array Value} {below : List Frame} {meth : Method} {c : Code} {G : pm_G} {H0 : Heap} {M0 : pm_M} {Post : pm_M → Prop} {v0 : Nat} {v1 : Int32} {v2 : Int32} {v3 : Int32} {k_56 : Int32 → pm_M → Prop} (E : pm_E G p s m args meth c cX10_readsRows 5 RX10) (hret : meth.sig.returnType = none) (hk_56 : ∀ (v3 : Int32) (M : pm_M) (H : Heap) (locs : List Loc) (ls : Array Slot), pm_X M0 M → pm_I G H0 M H locs → (pm_is M v0 9) → lv_has ls 5 [(0, .ref (H0.size + v0)), (1, .int v1), (2, .int v2), (3, .int v3)] → k_56 v3 M → W p l e rm_X10_readsRows s m args below meth c H locs 0 0 (pm_Z G H0 M0 (pm_Pv Post) below args s rm_X10_readsRows.cells rm_X10_readsRows.slots) (F0 m 56 ls [])) : ∀ (n : Nat) (v4 : Int32) (M : pm_M) (H : Heap) (locs : List Loc) (ls : Array Slot), pm_X M0 M → pm_I G H0 M H locs → (pm_is M v0 9) → lv_has ls 5 [(0, .ref (H0.size + v0)), (1, .int v1), (2, .int v2), (3, .int v3), (4, .int v4)] → w_X10_readsRows_67 Post k_56 v0 v1 v2 v3 n v4 M → W p l e rm_X10_readsRows s m args below meth c H locs 0 0 (pm_Z G H0 M0 (pm_Pv Post) below args s rm_X10_readsRows.cells rm_X10_readsRows.slots) (F0 m 67 ls []) := by
  have hx := E.1
  have hb := E.2.1
  have hown := E.2.2.2.1
  have hts := E.2.2.2.2.1
  intro n
  induction n with
  | zero =>
    intro v4 M H locs ls hX hI t_v0 hl hw
    unfold w_X10_readsRows_67 at hw
    exact hw.elim
  | succ n ih =>
    intro v4 M H locs ls hX hI t_v0 hl hw
    unfold w_X10_readsRows_67 at hw
    refine lv_iload hx hb dX10_readsRows_67 (lv_at hl 4 rfl) ?_
    refine lv_iload_n hx hb dX10_readsRows_69 rfl (lv_at hl 2 rfl) ?_
    refine lv_icmp_ge (tgt := 100) hx hb dX10_readsRows_70 (by decide) (fun h_1 => ?_) (fun h_1 => ?_)
    · replace hw := hw.1 h_1
      obtain ⟨x_2, e_x_2⟩ : ∃ z : Int32, z = v3 + (1 : Int32) := ⟨_, rfl⟩
      refine lv_iinc (v := x_2) (lv' := [(3, .int x_2), (0, .ref (H0.size + v0)), (1, .int v1), (2, .int v2), (4, .int v4)]) hx hb dX10_readsRows_100 hl (k := 3) rfl (by rw [e_x_2]; rfl) (by decide) rfl (fun ls hl_3 => ?_)
      replace hw := hw x_2 e_x_2
      refine lv_goto (tgt := 56) hx hb dX10_readsRows_103 (by decide) ?_
      exact hk_56 _ _ _ _ _ hX hI t_v0 (lv_sub hl_3 [1, 2, 3, 0] rfl) hw
    · replace hw := hw.2 h_1
      refine lv_aload_n hx hb dX10_readsRows_73 rfl (lv_at hl 0 rfl) ?_
      obtain ⟨q_4, e_q_4, hw⟩ := hw
      refine gf_X10_66 E hI t_v0 dX10_readsRows_74 e_q_4 (fun t_q_4 => ?_)
      refine lv_bipush (v := (6 : Int32)) hx hb dX10_readsRows_77 (by decide) ?_
      refine lv_iload_n hx hb dX10_readsRows_79 rfl (lv_at hl 3 rfl) ?_
      refine lv_imul hx hb dX10_readsRows_80 ?_
      refine lv_iload hx hb dX10_readsRows_81 (lv_at hl 4 rfl) ?_
      refine lv_iadd hx hb dX10_readsRows_83 ?_
      refine lv_aload_n hx hb dX10_readsRows_84 rfl (lv_at hl 0 rfl) ?_
      refine lv_lconst (v := (0 : Int64)) hx hb dX10_readsRows_85 (by decide) ?_
      refine lv_iload_n hx hb dX10_readsRows_86 rfl (lv_at hl 1 rfl) ?_
      refine lv_iconst (v := (1 : Int32)) hx hb dX10_readsRows_87 (by decide) ?_
      refine lv_isub hx hb dX10_readsRows_88 ?_
      refine lv_i2l hx hb dX10_readsRows_89 rfl ?_
      refine pm_callV (As := [.long (0 : Int64), .long ((v1 - (1 : Int32)).toInt64)]) (rest := [.int (((6 : Int32) * v3) + v4), .ref (H0.size + q_4)]) 2 E hI (k_X10_next t_v0 hw) t_v0 (by decide) rfl kc_X10_next kl_X10_152 km_X10_next ks_X10_next ki_X10 (by decide +kernel) ⟨by decide, by decide⟩ rfl hl.1 rfl (by first | exact Nat.le_of_ble_eq_true rfl | (simp only [List.map, pm_rf_cat]; exact Nat.le_of_ble_eq_true rfl)) dX10_readsRows_90 ⟨by decide, by decide⟩ (fun r9 M_5 H locs hp hX1 hI => ?_)
      clear hw
      obtain ⟨r_6, rfl, hw⟩ := hp
      replace t_v0 := t_v0.x hX1
      replace t_q_4 := t_q_4.x hX1
      replace hX := hX.tr hX1
      refine pm_nrm (cells' := 0) (slots' := 0) (g2 := F0 m 93 ls [.int r_6, .int (((6 : Int32) * v3) + v4), .ref (H0.size + q_4)]) rfl rfl rfl ?_
      obtain ⟨h_7, hw⟩ := hw
      refine ps_iast E hI t_q_4 h_7 dX10_readsRows_93 (fun H locs M_8 e_M_8 hX1 hI => ?_)
      replace hw := hw M_8 e_M_8
      replace t_v0 := t_v0.x hX1
      replace hX := hX.tr hX1
      obtain ⟨x_9, e_x_9⟩ : ∃ z : Int32, z = v4 + (1 : Int32) := ⟨_, rfl⟩
      refine lv_iinc (v := x_9) (lv' := [(4, .int x_9), (0, .ref (H0.size + v0)), (1, .int v1), (2, .int v2), (3, .int v3)]) hx hb dX10_readsRows_94 hl (k := 4) rfl (by rw [e_x_9]; rfl) (by decide) rfl (fun ls hl_10 => ?_)
      replace hw := hw x_9 e_x_9
      refine lv_goto (tgt := 67) hx hb dX10_readsRows_97 (by decide) ?_
      exact ih _ _ _ _ _ hX hI t_v0 (lv_sub hl_10 [1, 2, 3, 4, 0] rfl) hw
set_option maxHeartbeats 4000000 in
set_option maxRecDepth 100000 in
theorem c_X10_readsRows_56 {p : Program} {l : Launch} {e : Env} {s : State} {m : MethodId} {args : Array Value} {below : List Frame} {meth : Method} {c : Code} {G : pm_G} {H0 : Heap} {M0 : pm_M} {Post : pm_M → Prop} {v0 : Nat} {v1 : Int32} {v2 : Int32} (E : pm_E G p s m args meth c cX10_readsRows 5 RX10) (hret : meth.sig.returnType = none) : ∀ (n : Nat) (v3 : Int32) (M : pm_M) (H : Heap) (locs : List Loc) (ls : Array Slot), pm_X M0 M → pm_I G H0 M H locs → (pm_is M v0 9) → lv_has ls 5 [(0, .ref (H0.size + v0)), (1, .int v1), (2, .int v2), (3, .int v3)] → w_X10_readsRows_56 Post v0 v1 v2 n v3 M → W p l e rm_X10_readsRows s m args below meth c H locs 0 0 (pm_Z G H0 M0 (pm_Pv Post) below args s rm_X10_readsRows.cells rm_X10_readsRows.slots) (F0 m 56 ls []) := by
  have hx := E.1
  have hb := E.2.1
  have hown := E.2.2.2.1
  have hts := E.2.2.2.2.1
  intro n
  induction n with
  | zero =>
    intro v3 M H locs ls hX hI t_v0 hl hw
    unfold w_X10_readsRows_56 at hw
    exact hw.elim
  | succ n ih =>
    intro v3 M H locs ls hX hI t_v0 hl hw
    unfold w_X10_readsRows_56 at hw
    refine lv_iload_n hx hb dX10_readsRows_56 rfl (lv_at hl 3 rfl) ?_
    refine lv_aload_n hx hb dX10_readsRows_57 rfl (lv_at hl 0 rfl) ?_
    refine gf_X10_7 E hI t_v0 dX10_readsRows_58 ?_
    refine lv_icmp_ge (tgt := 106) hx hb dX10_readsRows_61 (by decide) (fun h_1 => ?_) (fun h_1 => ?_)
    · replace hw := hw.1 h_1
      refine lv_iconst (v := (0 : Int32)) hx hb dX10_readsRows_106 (by decide) ?_
      refine lv_istore_n (lv' := [(3, .int (0 : Int32)), (0, .ref (H0.size + v0)), (1, .int v1), (2, .int v2)]) hx hb dX10_readsRows_107 rfl hl (by decide) rfl (fun ls hl_2 => ?_)
      obtain ⟨n_3, hw⟩ := hw
      exact c_X10_readsRows_108 E hret n_3 _ _ _ _ _ hX hI t_v0 (lv_sub hl_2 [1, 2, 3, 0] rfl) hw
    · replace hw := hw.2 h_1
      refine lv_iconst (v := (0 : Int32)) hx hb dX10_readsRows_64 (by decide) ?_
      refine lv_istore (lv' := [(4, .int (0 : Int32)), (0, .ref (H0.size + v0)), (1, .int v1), (2, .int v2), (3, .int v3)]) hx hb dX10_readsRows_65 hl (by decide) rfl (fun ls hl_4 => ?_)
      obtain ⟨n_5, hw⟩ := hw
      exact c_X10_readsRows_67 E hret ih n_5 _ _ _ _ _ hX hI t_v0 (lv_sub hl_4 [1, 2, 3, 4, 0] rfl) hw
set_option maxHeartbeats 4000000 in
set_option maxRecDepth 100000 in
theorem c_X10_readsRows_45 {p : Program} {l : Launch} {e : Env} {s : State} {m : MethodId} {args : Array Value} {below : List Frame} {meth : Method} {c : Code} {G : pm_G} {H0 : Heap} {M0 : pm_M} {Post : pm_M → Prop} {v0 : Nat} {v1 : Int32} {M : pm_M} (E : pm_E G p s m args meth c cX10_readsRows 5 RX10) (hret : meth.sig.returnType = none) {H : Heap} {locs : List Loc} {ls : Array Slot} (hX : pm_X M0 M) (hI : pm_I G H0 M H locs) (t_v0 : pm_is M v0 9) (hl : lv_has ls 5 [(0, .ref (H0.size + v0)), (1, .int v1)]) (hw : w_X10_readsRows_45 Post v0 v1 M) : W p l e rm_X10_readsRows s m args below meth c H locs 0 0 (pm_Z G H0 M0 (pm_Pv Post) below args s rm_X10_readsRows.cells rm_X10_readsRows.slots) (F0 m 45 ls []) := by
  have hx := E.1
  have hb := E.2.1
  have hown := E.2.2.2.1
  have hts := E.2.2.2.2.1
  unfold w_X10_readsRows_45 at hw
  refine lv_aload_n hx hb dX10_readsRows_45 rfl (lv_at hl 0 rfl) ?_
  refine lv_lconst (v := (1 : Int64)) hx hb dX10_readsRows_46 (by decide) ?_
  refine lv_ldc2 (v := (6 : Int64)) hx hb hown (hts _ kl_X10_178) dX10_readsRows_47 ?_
  refine pm_callV (As := [.long (1 : Int64), .long (6 : Int64)]) (rest := []) 2 E hI (k_X10_next t_v0 hw) t_v0 (by decide) rfl kc_X10_next kl_X10_152 km_X10_next ks_X10_next ki_X10 (by decide +kernel) ⟨by decide, by decide⟩ rfl hl.1 rfl (by first | exact Nat.le_of_ble_eq_true rfl | (simp only [List.map, pm_rf_cat]; exact Nat.le_of_ble_eq_true rfl)) dX10_readsRows_50 ⟨by decide, by decide⟩ (fun r9 M_1 H locs hp hX1 hI => ?_)
  clear hw
  obtain ⟨r_2, rfl, hw⟩ := hp
  replace t_v0 := t_v0.x hX1
  replace hX := hX.tr hX1
  refine pm_nrm (cells' := 0) (slots' := 0) (g2 := F0 m 53 ls [.int r_2]) rfl rfl rfl ?_
  refine lv_istore_n (lv' := [(2, .int r_2), (0, .ref (H0.size + v0)), (1, .int v1)]) hx hb dX10_readsRows_53 rfl hl (by decide) rfl (fun ls hl_3 => ?_)
  refine lv_iconst (v := (0 : Int32)) hx hb dX10_readsRows_54 (by decide) ?_
  refine lv_istore_n (lv' := [(3, .int (0 : Int32)), (2, .int r_2), (0, .ref (H0.size + v0)), (1, .int v1)]) hx hb dX10_readsRows_55 rfl hl_3 (by decide) rfl (fun ls hl_4 => ?_)
  obtain ⟨n_5, hw⟩ := hw
  exact c_X10_readsRows_56 E hret n_5 _ _ _ _ _ hX hI t_v0 (lv_sub hl_4 [2, 3, 1, 0] rfl) hw
set_option maxHeartbeats 4000000 in
set_option maxRecDepth 100000 in
theorem k_X10_readsRows {l : Launch} {G : pm_G} {H0 : Heap} {th : Nat} {M : pm_M} {Post : pm_M → Prop} (t_th : pm_is M th 9) (hw : w_X10_readsRows th M Post) : pm_C l G H0 yX10_readsRows cX10_readsRows 5 none rm_X10_readsRows [.ref (H0.size + th)] M (pm_Pv Post) := by
  refine pm_start (by decide +kernel) (Nat.le_of_ble_eq_true rfl) ?_
  intro p e s m args below meth c H ls E hret hnm hI hl
  have hX : pm_X M M := pm_X.rf
  have hl : lv_has ls 5 [(0, .ref (H0.size + th))] := hl
  have hx := E.1
  have hb := E.2.1
  have hown := E.2.2.2.1
  have hts := E.2.2.2.2.1
  unfold w_X10_readsRows at hw
  refine lv_aload_n hx hb dX10_readsRows_0 rfl (lv_at hl 0 rfl) ?_
  refine lv_ldc2 (v := (2 : Int64)) hx hb hown (hts _ kl_X10_174) dX10_readsRows_1 ?_
  refine lv_ldc2 (v := (7 : Int64)) hx hb hown (hts _ kl_X10_176) dX10_readsRows_4 ?_
  refine pm_callV (As := [.long (2 : Int64), .long (7 : Int64)]) (rest := []) 2 E hI (k_X10_next t_th hw) t_th (by decide) rfl kc_X10_next kl_X10_152 km_X10_next ks_X10_next ki_X10 (by decide +kernel) ⟨by decide, by decide⟩ rfl hl.1 rfl (by first | exact Nat.le_of_ble_eq_true rfl | (simp only [List.map, pm_rf_cat]; exact Nat.le_of_ble_eq_true rfl)) dX10_readsRows_7 ⟨by decide, by decide⟩ (fun r9 M_1 H locs hp hX1 hI => ?_)
  clear hw
  obtain ⟨r_2, rfl, hw⟩ := hp
  replace t_th := t_th.x hX1
  replace hX := hX.tr hX1
  refine pm_nrm (cells' := 0) (slots' := 0) (g2 := F0 m 10 ls [.int r_2]) rfl rfl rfl ?_
  refine lv_istore_n (lv' := [(1, .int r_2), (0, .ref (H0.size + th))]) hx hb dX10_readsRows_10 rfl hl (by decide) rfl (fun ls hl_3 => ?_)
  refine lv_aload_n hx hb dX10_readsRows_11 rfl (lv_at hl_3 1 rfl) ?_
  refine gf_X10_116 E hI t_th dX10_readsRows_12 ?_
  refine lv_if_ne (tgt := 45) hx hb dX10_readsRows_15 (by decide) (fun h_4 => ?_) (fun h_4 => ?_)
  · replace hw := hw.1 h_4
    exact c_X10_readsRows_45 E hret hX hI t_th (lv_sub hl_3 [1, 0] rfl) hw
  · replace hw := hw.2 h_4
    refine lv_iload_n hx hb dX10_readsRows_18 rfl (lv_at hl_3 0 rfl) ?_
    refine lv_iconst (v := (2 : Int32)) hx hb dX10_readsRows_19 (by decide) ?_
    refine lv_icmp_eq (tgt := 45) hx hb dX10_readsRows_20 (by decide) (fun h_5 => ?_) (fun h_5 => ?_)
    · replace hw := hw.1 h_5
      exact c_X10_readsRows_45 E hret hX hI t_th (lv_sub hl_3 [1, 0] rfl) hw
    · replace hw := hw.2 h_5
      refine lv_iload_n hx hb dX10_readsRows_23 rfl (lv_at hl_3 0 rfl) ?_
      refine lv_iconst (v := (3 : Int32)) hx hb dX10_readsRows_24 (by decide) ?_
      refine lv_icmp_eq (tgt := 45) hx hb dX10_readsRows_25 (by decide) (fun h_6 => ?_) (fun h_6 => ?_)
      · replace hw := hw.1 h_6
        exact c_X10_readsRows_45 E hret hX hI t_th (lv_sub hl_3 [1, 0] rfl) hw
      · replace hw := hw.2 h_6
        refine lv_iload_n hx hb dX10_readsRows_28 rfl (lv_at hl_3 0 rfl) ?_
        refine lv_iconst (v := (5 : Int32)) hx hb dX10_readsRows_29 (by decide) ?_
        refine lv_icmp_eq (tgt := 45) hx hb dX10_readsRows_30 (by decide) (fun h_7 => ?_) (fun h_7 => ?_)
        · replace hw := hw.1 h_7
          exact c_X10_readsRows_45 E hret hX hI t_th (lv_sub hl_3 [1, 0] rfl) hw
        · replace hw := hw.2 h_7
          refine lv_iload_n hx hb dX10_readsRows_33 rfl (lv_at hl_3 0 rfl) ?_
          refine lv_bipush (v := (7 : Int32)) hx hb dX10_readsRows_34 (by decide) ?_
          refine lv_icmp_eq (tgt := 45) hx hb dX10_readsRows_36 (by decide) (fun h_8 => ?_) (fun h_8 => ?_)
          · replace hw := hw.1 h_8
            exact c_X10_readsRows_45 E hret hX hI t_th (lv_sub hl_3 [1, 0] rfl) hw
          · replace hw := hw.2 h_8
            refine lv_aload_n hx hb dX10_readsRows_39 rfl (lv_at hl_3 1 rfl) ?_
            refine lv_bipush (v := (-4 : Int32)) hx hb dX10_readsRows_40 (by decide) ?_
            refine pf_X10_116 E hI t_th dX10_readsRows_42 (fun H locs M_9 e_M_9 hX1 hI => ?_)
            replace hw := hw M_9 e_M_9
            replace t_th := t_th.x hX1
            replace hX := hX.tr hX1
            exact c_X10_readsRows_45 E hret hX hI t_th (lv_sub hl_3 [1, 0] rfl) hw
set_option maxHeartbeats 4000000 in
set_option maxRecDepth 100000 in
theorem c_X10_readsPlaces_148 {p : Program} {l : Launch} {e : Env} {s : State} {m : MethodId} {args : Array Value} {below : List Frame} {meth : Method} {c : Code} {G : pm_G} {H0 : Heap} {M0 : pm_M} {Post : pm_M → Prop} {M : pm_M} (E : pm_E G p s m args meth c cX10_readsPlaces 6 RX10) (hret : meth.sig.returnType = none) {H : Heap} {locs : List Loc} {ls : Array Slot} (hX : pm_X M0 M) (hI : pm_I G H0 M H locs) (hl : lv_has ls 6 []) (hw : w_X10_readsPlaces_148 Post M) : W p l e rm_X10_readsPlaces s m args below meth c H locs 0 0 (pm_Z G H0 M0 (pm_Pv Post) below args s rm_X10_readsPlaces.cells rm_X10_readsPlaces.slots) (F0 m 148 ls []) := by
  have hx := E.1
  have hb := E.2.1
  have hown := E.2.2.2.1
  have hts := E.2.2.2.2.1
  unfold w_X10_readsPlaces_148 at hw
  exact pm_vret E hret hI hX ⟨rfl, hw⟩ (by decide) (by decide) dX10_readsPlaces_148
set_option maxHeartbeats 4000000 in
set_option maxRecDepth 100000 in
theorem c_X10_readsPlaces_142 {p : Program} {l : Launch} {e : Env} {s : State} {m : MethodId} {args : Array Value} {below : List Frame} {meth : Method} {c : Code} {G : pm_G} {H0 : Heap} {M0 : pm_M} {Post : pm_M → Prop} {v0 : Nat} {v1 : Int32} {M : pm_M} {k_32 : Int32 → pm_M → Prop} (E : pm_E G p s m args meth c cX10_readsPlaces 6 RX10) (hret : meth.sig.returnType = none) (hk_32 : ∀ (v1 : Int32) (M : pm_M) (H : Heap) (locs : List Loc) (ls : Array Slot), pm_X M0 M → pm_I G H0 M H locs → (pm_is M v0 9) → lv_has ls 6 [(0, .ref (H0.size + v0)), (1, .int v1)] → k_32 v1 M → W p l e rm_X10_readsPlaces s m args below meth c H locs 0 0 (pm_Z G H0 M0 (pm_Pv Post) below args s rm_X10_readsPlaces.cells rm_X10_readsPlaces.slots) (F0 m 32 ls [])) {H : Heap} {locs : List Loc} {ls : Array Slot} (hX : pm_X M0 M) (hI : pm_I G H0 M H locs) (t_v0 : pm_is M v0 9) (hl : lv_has ls 6 [(0, .ref (H0.size + v0)), (1, .int v1)]) (hw : w_X10_readsPlaces_142 Post k_32 v0 v1 M) : W p l e rm_X10_readsPlaces s m args below meth c H locs 0 0 (pm_Z G H0 M0 (pm_Pv Post) below args s rm_X10_readsPlaces.cells rm_X10_readsPlaces.slots) (F0 m 142 ls []) := by
  have hx := E.1
  have hb := E.2.1
  have hown := E.2.2.2.1
  have hts := E.2.2.2.2.1
  unfold w_X10_readsPlaces_142 at hw
  obtain ⟨x_1, e_x_1⟩ : ∃ z : Int32, z = v1 + (1 : Int32) := ⟨_, rfl⟩
  refine lv_iinc (v := x_1) (lv' := [(1, .int x_1), (0, .ref (H0.size + v0))]) hx hb dX10_readsPlaces_142 hl (k := 1) rfl (by rw [e_x_1]; rfl) (by decide) rfl (fun ls hl_2 => ?_)
  replace hw := hw x_1 e_x_1
  refine lv_goto (tgt := 32) hx hb dX10_readsPlaces_145 (by decide) ?_
  exact hk_32 _ _ _ _ _ hX hI t_v0 (lv_sub hl_2 [1, 0] rfl) hw
set_option maxHeartbeats 4000000 in
set_option maxRecDepth 100000 in
theorem c_X10_readsPlaces_123 {p : Program} {l : Launch} {e : Env} {s : State} {m : MethodId} {args : Array Value} {below : List Frame} {meth : Method} {c : Code} {G : pm_G} {H0 : Heap} {M0 : pm_M} {Post : pm_M → Prop} {v0 : Nat} {v1 : Int32} {v3 : Int32} {s0 : Int32} {M : pm_M} {k_32 : Int32 → pm_M → Prop} {k_51 : Int32 → Int32 → Prop} (E : pm_E G p s m args meth c cX10_readsPlaces 6 RX10) (hret : meth.sig.returnType = none) (hk_32 : ∀ (v1 : Int32) (M : pm_M) (H : Heap) (locs : List Loc) (ls : Array Slot), pm_X M0 M → pm_I G H0 M H locs → (pm_is M v0 9) → lv_has ls 6 [(0, .ref (H0.size + v0)), (1, .int v1)] → k_32 v1 M → W p l e rm_X10_readsPlaces s m args below meth c H locs 0 0 (pm_Z G H0 M0 (pm_Pv Post) below args s rm_X10_readsPlaces.cells rm_X10_readsPlaces.slots) (F0 m 32 ls [])) (hk_51 : ∀ (v2 : Int32) (v3 : Int32) (H : Heap) (locs : List Loc) (ls : Array Slot), pm_X M0 M → pm_I G H0 M H locs → (pm_is M v0 9) → lv_has ls 6 [(0, .ref (H0.size + v0)), (1, .int v1), (2, .int v2), (3, .int v3)] → k_51 v2 v3 → W p l e rm_X10_readsPlaces s m args below meth c H locs 0 0 (pm_Z G H0 M0 (pm_Pv Post) below args s rm_X10_readsPlaces.cells rm_X10_readsPlaces.slots) (F0 m 51 ls [])) {H : Heap} {locs : List Loc} {ls : Array Slot} (hX : pm_X M0 M) (hI : pm_I G H0 M H locs) (t_v0 : pm_is M v0 9) (hl : lv_has ls 6 [(0, .ref (H0.size + v0)), (1, .int v1), (3, .int v3)]) (hw : w_X10_readsPlaces_123 Post k_32 k_51 v0 v1 v3 s0 M) : W p l e rm_X10_readsPlaces s m args below meth c H locs 0 0 (pm_Z G H0 M0 (pm_Pv Post) below args s rm_X10_readsPlaces.cells rm_X10_readsPlaces.slots) (F0 m 123 ls [.int s0]) := by
  have hx := E.1
  have hb := E.2.1
  have hown := E.2.2.2.1
  have hts := E.2.2.2.2.1
  unfold w_X10_readsPlaces_123 at hw
  refine lv_istore_n (lv' := [(2, .int s0), (0, .ref (H0.size + v0)), (1, .int v1), (3, .int v3)]) hx hb dX10_readsPlaces_123 rfl hl (by decide) rfl (fun ls hl_1 => ?_)
  refine lv_iload_n hx hb dX10_readsPlaces_124 rfl (lv_at hl_1 3 rfl) ?_
  refine lv_iconst (v := (1 : Int32)) hx hb dX10_readsPlaces_125 (by decide) ?_
  refine lv_isub hx hb dX10_readsPlaces_126 ?_
  refine lv_iload_n hx hb dX10_readsPlaces_127 rfl (lv_at hl_1 2 rfl) ?_
  refine lv_iand hx hb dX10_readsPlaces_128 ?_
  refine lv_topi (fun x_2 e_x_2 => ?_)
  replace hw := hw x_2 e_x_2
  refine lv_istore_n (lv' := [(3, .int x_2), (2, .int s0), (0, .ref (H0.size + v0)), (1, .int v1)]) hx hb dX10_readsPlaces_129 rfl hl_1 (by decide) rfl (fun ls hl_3 => ?_)
  refine lv_goto (tgt := 51) hx hb dX10_readsPlaces_130 (by decide) ?_
  exact hk_51 _ _ _ _ _ hX hI t_v0 (lv_sub hl_3 [2, 3, 1, 0] rfl) hw
set_option maxHeartbeats 4000000 in
set_option maxRecDepth 100000 in
theorem c_X10_readsPlaces_122 {p : Program} {l : Launch} {e : Env} {s : State} {m : MethodId} {args : Array Value} {below : List Frame} {meth : Method} {c : Code} {G : pm_G} {H0 : Heap} {M0 : pm_M} {Post : pm_M → Prop} {v0 : Nat} {v1 : Int32} {v3 : Int32} {M : pm_M} {k_32 : Int32 → pm_M → Prop} {k_51 : Int32 → Int32 → Prop} (E : pm_E G p s m args meth c cX10_readsPlaces 6 RX10) (hret : meth.sig.returnType = none) (hk_32 : ∀ (v1 : Int32) (M : pm_M) (H : Heap) (locs : List Loc) (ls : Array Slot), pm_X M0 M → pm_I G H0 M H locs → (pm_is M v0 9) → lv_has ls 6 [(0, .ref (H0.size + v0)), (1, .int v1)] → k_32 v1 M → W p l e rm_X10_readsPlaces s m args below meth c H locs 0 0 (pm_Z G H0 M0 (pm_Pv Post) below args s rm_X10_readsPlaces.cells rm_X10_readsPlaces.slots) (F0 m 32 ls [])) (hk_51 : ∀ (v2 : Int32) (v3 : Int32) (H : Heap) (locs : List Loc) (ls : Array Slot), pm_X M0 M → pm_I G H0 M H locs → (pm_is M v0 9) → lv_has ls 6 [(0, .ref (H0.size + v0)), (1, .int v1), (2, .int v2), (3, .int v3)] → k_51 v2 v3 → W p l e rm_X10_readsPlaces s m args below meth c H locs 0 0 (pm_Z G H0 M0 (pm_Pv Post) below args s rm_X10_readsPlaces.cells rm_X10_readsPlaces.slots) (F0 m 51 ls [])) {H : Heap} {locs : List Loc} {ls : Array Slot} (hX : pm_X M0 M) (hI : pm_I G H0 M H locs) (t_v0 : pm_is M v0 9) (hl : lv_has ls 6 [(0, .ref (H0.size + v0)), (1, .int v1), (3, .int v3)]) (hw : w_X10_readsPlaces_122 Post k_32 k_51 v0 v1 v3 M) : W p l e rm_X10_readsPlaces s m args below meth c H locs 0 0 (pm_Z G H0 M0 (pm_Pv Post) below args s rm_X10_readsPlaces.cells rm_X10_readsPlaces.slots) (F0 m 122 ls []) := by
  have hx := E.1
  have hb := E.2.1
  have hown := E.2.2.2.1
  have hts := E.2.2.2.2.1
  unfold w_X10_readsPlaces_122 at hw
  refine lv_iconst (v := (0 : Int32)) hx hb dX10_readsPlaces_122 (by decide) ?_
  exact c_X10_readsPlaces_123 E hret hk_32 hk_51 hX hI t_v0 (lv_sub hl [0, 1, 2] rfl) hw
set_option maxHeartbeats 4000000 in
set_option maxRecDepth 100000 in
theorem c_X10_readsPlaces_93 {p : Program} {l : Launch} {e : Env} {s : State} {m : MethodId} {args : Array Value} {below : List Frame} {meth : Method} {c : Code} {G : pm_G} {H0 : Heap} {M0 : pm_M} {Post : pm_M → Prop} {v0 : Nat} {v1 : Int32} {v2 : Int32} {v3 : Int32} {v5 : Int32} {s0 : Int32} {s1 : Int32} {M : pm_M} {k_32 : Int32 → pm_M → Prop} {k_51 : Int32 → Int32 → Prop} {k_61 : Int32 → Int32 → Prop} (E : pm_E G p s m args meth c cX10_readsPlaces 6 RX10) (hret : meth.sig.returnType = none) (hk_32 : ∀ (v1 : Int32) (M : pm_M) (H : Heap) (locs : List Loc) (ls : Array Slot), pm_X M0 M → pm_I G H0 M H locs → (pm_is M v0 9) → lv_has ls 6 [(0, .ref (H0.size + v0)), (1, .int v1)] → k_32 v1 M → W p l e rm_X10_readsPlaces s m args below meth c H locs 0 0 (pm_Z G H0 M0 (pm_Pv Post) below args s rm_X10_readsPlaces.cells rm_X10_readsPlaces.slots) (F0 m 32 ls [])) (hk_51 : ∀ (v2 : Int32) (v3 : Int32) (H : Heap) (locs : List Loc) (ls : Array Slot), pm_X M0 M → pm_I G H0 M H locs → (pm_is M v0 9) → lv_has ls 6 [(0, .ref (H0.size + v0)), (1, .int v1), (2, .int v2), (3, .int v3)] → k_51 v2 v3 → W p l e rm_X10_readsPlaces s m args below meth c H locs 0 0 (pm_Z G H0 M0 (pm_Pv Post) below args s rm_X10_readsPlaces.cells rm_X10_readsPlaces.slots) (F0 m 51 ls [])) (hk_61 : ∀ (v4 : Int32) (v5 : Int32) (H : Heap) (locs : List Loc) (ls : Array Slot), pm_X M0 M → pm_I G H0 M H locs → (pm_is M v0 9) → lv_has ls 6 [(0, .ref (H0.size + v0)), (1, .int v1), (2, .int v2), (3, .int v3), (4, .int v4), (5, .int v5)] → k_61 v4 v5 → W p l e rm_X10_readsPlaces s m args below meth c H locs 0 0 (pm_Z G H0 M0 (pm_Pv Post) below args s rm_X10_readsPlaces.cells rm_X10_readsPlaces.slots) (F0 m 61 ls [])) {H : Heap} {locs : List Loc} {ls : Array Slot} (hX : pm_X M0 M) (hI : pm_I G H0 M H locs) (t_v0 : pm_is M v0 9) (hl : lv_has ls 6 [(0, .ref (H0.size + v0)), (1, .int v1), (2, .int v2), (3, .int v3), (5, .int v5)]) (hw : w_X10_readsPlaces_93 Post k_32 k_51 k_61 v0 v1 v2 v3 v5 s0 s1 M) : W p l e rm_X10_readsPlaces s m args below meth c H locs 0 0 (pm_Z G H0 M0 (pm_Pv Post) below args s rm_X10_readsPlaces.cells rm_X10_readsPlaces.slots) (F0 m 93 ls [.int s1, .int s0]) := by
  have hx := E.1
  have hb := E.2.1
  have hown := E.2.2.2.1
  have hts := E.2.2.2.2.1
  unfold w_X10_readsPlaces_93 at hw
  refine lv_ior hx hb dX10_readsPlaces_93 ?_
  refine lv_topi (fun x_1 e_x_1 => ?_)
  replace hw := hw x_1 e_x_1
  refine lv_istore (lv' := [(4, .int x_1), (0, .ref (H0.size + v0)), (1, .int v1), (2, .int v2), (3, .int v3), (5, .int v5)]) hx hb dX10_readsPlaces_94 hl (by decide) rfl (fun ls hl_2 => ?_)
  obtain ⟨x_3, e_x_3⟩ : ∃ z : Int32, z = v5 + (1 : Int32) := ⟨_, rfl⟩
  refine lv_iinc (v := x_3) (lv' := [(5, .int x_3), (4, .int x_1), (0, .ref (H0.size + v0)), (1, .int v1), (2, .int v2), (3, .int v3)]) hx hb dX10_readsPlaces_96 hl_2 (k := 5) rfl (by rw [e_x_3]; rfl) (by decide) rfl (fun ls hl_4 => ?_)
  replace hw := hw x_3 e_x_3
  refine lv_goto (tgt := 61) hx hb dX10_readsPlaces_99 (by decide) ?_
  exact hk_61 _ _ _ _ _ hX hI t_v0 (lv_sub hl_4 [2, 3, 4, 5, 1, 0] rfl) hw
set_option maxHeartbeats 4000000 in
set_option maxRecDepth 100000 in
theorem c_X10_readsPlaces_61 {p : Program} {l : Launch} {e : Env} {s : State} {m : MethodId} {args : Array Value} {below : List Frame} {meth : Method} {c : Code} {G : pm_G} {H0 : Heap} {M0 : pm_M} {Post : pm_M → Prop} {v0 : Nat} {v1 : Int32} {v2 : Int32} {v3 : Int32} {M : pm_M} {k_32 : Int32 → pm_M → Prop} {k_51 : Int32 → Int32 → Prop} (E : pm_E G p s m args meth c cX10_readsPlaces 6 RX10) (hret : meth.sig.returnType = none) (hk_32 : ∀ (v1 : Int32) (M : pm_M) (H : Heap) (locs : List Loc) (ls : Array Slot), pm_X M0 M → pm_I G H0 M H locs → (pm_is M v0 9) → lv_has ls 6 [(0, .ref (H0.size + v0)), (1, .int v1)] → k_32 v1 M → W p l e rm_X10_readsPlaces s m args below meth c H locs 0 0 (pm_Z G H0 M0 (pm_Pv Post) below args s rm_X10_readsPlaces.cells rm_X10_readsPlaces.slots) (F0 m 32 ls [])) (hk_51 : ∀ (v2 : Int32) (v3 : Int32) (H : Heap) (locs : List Loc) (ls : Array Slot), pm_X M0 M → pm_I G H0 M H locs → (pm_is M v0 9) → lv_has ls 6 [(0, .ref (H0.size + v0)), (1, .int v1), (2, .int v2), (3, .int v3)] → k_51 v2 v3 → W p l e rm_X10_readsPlaces s m args below meth c H locs 0 0 (pm_Z G H0 M0 (pm_Pv Post) below args s rm_X10_readsPlaces.cells rm_X10_readsPlaces.slots) (F0 m 51 ls [])) : ∀ (n : Nat) (v4 : Int32) (v5 : Int32) (H : Heap) (locs : List Loc) (ls : Array Slot), pm_X M0 M → pm_I G H0 M H locs → (pm_is M v0 9) → lv_has ls 6 [(0, .ref (H0.size + v0)), (1, .int v1), (2, .int v2), (3, .int v3), (4, .int v4), (5, .int v5)] → w_X10_readsPlaces_61 Post k_32 k_51 v0 v1 v2 v3 M n v4 v5 → W p l e rm_X10_readsPlaces s m args below meth c H locs 0 0 (pm_Z G H0 M0 (pm_Pv Post) below args s rm_X10_readsPlaces.cells rm_X10_readsPlaces.slots) (F0 m 61 ls []) := by
  have hx := E.1
  have hb := E.2.1
  have hown := E.2.2.2.1
  have hts := E.2.2.2.2.1
  intro n
  induction n with
  | zero =>
    intro v4 v5 H locs ls hX hI t_v0 hl hw
    unfold w_X10_readsPlaces_61 at hw
    exact hw.elim
  | succ n ih =>
    intro v4 v5 H locs ls hX hI t_v0 hl hw
    unfold w_X10_readsPlaces_61 at hw
    refine lv_iload hx hb dX10_readsPlaces_61 (lv_at hl 5 rfl) ?_
    refine lv_aload_n hx hb dX10_readsPlaces_63 rfl (lv_at hl 0 rfl) ?_
    refine gf_X10_7 E hI t_v0 dX10_readsPlaces_64 ?_
    refine lv_icmp_ge (tgt := 102) hx hb dX10_readsPlaces_67 (by decide) (fun h_1 => ?_) (fun h_1 => ?_)
    · replace hw := hw.1 h_1
      refine lv_iload_n hx hb dX10_readsPlaces_102 rfl (lv_at hl 2 rfl) ?_
      refine lv_if_eq (tgt := 122) hx hb dX10_readsPlaces_103 (by decide) (fun h_2 => ?_) (fun h_2 => ?_)
      · replace hw := hw.1 h_2
        exact c_X10_readsPlaces_122 E hret hk_32 hk_51 hX hI t_v0 (lv_sub hl [0, 1, 3] rfl) hw
      · replace hw := hw.2 h_2
        refine lv_iload hx hb dX10_readsPlaces_106 (lv_at hl 4 rfl) ?_
        refine pm_callS (As := [.int v4]) (rest := []) 1 E hI (k_X10_bitsOf hw) kc_X10_bitsOf kl_X10_104 kt_X10_bitsOf ki_X10 (by decide +kernel) ⟨by decide, by decide⟩ rfl hl.1 rfl (by first | exact Nat.le_of_ble_eq_true rfl | (simp only [List.map, pm_rf_cat]; exact Nat.le_of_ble_eq_true rfl)) dX10_readsPlaces_108 ⟨by decide, by decide⟩ (fun r9 M9 H locs hp hX1 hI => ?_)
        clear hw
        obtain ⟨r_3, rfl, rfl, hw⟩ := hp
        refine pm_nrm (cells' := 0) (slots' := 0) (g2 := F0 m 111 ls [.int r_3]) rfl rfl rfl ?_
        refine lv_iload_n hx hb dX10_readsPlaces_111 rfl (lv_at hl 3 rfl) ?_
        refine pm_callS (As := [.int v3]) (rest := [.int r_3]) 1 E hI (k_X10_bitsOf hw) kc_X10_bitsOf kl_X10_104 kt_X10_bitsOf ki_X10 (by decide +kernel) ⟨by decide, by decide⟩ rfl hl.1 rfl (by first | exact Nat.le_of_ble_eq_true rfl | (simp only [List.map, pm_rf_cat]; exact Nat.le_of_ble_eq_true rfl)) dX10_readsPlaces_112 ⟨by decide, by decide⟩ (fun r9 M9 H locs hp hX1 hI => ?_)
        clear hw
        obtain ⟨r_4, rfl, rfl, hw⟩ := hp
        refine pm_nrm (cells' := 0) (slots' := 0) (g2 := F0 m 115 ls [.int r_4, .int r_3]) rfl rfl rfl ?_
        refine lv_icmp_lt (tgt := 122) hx hb dX10_readsPlaces_115 (by decide) (fun h_5 => ?_) (fun h_5 => ?_)
        · replace hw := hw.1 h_5
          exact c_X10_readsPlaces_122 E hret hk_32 hk_51 hX hI t_v0 (lv_sub hl [0, 1, 3] rfl) hw
        · replace hw := hw.2 h_5
          refine lv_iconst (v := (1 : Int32)) hx hb dX10_readsPlaces_118 (by decide) ?_
          refine lv_goto (tgt := 123) hx hb dX10_readsPlaces_119 (by decide) ?_
          exact c_X10_readsPlaces_123 E hret hk_32 hk_51 hX hI t_v0 (lv_sub hl [0, 1, 3] rfl) hw
    · replace hw := hw.2 h_1
      refine lv_iload hx hb dX10_readsPlaces_70 (lv_at hl 4 rfl) ?_
      refine lv_iload_n hx hb dX10_readsPlaces_72 rfl (lv_at hl 3 rfl) ?_
      refine lv_iload hx hb dX10_readsPlaces_73 (lv_at hl 5 rfl) ?_
      refine lv_ishr hx hb dX10_readsPlaces_75 ?_
      refine lv_iconst (v := (1 : Int32)) hx hb dX10_readsPlaces_76 (by decide) ?_
      refine lv_iand hx hb dX10_readsPlaces_77 ?_
      refine lv_iconst (v := (1 : Int32)) hx hb dX10_readsPlaces_78 (by decide) ?_
      refine lv_icmp_ne (tgt := 92) hx hb dX10_readsPlaces_79 (by decide) (fun h_6 => ?_) (fun h_6 => ?_)
      · replace hw := hw.1 h_6
        refine lv_iconst (v := (0 : Int32)) hx hb dX10_readsPlaces_92 (by decide) ?_
        exact c_X10_readsPlaces_93 E hret hk_32 hk_51 ih hX hI t_v0 (lv_sub hl [0, 1, 2, 3, 5] rfl) hw
      · replace hw := hw.2 h_6
        refine lv_aload_n hx hb dX10_readsPlaces_82 rfl (lv_at hl 0 rfl) ?_
        obtain ⟨q_7, e_q_7, hw⟩ := hw
        refine gf_X10_57 E hI t_v0 dX10_readsPlaces_83 e_q_7 (fun t_q_7 => ?_)
        refine lv_iload hx hb dX10_readsPlaces_86 (lv_at hl 5 rfl) ?_
        obtain ⟨h_8, hw⟩ := hw
        refine pm_iald E hI t_q_7 h_8 dX10_readsPlaces_88 ?_
        refine lv_goto (tgt := 93) hx hb dX10_readsPlaces_89 (by decide) ?_
        exact c_X10_readsPlaces_93 E hret hk_32 hk_51 ih hX hI t_v0 (lv_sub hl [0, 1, 2, 3, 5] rfl) hw
set_option maxHeartbeats 4000000 in
set_option maxRecDepth 100000 in
theorem c_X10_readsPlaces_51 {p : Program} {l : Launch} {e : Env} {s : State} {m : MethodId} {args : Array Value} {below : List Frame} {meth : Method} {c : Code} {G : pm_G} {H0 : Heap} {M0 : pm_M} {Post : pm_M → Prop} {v0 : Nat} {v1 : Int32} {M : pm_M} {k_32 : Int32 → pm_M → Prop} (E : pm_E G p s m args meth c cX10_readsPlaces 6 RX10) (hret : meth.sig.returnType = none) (hk_32 : ∀ (v1 : Int32) (M : pm_M) (H : Heap) (locs : List Loc) (ls : Array Slot), pm_X M0 M → pm_I G H0 M H locs → (pm_is M v0 9) → lv_has ls 6 [(0, .ref (H0.size + v0)), (1, .int v1)] → k_32 v1 M → W p l e rm_X10_readsPlaces s m args below meth c H locs 0 0 (pm_Z G H0 M0 (pm_Pv Post) below args s rm_X10_readsPlaces.cells rm_X10_readsPlaces.slots) (F0 m 32 ls [])) : ∀ (n : Nat) (v2 : Int32) (v3 : Int32) (H : Heap) (locs : List Loc) (ls : Array Slot), pm_X M0 M → pm_I G H0 M H locs → (pm_is M v0 9) → lv_has ls 6 [(0, .ref (H0.size + v0)), (1, .int v1), (2, .int v2), (3, .int v3)] → w_X10_readsPlaces_51 Post k_32 v0 v1 M n v2 v3 → W p l e rm_X10_readsPlaces s m args below meth c H locs 0 0 (pm_Z G H0 M0 (pm_Pv Post) below args s rm_X10_readsPlaces.cells rm_X10_readsPlaces.slots) (F0 m 51 ls []) := by
  have hx := E.1
  have hb := E.2.1
  have hown := E.2.2.2.1
  have hts := E.2.2.2.2.1
  intro n
  induction n with
  | zero =>
    intro v2 v3 H locs ls hX hI t_v0 hl hw
    unfold w_X10_readsPlaces_51 at hw
    exact hw.elim
  | succ n ih =>
    intro v2 v3 H locs ls hX hI t_v0 hl hw
    unfold w_X10_readsPlaces_51 at hw
    refine lv_iload_n hx hb dX10_readsPlaces_51 rfl (lv_at hl 3 rfl) ?_
    refine lv_if_le (tgt := 133) hx hb dX10_readsPlaces_52 (by decide) (fun h_1 => ?_) (fun h_1 => ?_)
    · replace hw := hw.1 h_1
      refine lv_iload_n hx hb dX10_readsPlaces_133 rfl (lv_at hl 2 rfl) ?_
      refine lv_if_eq (tgt := 142) hx hb dX10_readsPlaces_134 (by decide) (fun h_2 => ?_) (fun h_2 => ?_)
      · replace hw := hw.1 h_2
        exact c_X10_readsPlaces_142 E hret hk_32 hX hI t_v0 (lv_sub hl [0, 1] rfl) hw
      · replace hw := hw.2 h_2
        refine lv_aload_n hx hb dX10_readsPlaces_137 rfl (lv_at hl 0 rfl) ?_
        refine lv_iload_n hx hb dX10_readsPlaces_138 rfl (lv_at hl 1 rfl) ?_
        refine pm_callV (As := [.int v1]) (rest := []) 1 E hI (k_X10_allow t_v0 hw) t_v0 (by decide) rfl kc_X10_allow kl_X10_156 km_X10_allow ks_X10_allow ki_X10 (by decide +kernel) ⟨by decide, by decide⟩ rfl hl.1 rfl (by first | exact Nat.le_of_ble_eq_true rfl | (simp only [List.map, pm_rf_cat]; exact Nat.le_of_ble_eq_true rfl)) dX10_readsPlaces_139 ⟨by decide, by decide⟩ (fun r9 M_3 H locs hp hX1 hI => ?_)
        clear hw
        obtain ⟨rfl, hw⟩ := hp
        replace t_v0 := t_v0.x hX1
        replace hX := hX.tr hX1
        refine pm_nrm (cells' := 0) (slots' := 0) (g2 := F0 m 142 ls []) rfl rfl rfl ?_
        exact c_X10_readsPlaces_142 E hret hk_32 hX hI t_v0 (lv_sub hl [0, 1] rfl) hw
    · replace hw := hw.2 h_1
      refine lv_iconst (v := (0 : Int32)) hx hb dX10_readsPlaces_55 (by decide) ?_
      refine lv_istore (lv' := [(4, .int (0 : Int32)), (0, .ref (H0.size + v0)), (1, .int v1), (2, .int v2), (3, .int v3)]) hx hb dX10_readsPlaces_56 hl (by decide) rfl (fun ls hl_4 => ?_)
      refine lv_iconst (v := (0 : Int32)) hx hb dX10_readsPlaces_58 (by decide) ?_
      refine lv_istore (lv' := [(5, .int (0 : Int32)), (4, .int (0 : Int32)), (0, .ref (H0.size + v0)), (1, .int v1), (2, .int v2), (3, .int v3)]) hx hb dX10_readsPlaces_59 hl_4 (by decide) rfl (fun ls hl_5 => ?_)
      obtain ⟨n_6, hw⟩ := hw
      exact c_X10_readsPlaces_61 E hret hk_32 ih n_6 _ _ _ _ _ hX hI t_v0 (lv_sub hl_5 [2, 3, 4, 5, 1, 0] rfl) hw
set_option maxHeartbeats 4000000 in
set_option maxRecDepth 100000 in
theorem c_X10_readsPlaces_32 {p : Program} {l : Launch} {e : Env} {s : State} {m : MethodId} {args : Array Value} {below : List Frame} {meth : Method} {c : Code} {G : pm_G} {H0 : Heap} {M0 : pm_M} {Post : pm_M → Prop} {v0 : Nat} (E : pm_E G p s m args meth c cX10_readsPlaces 6 RX10) (hret : meth.sig.returnType = none) : ∀ (n : Nat) (v1 : Int32) (M : pm_M) (H : Heap) (locs : List Loc) (ls : Array Slot), pm_X M0 M → pm_I G H0 M H locs → (pm_is M v0 9) → lv_has ls 6 [(0, .ref (H0.size + v0)), (1, .int v1)] → w_X10_readsPlaces_32 Post v0 n v1 M → W p l e rm_X10_readsPlaces s m args below meth c H locs 0 0 (pm_Z G H0 M0 (pm_Pv Post) below args s rm_X10_readsPlaces.cells rm_X10_readsPlaces.slots) (F0 m 32 ls []) := by
  have hx := E.1
  have hb := E.2.1
  have hown := E.2.2.2.1
  have hts := E.2.2.2.2.1
  intro n
  induction n with
  | zero =>
    intro v1 M H locs ls hX hI t_v0 hl hw
    unfold w_X10_readsPlaces_32 at hw
    exact hw.elim
  | succ n ih =>
    intro v1 M H locs ls hX hI t_v0 hl hw
    unfold w_X10_readsPlaces_32 at hw
    refine lv_iload_n hx hb dX10_readsPlaces_32 rfl (lv_at hl 1 rfl) ?_
    refine lv_aload_n hx hb dX10_readsPlaces_33 rfl (lv_at hl 0 rfl) ?_
    refine gf_X10_13 E hI t_v0 dX10_readsPlaces_34 ?_
    refine lv_icmp_gt (tgt := 148) hx hb dX10_readsPlaces_37 (by decide) (fun h_1 => ?_) (fun h_1 => ?_)
    · replace hw := hw.1 h_1
      exact c_X10_readsPlaces_148 E hret hX hI (lv_sub hl [] rfl) hw
    · replace hw := hw.2 h_1
      refine lv_aload_n hx hb dX10_readsPlaces_40 rfl (lv_at hl 0 rfl) ?_
      refine gf_X10_116 E hI t_v0 dX10_readsPlaces_41 ?_
      refine lv_if_ne (tgt := 148) hx hb dX10_readsPlaces_44 (by decide) (fun h_2 => ?_) (fun h_2 => ?_)
      · replace hw := hw.1 h_2
        exact c_X10_readsPlaces_148 E hret hX hI (lv_sub hl [] rfl) hw
      · replace hw := hw.2 h_2
        refine lv_iconst (v := (1 : Int32)) hx hb dX10_readsPlaces_47 (by decide) ?_
        refine lv_istore_n (lv' := [(2, .int (1 : Int32)), (0, .ref (H0.size + v0)), (1, .int v1)]) hx hb dX10_readsPlaces_48 rfl hl (by decide) rfl (fun ls hl_3 => ?_)
        refine lv_iload_n hx hb dX10_readsPlaces_49 rfl (lv_at hl_3 2 rfl) ?_
        refine lv_istore_n (lv' := [(3, .int v1), (2, .int (1 : Int32)), (0, .ref (H0.size + v0)), (1, .int v1)]) hx hb dX10_readsPlaces_50 rfl hl_3 (by decide) rfl (fun ls hl_4 => ?_)
        obtain ⟨n_5, hw⟩ := hw
        exact c_X10_readsPlaces_51 E hret ih n_5 _ _ _ _ _ hX hI t_v0 (lv_sub hl_4 [2, 3, 1, 0] rfl) hw
set_option maxHeartbeats 4000000 in
set_option maxRecDepth 100000 in
theorem c_X10_readsPlaces_2 {p : Program} {l : Launch} {e : Env} {s : State} {m : MethodId} {args : Array Value} {below : List Frame} {meth : Method} {c : Code} {G : pm_G} {H0 : Heap} {M0 : pm_M} {Post : pm_M → Prop} {v0 : Nat} (E : pm_E G p s m args meth c cX10_readsPlaces 6 RX10) (hret : meth.sig.returnType = none) : ∀ (n : Nat) (v1 : Int32) (M : pm_M) (H : Heap) (locs : List Loc) (ls : Array Slot), pm_X M0 M → pm_I G H0 M H locs → (pm_is M v0 9) → lv_has ls 6 [(0, .ref (H0.size + v0)), (1, .int v1)] → w_X10_readsPlaces_2 Post v0 n v1 M → W p l e rm_X10_readsPlaces s m args below meth c H locs 0 0 (pm_Z G H0 M0 (pm_Pv Post) below args s rm_X10_readsPlaces.cells rm_X10_readsPlaces.slots) (F0 m 2 ls []) := by
  have hx := E.1
  have hb := E.2.1
  have hown := E.2.2.2.1
  have hts := E.2.2.2.2.1
  intro n
  induction n with
  | zero =>
    intro v1 M H locs ls hX hI t_v0 hl hw
    unfold w_X10_readsPlaces_2 at hw
    exact hw.elim
  | succ n ih =>
    intro v1 M H locs ls hX hI t_v0 hl hw
    unfold w_X10_readsPlaces_2 at hw
    refine lv_iload_n hx hb dX10_readsPlaces_2 rfl (lv_at hl 1 rfl) ?_
    refine lv_aload_n hx hb dX10_readsPlaces_3 rfl (lv_at hl 0 rfl) ?_
    refine gf_X10_7 E hI t_v0 dX10_readsPlaces_4 ?_
    refine lv_icmp_ge (tgt := 30) hx hb dX10_readsPlaces_7 (by decide) (fun h_1 => ?_) (fun h_1 => ?_)
    · replace hw := hw.1 h_1
      refine lv_iconst (v := (0 : Int32)) hx hb dX10_readsPlaces_30 (by decide) ?_
      refine lv_istore_n (lv' := [(1, .int (0 : Int32)), (0, .ref (H0.size + v0))]) hx hb dX10_readsPlaces_31 rfl hl (by decide) rfl (fun ls hl_2 => ?_)
      obtain ⟨n_3, hw⟩ := hw
      exact c_X10_readsPlaces_32 E hret n_3 _ _ _ _ _ hX hI t_v0 (lv_sub hl_2 [1, 0] rfl) hw
    · replace hw := hw.2 h_1
      refine lv_aload_n hx hb dX10_readsPlaces_10 rfl (lv_at hl 0 rfl) ?_
      obtain ⟨q_4, e_q_4, hw⟩ := hw
      refine gf_X10_57 E hI t_v0 dX10_readsPlaces_11 e_q_4 (fun t_q_4 => ?_)
      refine lv_iload_n hx hb dX10_readsPlaces_14 rfl (lv_at hl 1 rfl) ?_
      refine lv_aload_n hx hb dX10_readsPlaces_15 rfl (lv_at hl 0 rfl) ?_
      refine lv_lconst (v := (0 : Int64)) hx hb dX10_readsPlaces_16 (by decide) ?_
      refine lv_ldc2 (v := (4095 : Int64)) hx hb hown (hts _ kl_X10_189) dX10_readsPlaces_17 ?_
      refine pm_callV (As := [.long (0 : Int64), .long (4095 : Int64)]) (rest := [.int v1, .ref (H0.size + q_4)]) 2 E hI (k_X10_next t_v0 hw) t_v0 (by decide) rfl kc_X10_next kl_X10_152 km_X10_next ks_X10_next ki_X10 (by decide +kernel) ⟨by decide, by decide⟩ rfl hl.1 rfl (by first | exact Nat.le_of_ble_eq_true rfl | (simp only [List.map, pm_rf_cat]; exact Nat.le_of_ble_eq_true rfl)) dX10_readsPlaces_20 ⟨by decide, by decide⟩ (fun r9 M_5 H locs hp hX1 hI => ?_)
      clear hw
      obtain ⟨r_6, rfl, hw⟩ := hp
      replace t_v0 := t_v0.x hX1
      replace t_q_4 := t_q_4.x hX1
      replace hX := hX.tr hX1
      refine pm_nrm (cells' := 0) (slots' := 0) (g2 := F0 m 23 ls [.int r_6, .int v1, .ref (H0.size + q_4)]) rfl rfl rfl ?_
      obtain ⟨h_7, hw⟩ := hw
      refine ps_iast E hI t_q_4 h_7 dX10_readsPlaces_23 (fun H locs M_8 e_M_8 hX1 hI => ?_)
      replace hw := hw M_8 e_M_8
      replace t_v0 := t_v0.x hX1
      replace hX := hX.tr hX1
      obtain ⟨x_9, e_x_9⟩ : ∃ z : Int32, z = v1 + (1 : Int32) := ⟨_, rfl⟩
      refine lv_iinc (v := x_9) (lv' := [(1, .int x_9), (0, .ref (H0.size + v0))]) hx hb dX10_readsPlaces_24 hl (k := 1) rfl (by rw [e_x_9]; rfl) (by decide) rfl (fun ls hl_10 => ?_)
      replace hw := hw x_9 e_x_9
      refine lv_goto (tgt := 2) hx hb dX10_readsPlaces_27 (by decide) ?_
      exact ih _ _ _ _ _ hX hI t_v0 (lv_sub hl_10 [1, 0] rfl) hw
set_option maxHeartbeats 4000000 in
set_option maxRecDepth 100000 in
theorem k_X10_readsPlaces {l : Launch} {G : pm_G} {H0 : Heap} {th : Nat} {M : pm_M} {Post : pm_M → Prop} (t_th : pm_is M th 9) (hw : w_X10_readsPlaces th M Post) : pm_C l G H0 yX10_readsPlaces cX10_readsPlaces 6 none rm_X10_readsPlaces [.ref (H0.size + th)] M (pm_Pv Post) := by
  refine pm_start (by decide +kernel) (Nat.le_of_ble_eq_true rfl) ?_
  intro p e s m args below meth c H ls E hret hnm hI hl
  have hX : pm_X M M := pm_X.rf
  have hl : lv_has ls 6 [(0, .ref (H0.size + th))] := hl
  have hx := E.1
  have hb := E.2.1
  have hown := E.2.2.2.1
  have hts := E.2.2.2.2.1
  unfold w_X10_readsPlaces at hw
  refine lv_iconst (v := (0 : Int32)) hx hb dX10_readsPlaces_0 (by decide) ?_
  refine lv_istore_n (lv' := [(1, .int (0 : Int32)), (0, .ref (H0.size + th))]) hx hb dX10_readsPlaces_1 rfl hl (by decide) rfl (fun ls hl_1 => ?_)
  obtain ⟨n_2, hw⟩ := hw
  exact c_X10_readsPlaces_2 E hret n_2 _ _ _ _ _ hX hI t_th (lv_sub hl_1 [1, 0] rfl) hw
set_option maxHeartbeats 4000000 in
set_option maxRecDepth 100000 in
theorem c_X10_rule_200 {p : Program} {l : Launch} {e : Env} {s : State} {m : MethodId} {args : Array Value} {below : List Frame} {meth : Method} {c : Code} {G : pm_G} {H0 : Heap} {M0 : pm_M} {Post : Int32 → pm_M → Prop} {s0 : Int32} {M : pm_M} (E : pm_E G p s m args meth c cX10_rule 4 RX10) (hret : meth.sig.returnType = (some .int)) {H : Heap} {locs : List Loc} {ls : Array Slot} (hX : pm_X M0 M) (hI : pm_I G H0 M H locs) (hl : lv_has ls 4 []) (hw : w_X10_rule_200 Post s0 M) : W p l e rm_X10_rule s m args below meth c H locs 0 0 (pm_Z G H0 M0 (pm_Pi Post) below args s rm_X10_rule.cells rm_X10_rule.slots) (F0 m 200 ls [.int s0]) := by
  have hx := E.1
  have hb := E.2.1
  have hown := E.2.2.2.1
  have hts := E.2.2.2.2.1
  unfold w_X10_rule_200 at hw
  exact pm_iret E hret hI hX ⟨_, rfl, hw⟩ (by decide) (by decide) dX10_rule_200
set_option maxHeartbeats 4000000 in
set_option maxRecDepth 100000 in
theorem c_X10_rule_178 {p : Program} {l : Launch} {e : Env} {s : State} {m : MethodId} {args : Array Value} {below : List Frame} {meth : Method} {c : Code} {G : pm_G} {H0 : Heap} {M0 : pm_M} {Post : Int32 → pm_M → Prop} {v0 : Nat} {v1 : Int32} {M : pm_M} (E : pm_E G p s m args meth c cX10_rule 4 RX10) (hret : meth.sig.returnType = (some .int)) {H : Heap} {locs : List Loc} {ls : Array Slot} (hX : pm_X M0 M) (hI : pm_I G H0 M H locs) (t_v0 : pm_is M v0 9) (hl : lv_has ls 4 [(0, .ref (H0.size + v0)), (1, .int v1)]) (hw : w_X10_rule_178 Post v0 v1 M) : W p l e rm_X10_rule s m args below meth c H locs 0 0 (pm_Z G H0 M0 (pm_Pi Post) below args s rm_X10_rule.cells rm_X10_rule.slots) (F0 m 178 ls []) := by
  have hx := E.1
  have hb := E.2.1
  have hown := E.2.2.2.1
  have hts := E.2.2.2.2.1
  unfold w_X10_rule_178 at hw
  refine lv_aload_n hx hb dX10_rule_178 rfl (lv_at hl 0 rfl) ?_
  refine gf_X10_116 E hI t_v0 dX10_rule_179 ?_
  refine lv_if_eq (tgt := 192) hx hb dX10_rule_182 (by decide) (fun h_1 => ?_) (fun h_1 => ?_)
  · replace hw := hw.1 h_1
    refine lv_aload_n hx hb dX10_rule_192 rfl (lv_at hl 0 rfl) ?_
    refine lv_iload_n hx hb dX10_rule_193 rfl (lv_at hl 1 rfl) ?_
    refine lv_iconst (v := (-1 : Int32)) hx hb dX10_rule_194 (by decide) ?_
    refine lv_iconst (v := (-1 : Int32)) hx hb dX10_rule_195 (by decide) ?_
    refine lv_iconst (v := (1 : Int32)) hx hb dX10_rule_196 (by decide) ?_
    refine pm_callV (As := [.int v1, .int (-1 : Int32), .int (-1 : Int32), .int (1 : Int32)]) (rest := []) 4 E hI (k_X10_made t_v0 hw) t_v0 (by decide) rfl kc_X10_made kl_X10_146 km_X10_made ks_X10_made ki_X10 (by decide +kernel) ⟨by decide, by decide⟩ rfl hl.1 rfl (by first | exact Nat.le_of_ble_eq_true rfl | (simp only [List.map, pm_rf_cat]; exact Nat.le_of_ble_eq_true rfl)) dX10_rule_197 ⟨by decide, by decide⟩ (fun r9 M_2 H locs hp hX1 hI => ?_)
    clear hw
    obtain ⟨r_3, rfl, hw⟩ := hp
    replace t_v0 := t_v0.x hX1
    replace hX := hX.tr hX1
    refine pm_nrm (cells' := 0) (slots' := 0) (g2 := F0 m 200 ls [.int r_3]) rfl rfl rfl ?_
    exact c_X10_rule_200 E hret hX hI (lv_sub hl [] rfl) hw
  · replace hw := hw.2 h_1
    refine lv_aload_n hx hb dX10_rule_185 rfl (lv_at hl 0 rfl) ?_
    refine gf_X10_116 E hI t_v0 dX10_rule_186 ?_
    refine lv_goto (tgt := 200) hx hb dX10_rule_189 (by decide) ?_
    exact c_X10_rule_200 E hret hX hI (lv_sub hl [] rfl) hw
set_option maxHeartbeats 4000000 in
set_option maxRecDepth 100000 in
theorem c_X10_rule_61 {p : Program} {l : Launch} {e : Env} {s : State} {m : MethodId} {args : Array Value} {below : List Frame} {meth : Method} {c : Code} {G : pm_G} {H0 : Heap} {M0 : pm_M} {Post : Int32 → pm_M → Prop} {v0 : Nat} {v1 : Int32} (E : pm_E G p s m args meth c cX10_rule 4 RX10) (hret : meth.sig.returnType = (some .int)) : ∀ (n : Nat) (v3 : Int32) (M : pm_M) (H : Heap) (locs : List Loc) (ls : Array Slot), pm_X M0 M → pm_I G H0 M H locs → (pm_is M v0 9) → lv_has ls 4 [(0, .ref (H0.size + v0)), (1, .int v1), (3, .int v3)] → w_X10_rule_61 Post v0 v1 n v3 M → W p l e rm_X10_rule s m args below meth c H locs 0 0 (pm_Z G H0 M0 (pm_Pi Post) below args s rm_X10_rule.cells rm_X10_rule.slots) (F0 m 61 ls []) := by
  have hx := E.1
  have hb := E.2.1
  have hown := E.2.2.2.1
  have hts := E.2.2.2.2.1
  intro n
  induction n with
  | zero =>
    intro v3 M H locs ls hX hI t_v0 hl hw
    unfold w_X10_rule_61 at hw
    exact hw.elim
  | succ n ih =>
    intro v3 M H locs ls hX hI t_v0 hl hw
    unfold w_X10_rule_61 at hw
    refine lv_iload_n hx hb dX10_rule_61 rfl (lv_at hl 2 rfl) ?_
    refine lv_aload_n hx hb dX10_rule_62 rfl (lv_at hl 0 rfl) ?_
    refine gf_X10_13 E hI t_v0 dX10_rule_63 ?_
    refine lv_icmp_gt (tgt := 91) hx hb dX10_rule_66 (by decide) (fun h_1 => ?_) (fun h_1 => ?_)
    · replace hw := hw.1 h_1
      refine lv_iload_n hx hb dX10_rule_91 rfl (lv_at hl 1 rfl) ?_
      refine pm_cases (x := v1) 0 6 (fun j hj h9 => ?_) (fun h9 => ?_)
      · match j, hj, h9 with
        | 0, hj, h9 =>
          refine lv_tableIn (tgt := 132) hx hb dX10_rule_92 (by rw [h9]; decide) (by rw [h9]; decide) (by rw [h9]; rfl) (by decide) ?_
          replace hw := hw.1 h9
          refine lv_aload_n hx hb dX10_rule_132 rfl (lv_at hl 0 rfl) ?_
          refine pm_callV (As := []) (rest := []) 0 E hI (k_X10_readsTold t_v0 hw) t_v0 (by decide) rfl kc_X10_readsTold kl_X10_125 km_X10_readsTold ks_X10_readsTold ki_X10 (by decide +kernel) ⟨by decide, by decide⟩ rfl hl.1 rfl (by first | exact Nat.le_of_ble_eq_true rfl | (simp only [List.map, pm_rf_cat]; exact Nat.le_of_ble_eq_true rfl)) dX10_rule_133 ⟨by decide, by decide⟩ (fun r9 M_2 H locs hp hX1 hI => ?_)
          clear hw
          obtain ⟨rfl, hw⟩ := hp
          replace t_v0 := t_v0.x hX1
          replace hX := hX.tr hX1
          refine pm_nrm (cells' := 0) (slots' := 0) (g2 := F0 m 136 ls []) rfl rfl rfl ?_
          refine lv_goto (tgt := 178) hx hb dX10_rule_136 (by decide) ?_
          exact c_X10_rule_178 E hret hX hI t_v0 (lv_sub hl [0, 1] rfl) hw
        | 1, hj, h9 =>
          refine lv_tableIn (tgt := 139) hx hb dX10_rule_92 (by rw [h9]; decide) (by rw [h9]; decide) (by rw [h9]; rfl) (by decide) ?_
          replace hw := hw.2.1 h9
          refine lv_aload_n hx hb dX10_rule_139 rfl (lv_at hl 0 rfl) ?_
          refine pm_callV (As := []) (rest := []) 0 E hI (k_X10_readsEven t_v0 hw) t_v0 (by decide) rfl kc_X10_readsEven kl_X10_128 km_X10_readsEven ks_X10_readsEven ki_X10 (by decide +kernel) ⟨by decide, by decide⟩ rfl hl.1 rfl (by first | exact Nat.le_of_ble_eq_true rfl | (simp only [List.map, pm_rf_cat]; exact Nat.le_of_ble_eq_true rfl)) dX10_rule_140 ⟨by decide, by decide⟩ (fun r9 M_3 H locs hp hX1 hI => ?_)
          clear hw
          obtain ⟨rfl, hw⟩ := hp
          replace t_v0 := t_v0.x hX1
          replace hX := hX.tr hX1
          refine pm_nrm (cells' := 0) (slots' := 0) (g2 := F0 m 143 ls []) rfl rfl rfl ?_
          refine lv_goto (tgt := 178) hx hb dX10_rule_143 (by decide) ?_
          exact c_X10_rule_178 E hret hX hI t_v0 (lv_sub hl [0, 1] rfl) hw
        | 2, hj, h9 =>
          refine lv_tableIn (tgt := 146) hx hb dX10_rule_92 (by rw [h9]; decide) (by rw [h9]; decide) (by rw [h9]; rfl) (by decide) ?_
          replace hw := hw.2.2.1 h9
          refine lv_aload_n hx hb dX10_rule_146 rfl (lv_at hl 0 rfl) ?_
          refine pm_callV (As := []) (rest := []) 0 E hI (k_X10_readsParts t_v0 hw) t_v0 (by decide) rfl kc_X10_readsParts kl_X10_131 km_X10_readsParts ks_X10_readsParts ki_X10 (by decide +kernel) ⟨by decide, by decide⟩ rfl hl.1 rfl (by first | exact Nat.le_of_ble_eq_true rfl | (simp only [List.map, pm_rf_cat]; exact Nat.le_of_ble_eq_true rfl)) dX10_rule_147 ⟨by decide, by decide⟩ (fun r9 M_4 H locs hp hX1 hI => ?_)
          clear hw
          obtain ⟨rfl, hw⟩ := hp
          replace t_v0 := t_v0.x hX1
          replace hX := hX.tr hX1
          refine pm_nrm (cells' := 0) (slots' := 0) (g2 := F0 m 150 ls []) rfl rfl rfl ?_
          refine lv_goto (tgt := 178) hx hb dX10_rule_150 (by decide) ?_
          exact c_X10_rule_178 E hret hX hI t_v0 (lv_sub hl [0, 1] rfl) hw
        | 3, hj, h9 =>
          refine lv_tableIn (tgt := 153) hx hb dX10_rule_92 (by rw [h9]; decide) (by rw [h9]; decide) (by rw [h9]; rfl) (by decide) ?_
          replace hw := hw.2.2.2.1 h9
          refine lv_aload_n hx hb dX10_rule_153 rfl (lv_at hl 0 rfl) ?_
          refine pm_callV (As := []) (rest := []) 0 E hI (k_X10_readsNested t_v0 hw) t_v0 (by decide) rfl kc_X10_readsNested kl_X10_134 km_X10_readsNested ks_X10_readsNested ki_X10 (by decide +kernel) ⟨by decide, by decide⟩ rfl hl.1 rfl (by first | exact Nat.le_of_ble_eq_true rfl | (simp only [List.map, pm_rf_cat]; exact Nat.le_of_ble_eq_true rfl)) dX10_rule_154 ⟨by decide, by decide⟩ (fun r9 M_5 H locs hp hX1 hI => ?_)
          clear hw
          obtain ⟨rfl, hw⟩ := hp
          replace t_v0 := t_v0.x hX1
          replace hX := hX.tr hX1
          refine pm_nrm (cells' := 0) (slots' := 0) (g2 := F0 m 157 ls []) rfl rfl rfl ?_
          refine lv_goto (tgt := 178) hx hb dX10_rule_157 (by decide) ?_
          exact c_X10_rule_178 E hret hX hI t_v0 (lv_sub hl [0, 1] rfl) hw
        | 4, hj, h9 =>
          refine lv_tableIn (tgt := 160) hx hb dX10_rule_92 (by rw [h9]; decide) (by rw [h9]; decide) (by rw [h9]; rfl) (by decide) ?_
          replace hw := hw.2.2.2.2.1 h9
          refine lv_aload_n hx hb dX10_rule_160 rfl (lv_at hl 0 rfl) ?_
          refine pm_callV (As := []) (rest := []) 0 E hI (k_X10_readsEdges t_v0 hw) t_v0 (by decide) rfl kc_X10_readsEdges kl_X10_137 km_X10_readsEdges ks_X10_readsEdges ki_X10 (by decide +kernel) ⟨by decide, by decide⟩ rfl hl.1 rfl (by first | exact Nat.le_of_ble_eq_true rfl | (simp only [List.map, pm_rf_cat]; exact Nat.le_of_ble_eq_true rfl)) dX10_rule_161 ⟨by decide, by decide⟩ (fun r9 M_6 H locs hp hX1 hI => ?_)
          clear hw
          obtain ⟨rfl, hw⟩ := hp
          replace t_v0 := t_v0.x hX1
          replace hX := hX.tr hX1
          refine pm_nrm (cells' := 0) (slots' := 0) (g2 := F0 m 164 ls []) rfl rfl rfl ?_
          refine lv_goto (tgt := 178) hx hb dX10_rule_164 (by decide) ?_
          exact c_X10_rule_178 E hret hX hI t_v0 (lv_sub hl [0, 1] rfl) hw
        | 5, hj, h9 =>
          refine lv_tableIn (tgt := 167) hx hb dX10_rule_92 (by rw [h9]; decide) (by rw [h9]; decide) (by rw [h9]; rfl) (by decide) ?_
          replace hw := hw.2.2.2.2.2.1 h9
          refine lv_aload_n hx hb dX10_rule_167 rfl (lv_at hl 0 rfl) ?_
          refine pm_callV (As := []) (rest := []) 0 E hI (k_X10_readsRows t_v0 hw) t_v0 (by decide) rfl kc_X10_readsRows kl_X10_140 km_X10_readsRows ks_X10_readsRows ki_X10 (by decide +kernel) ⟨by decide, by decide⟩ rfl hl.1 rfl (by first | exact Nat.le_of_ble_eq_true rfl | (simp only [List.map, pm_rf_cat]; exact Nat.le_of_ble_eq_true rfl)) dX10_rule_168 ⟨by decide, by decide⟩ (fun r9 M_7 H locs hp hX1 hI => ?_)
          clear hw
          obtain ⟨rfl, hw⟩ := hp
          replace t_v0 := t_v0.x hX1
          replace hX := hX.tr hX1
          refine pm_nrm (cells' := 0) (slots' := 0) (g2 := F0 m 171 ls []) rfl rfl rfl ?_
          refine lv_goto (tgt := 178) hx hb dX10_rule_171 (by decide) ?_
          exact c_X10_rule_178 E hret hX hI t_v0 (lv_sub hl [0, 1] rfl) hw
        | (j + 6), hj, h9 => exact absurd hj (by omega)
      · refine lv_tableOut (tgt := 174) hx hb dX10_rule_92 (pm_out h9) (by decide) ?_
        replace hw := hw.2.2.2.2.2.2 h9
        refine lv_aload_n hx hb dX10_rule_174 rfl (lv_at hl 0 rfl) ?_
        refine pm_callV (As := []) (rest := []) 0 E hI (k_X10_readsPlaces t_v0 hw) t_v0 (by decide) rfl kc_X10_readsPlaces kl_X10_143 km_X10_readsPlaces ks_X10_readsPlaces ki_X10 (by decide +kernel) ⟨by decide, by decide⟩ rfl hl.1 rfl (by first | exact Nat.le_of_ble_eq_true rfl | (simp only [List.map, pm_rf_cat]; exact Nat.le_of_ble_eq_true rfl)) dX10_rule_175 ⟨by decide, by decide⟩ (fun r9 M_8 H locs hp hX1 hI => ?_)
        clear hw
        obtain ⟨rfl, hw⟩ := hp
        replace t_v0 := t_v0.x hX1
        replace hX := hX.tr hX1
        refine pm_nrm (cells' := 0) (slots' := 0) (g2 := F0 m 178 ls []) rfl rfl rfl ?_
        exact c_X10_rule_178 E hret hX hI t_v0 (lv_sub hl [0, 1] rfl) hw
    · replace hw := hw.2 h_1
      refine lv_aload_n hx hb dX10_rule_69 rfl (lv_at hl 0 rfl) ?_
      obtain ⟨q_9, e_q_9, hw⟩ := hw
      refine gf_X10_21 E hI t_v0 dX10_rule_70 e_q_9 (fun t_q_9 => ?_)
      refine lv_sipush (v := (4096 : Int32)) hx hb dX10_rule_73 (by decide) ?_
      refine lv_aload_n hx hb dX10_rule_76 rfl (lv_at hl 0 rfl) ?_
      refine gf_X10_85 E hI t_v0 dX10_rule_77 ?_
      refine lv_imul hx hb dX10_rule_80 ?_
      refine lv_iload_n hx hb dX10_rule_81 rfl (lv_at hl 2 rfl) ?_
      refine lv_iadd hx hb dX10_rule_82 ?_
      refine lv_iconst (v := (0 : Int32)) hx hb dX10_rule_83 (by decide) ?_
      obtain ⟨h_10, hw⟩ := hw
      refine ps_zast E hI t_q_9 h_10 dX10_rule_84 (fun H locs M_11 e_M_11 hX1 hI => ?_)
      replace hw := hw M_11 e_M_11
      replace t_v0 := t_v0.x hX1
      replace hX := hX.tr hX1
      obtain ⟨x_12, e_x_12⟩ : ∃ z : Int32, z = v3 + (1 : Int32) := ⟨_, rfl⟩
      refine lv_iinc (v := x_12) (lv' := [(3, .int x_12), (0, .ref (H0.size + v0)), (1, .int v1)]) hx hb dX10_rule_85 hl (k := 2) rfl (by rw [e_x_12]; rfl) (by decide) rfl (fun ls hl_13 => ?_)
      replace hw := hw x_12 e_x_12
      refine lv_goto (tgt := 61) hx hb dX10_rule_88 (by decide) ?_
      exact ih _ _ _ _ _ hX hI t_v0 (lv_sub hl_13 [1, 2, 0] rfl) hw
set_option maxHeartbeats 4000000 in
set_option maxRecDepth 100000 in
theorem c_X10_rule_17 {p : Program} {l : Launch} {e : Env} {s : State} {m : MethodId} {args : Array Value} {below : List Frame} {meth : Method} {c : Code} {G : pm_G} {H0 : Heap} {M0 : pm_M} {Post : Int32 → pm_M → Prop} {M : pm_M} (E : pm_E G p s m args meth c cX10_rule 4 RX10) (hret : meth.sig.returnType = (some .int)) {H : Heap} {locs : List Loc} {ls : Array Slot} (hX : pm_X M0 M) (hI : pm_I G H0 M H locs) (hl : lv_has ls 4 []) (hw : w_X10_rule_17 Post M) : W p l e rm_X10_rule s m args below meth c H locs 0 0 (pm_Z G H0 M0 (pm_Pi Post) below args s rm_X10_rule.cells rm_X10_rule.slots) (F0 m 17 ls []) := by
  have hx := E.1
  have hb := E.2.1
  have hown := E.2.2.2.1
  have hts := E.2.2.2.2.1
  unfold w_X10_rule_17 at hw
  refine lv_bipush (v := (-2 : Int32)) hx hb dX10_rule_17 (by decide) ?_
  exact pm_iret E hret hI hX ⟨_, rfl, hw⟩ (by decide) (by decide) dX10_rule_19
set_option maxHeartbeats 4000000 in
set_option maxRecDepth 100000 in
theorem k_X10_rule {l : Launch} {G : pm_G} {H0 : Heap} {th : Nat} {a1 : Int32} {a2 : Int32} {M : pm_M} {Post : Int32 → pm_M → Prop} (t_th : pm_is M th 9) (hw : w_X10_rule th a1 a2 M Post) : pm_C l G H0 yX10_rule cX10_rule 4 (some .int) rm_X10_rule [.ref (H0.size + th), .int a1, .int a2] M (pm_Pi Post) := by
  refine pm_start (by decide +kernel) (Nat.le_of_ble_eq_true rfl) ?_
  intro p e s m args below meth c H ls E hret hnm hI hl
  have hX : pm_X M M := pm_X.rf
  have hl : lv_has ls 4 [(0, .ref (H0.size + th)), (1, .int a1), (2, .int a2)] := hl
  have hx := E.1
  have hb := E.2.1
  have hown := E.2.2.2.1
  have hts := E.2.2.2.2.1
  unfold w_X10_rule at hw
  refine lv_iload_n hx hb dX10_rule_0 rfl (lv_at hl 2 rfl) ?_
  refine pm_callS (As := [.int a2]) (rest := []) 1 E hI (k_X10_isSlot hw) kc_X10_isSlot kl_X10_93 kt_X10_isSlot ki_X10 (by decide +kernel) ⟨by decide, by decide⟩ rfl hl.1 rfl (by first | exact Nat.le_of_ble_eq_true rfl | (simp only [List.map, pm_rf_cat]; exact Nat.le_of_ble_eq_true rfl)) dX10_rule_1 ⟨by decide, by decide⟩ (fun r9 M9 H locs hp hX1 hI => ?_)
  clear hw
  obtain ⟨r_1, rfl, rfl, hw⟩ := hp
  refine pm_nrm (cells' := 0) (slots' := 0) (g2 := F0 m 4 ls [.int r_1]) rfl rfl rfl ?_
  refine lv_if_eq (tgt := 17) hx hb dX10_rule_4 (by decide) (fun h_2 => ?_) (fun h_2 => ?_)
  · replace hw := hw.1 h_2
    exact c_X10_rule_17 E hret hX hI (lv_sub hl [] rfl) hw
  · replace hw := hw.2 h_2
    refine lv_iload_n hx hb dX10_rule_7 rfl (lv_at hl 1 rfl) ?_
    refine lv_if_lt (tgt := 17) hx hb dX10_rule_8 (by decide) (fun h_3 => ?_) (fun h_3 => ?_)
    · replace hw := hw.1 h_3
      exact c_X10_rule_17 E hret hX hI (lv_sub hl [] rfl) hw
    · replace hw := hw.2 h_3
      refine lv_iload_n hx hb dX10_rule_11 rfl (lv_at hl 1 rfl) ?_
      refine lv_bipush (v := (6 : Int32)) hx hb dX10_rule_12 (by decide) ?_
      refine lv_icmp_le (tgt := 20) hx hb dX10_rule_14 (by decide) (fun h_4 => ?_) (fun h_4 => ?_)
      · replace hw := hw.1 h_4
        refine lv_aload_n hx hb dX10_rule_20 rfl (lv_at hl 0 rfl) ?_
        refine gf_X10_85 E hI t_th dX10_rule_21 ?_
        refine lv_bipush (v := (24 : Int32)) hx hb dX10_rule_24 (by decide) ?_
        refine lv_icmp_ne (tgt := 32) hx hb dX10_rule_26 (by decide) (fun h_5 => ?_) (fun h_5 => ?_)
        · replace hw := hw.1 h_5
          refine lv_aload_n hx hb dX10_rule_32 rfl (lv_at hl 0 rfl) ?_
          obtain ⟨q_6, e_q_6, hw⟩ := hw
          refine gf_X10_44 E hI t_th dX10_rule_33 e_q_6 (fun t_q_6 => ?_)
          refine lv_iload_n hx hb dX10_rule_36 rfl (lv_at hl 2 rfl) ?_
          obtain ⟨h_7, hw⟩ := hw
          refine pm_iald E hI t_q_6 h_7 dX10_rule_37 ?_
          refine lv_if_ne (tgt := 44) hx hb dX10_rule_38 (by decide) (fun h_8 => ?_) (fun h_8 => ?_)
          · replace hw := hw.1 h_8
            refine lv_aload_n hx hb dX10_rule_44 rfl (lv_at hl 0 rfl) ?_
            refine lv_iload_n hx hb dX10_rule_45 rfl (lv_at hl 2 rfl) ?_
            refine pf_X10_122 E hI t_th dX10_rule_46 (fun H locs M_9 e_M_9 hX1 hI => ?_)
            replace hw := hw M_9 e_M_9
            replace t_th := t_th.x hX1
            replace hX := hX.tr hX1
            refine lv_aload_n hx hb dX10_rule_49 rfl (lv_at hl 0 rfl) ?_
            refine lv_iconst (v := (0 : Int32)) hx hb dX10_rule_50 (by decide) ?_
            refine pf_X10_119 E hI t_th dX10_rule_51 (fun H locs M_10 e_M_10 hX1 hI => ?_)
            replace hw := hw M_10 e_M_10
            replace t_th := t_th.x hX1
            replace hX := hX.tr hX1
            refine lv_aload_n hx hb dX10_rule_54 rfl (lv_at hl 0 rfl) ?_
            refine lv_iconst (v := (0 : Int32)) hx hb dX10_rule_55 (by decide) ?_
            refine pf_X10_116 E hI t_th dX10_rule_56 (fun H locs M_11 e_M_11 hX1 hI => ?_)
            replace hw := hw M_11 e_M_11
            replace t_th := t_th.x hX1
            replace hX := hX.tr hX1
            refine lv_iconst (v := (0 : Int32)) hx hb dX10_rule_59 (by decide) ?_
            refine lv_istore_n (lv' := [(3, .int (0 : Int32)), (0, .ref (H0.size + th)), (1, .int a1), (2, .int a2)]) hx hb dX10_rule_60 rfl hl (by decide) rfl (fun ls hl_12 => ?_)
            obtain ⟨n_13, hw⟩ := hw
            exact c_X10_rule_61 E hret n_13 _ _ _ _ _ hX hI t_th (lv_sub hl_12 [1, 2, 0] rfl) hw
          · replace hw := hw.2 h_8
            refine lv_bipush (v := (-5 : Int32)) hx hb dX10_rule_41 (by decide) ?_
            exact pm_iret E hret hI hX ⟨_, rfl, hw⟩ (by decide) (by decide) dX10_rule_43
        · replace hw := hw.2 h_5
          refine lv_bipush (v := (-8 : Int32)) hx hb dX10_rule_29 (by decide) ?_
          exact pm_iret E hret hI hX ⟨_, rfl, hw⟩ (by decide) (by decide) dX10_rule_31
      · replace hw := hw.2 h_4
        exact c_X10_rule_17 E hret hX hI (lv_sub hl [] rfl) hw
set_option maxHeartbeats 4000000 in
set_option maxRecDepth 100000 in
theorem c_X10_refused_47 {p : Program} {l : Launch} {e : Env} {s : State} {m : MethodId} {args : Array Value} {below : List Frame} {meth : Method} {c : Code} {G : pm_G} {H0 : Heap} {Post : Int32 → Prop} {s0 : Int32} {M : pm_M} (E : pm_E G p s m args meth c cX10_refused 3 RX10) (hret : meth.sig.returnType = (some .int)) {H : Heap} {locs : List Loc} {ls : Array Slot} (hI : pm_I G H0 M H locs) (hl : lv_has ls 3 []) (hw : w_X10_refused_47 Post s0 M) : W p l e rm_X10_refused s m args below meth c H locs 0 0 (pm_Z G H0 M (pm_Pi (fun r9 M9 => M = M9 ∧ Post r9)) below args s rm_X10_refused.cells rm_X10_refused.slots) (F0 m 47 ls [.int s0]) := by
  have hx := E.1
  have hb := E.2.1
  have hown := E.2.2.2.1
  have hts := E.2.2.2.2.1
  unfold w_X10_refused_47 at hw
  exact pm_iret E hret hI pm_X.rf ⟨_, rfl, rfl, hw⟩ (by decide) (by decide) dX10_refused_47
set_option maxHeartbeats 4000000 in
set_option maxRecDepth 100000 in
theorem c_X10_refused_16 {p : Program} {l : Launch} {e : Env} {s : State} {m : MethodId} {args : Array Value} {below : List Frame} {meth : Method} {c : Code} {G : pm_G} {H0 : Heap} {Post : Int32 → Prop} {M : pm_M} (E : pm_E G p s m args meth c cX10_refused 3 RX10) (hret : meth.sig.returnType = (some .int)) {H : Heap} {locs : List Loc} {ls : Array Slot} (hI : pm_I G H0 M H locs) (hl : lv_has ls 3 []) (hw : w_X10_refused_16 Post M) : W p l e rm_X10_refused s m args below meth c H locs 0 0 (pm_Z G H0 M (pm_Pi (fun r9 M9 => M = M9 ∧ Post r9)) below args s rm_X10_refused.cells rm_X10_refused.slots) (F0 m 16 ls []) := by
  have hx := E.1
  have hb := E.2.1
  have hown := E.2.2.2.1
  have hts := E.2.2.2.2.1
  unfold w_X10_refused_16 at hw
  refine lv_bipush (v := (-2 : Int32)) hx hb dX10_refused_16 (by decide) ?_
  exact pm_iret E hret hI pm_X.rf ⟨_, rfl, rfl, hw⟩ (by decide) (by decide) dX10_refused_18
set_option maxHeartbeats 4000000 in
set_option maxRecDepth 100000 in
theorem k_X10_refused {l : Launch} {G : pm_G} {H0 : Heap} {th : Nat} {a1 : Int32} {a2 : Int32} {M : pm_M} {Post : Int32 → Prop} (t_th : pm_is M th 9) (hw : w_X10_refused th a1 a2 M Post) : pm_C l G H0 yX10_refused cX10_refused 3 (some .int) rm_X10_refused [.ref (H0.size + th), .int a1, .int a2] M (pm_Pi (fun r9 M9 => M = M9 ∧ Post r9)) := by
  refine pm_start (by decide +kernel) (Nat.le_of_ble_eq_true rfl) ?_
  intro p e s m args below meth c H ls E hret hnm hI hl
  have hl : lv_has ls 3 [(0, .ref (H0.size + th)), (1, .int a1), (2, .int a2)] := hl
  have hx := E.1
  have hb := E.2.1
  have hown := E.2.2.2.1
  have hts := E.2.2.2.2.1
  unfold w_X10_refused at hw
  refine lv_aload_n hx hb dX10_refused_0 rfl (lv_at hl 0 rfl) ?_
  refine lv_iload_n hx hb dX10_refused_1 rfl (lv_at hl 1 rfl) ?_
  refine pm_callV (As := [.int a1]) (rest := []) 1 E hI (k_X10_isRule t_th hw) t_th (by decide) rfl kc_X10_isRule kl_X10_191 km_X10_isRule ks_X10_isRule ki_X10 (by decide +kernel) ⟨by decide, by decide⟩ rfl hl.1 rfl (by first | exact Nat.le_of_ble_eq_true rfl | (simp only [List.map, pm_rf_cat]; exact Nat.le_of_ble_eq_true rfl)) dX10_refused_2 ⟨by decide, by decide⟩ (fun r9 M9 H locs hp hX1 hI => ?_)
  clear hw
  obtain ⟨r_1, rfl, rfl, hw⟩ := hp
  refine pm_nrm (cells' := 0) (slots' := 0) (g2 := F0 m 5 ls [.int r_1]) rfl rfl rfl ?_
  refine lv_if_eq (tgt := 16) hx hb dX10_refused_5 (by decide) (fun h_2 => ?_) (fun h_2 => ?_)
  · replace hw := hw.1 h_2
    exact c_X10_refused_16 E hret hI (lv_sub hl [] rfl) hw
  · replace hw := hw.2 h_2
    refine lv_aload_n hx hb dX10_refused_8 rfl (lv_at hl 0 rfl) ?_
    refine lv_iload_n hx hb dX10_refused_9 rfl (lv_at hl 2 rfl) ?_
    refine pm_callV (As := [.int a2]) (rest := []) 1 E hI (k_X10_isSet t_th hw) t_th (by decide) rfl kc_X10_isSet kl_X10_194 km_X10_isSet ks_X10_isSet ki_X10 (by decide +kernel) ⟨by decide, by decide⟩ rfl hl.1 rfl (by first | exact Nat.le_of_ble_eq_true rfl | (simp only [List.map, pm_rf_cat]; exact Nat.le_of_ble_eq_true rfl)) dX10_refused_10 ⟨by decide, by decide⟩ (fun r9 M9 H locs hp hX1 hI => ?_)
    clear hw
    obtain ⟨r_3, rfl, rfl, hw⟩ := hp
    refine pm_nrm (cells' := 0) (slots' := 0) (g2 := F0 m 13 ls [.int r_3]) rfl rfl rfl ?_
    refine lv_if_ne (tgt := 19) hx hb dX10_refused_13 (by decide) (fun h_4 => ?_) (fun h_4 => ?_)
    · replace hw := hw.1 h_4
      refine lv_aload_n hx hb dX10_refused_19 rfl (lv_at hl 0 rfl) ?_
      refine gf_X10_85 E hI t_th dX10_refused_20 ?_
      refine lv_bipush (v := (24 : Int32)) hx hb dX10_refused_23 (by decide) ?_
      refine lv_icmp_ne (tgt := 31) hx hb dX10_refused_25 (by decide) (fun h_5 => ?_) (fun h_5 => ?_)
      · replace hw := hw.1 h_5
        refine lv_aload_n hx hb dX10_refused_31 rfl (lv_at hl 0 rfl) ?_
        obtain ⟨q_6, e_q_6, hw⟩ := hw
        refine gf_X10_38 E hI t_th dX10_refused_32 e_q_6 (fun t_q_6 => ?_)
        refine lv_iload_n hx hb dX10_refused_35 rfl (lv_at hl 1 rfl) ?_
        obtain ⟨h_7, hw⟩ := hw
        refine pm_iald E hI t_q_6 h_7 dX10_refused_36 ?_
        refine lv_iconst (v := (3 : Int32)) hx hb dX10_refused_37 (by decide) ?_
        refine lv_icmp_ne (tgt := 46) hx hb dX10_refused_38 (by decide) (fun h_8 => ?_) (fun h_8 => ?_)
        · replace hw := hw.1 h_8
          refine lv_iconst (v := (0 : Int32)) hx hb dX10_refused_46 (by decide) ?_
          exact c_X10_refused_47 E hret hI (lv_sub hl [] rfl) hw
        · replace hw := hw.2 h_8
          refine lv_bipush (v := (-3 : Int32)) hx hb dX10_refused_41 (by decide) ?_
          refine lv_goto (tgt := 47) hx hb dX10_refused_43 (by decide) ?_
          exact c_X10_refused_47 E hret hI (lv_sub hl [] rfl) hw
      · replace hw := hw.2 h_5
        refine lv_bipush (v := (-8 : Int32)) hx hb dX10_refused_28 (by decide) ?_
        exact pm_iret E hret hI pm_X.rf ⟨_, rfl, rfl, hw⟩ (by decide) (by decide) dX10_refused_30
    · replace hw := hw.2 h_4
      exact c_X10_refused_16 E hret hI (lv_sub hl [] rfl) hw
