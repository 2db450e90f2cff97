abbrev rm_X0_init : Room := { frames := 1, cells := 2, slots := 80, locals := 40 }
def w_X0_init (th : Nat) (M : pm_M) (Post : pm_M → Prop) : Prop := (∀ M_1 : pm_M, M_1 = sN M 11 40 → (∀ M_3 : pm_M, M_3 = sR M_1 th 0 (some (mZ M)) → (∀ M_4 : pm_M, M_4 = sN M_3 11 40 → (∀ M_6 : pm_M, M_6 = sR M_4 th 1 (some (mZ M_3)) → Post M_6))))
set_option maxHeartbeats 4000000 in
set_option maxRecDepth 100000 in
theorem k_X0_init {l : Launch} {G : pm_G} {H0 : Heap} {th : Nat} {M : pm_M} {Post : pm_M → Prop} (t_th : pm_is M th 0) (hw : w_X0_init th M Post) : pm_C l G H0 yX0_init cX0_init 1 none rm_X0_init [.ref (H0.size + th)] M (pm_Pv Post) := by
  refine pm_start (by decide +kernel) (Nat.le_of_ble_eq_true rfl) ?_
  intro p e s m args below meth c H ls E hret hnm hI hl
  have hX : pm_X M M := pm_X.rf
  have hl : lv_has ls 1 [(0, .ref (H0.size + th))] := hl
  have hx := E.1
  have hb := E.2.1
  have hown := E.2.2.2.1
  have hts := E.2.2.2.2.1
  unfold w_X0_init at hw
  refine lv_aload_n hx hb dX0_init_0 rfl (lv_at hl 0 rfl) ?_
  refine pm_objInit E hl.1 kl_X0_3 ko_init ko_code dX0_init_1 (by decide) (Nat.le_of_ble_eq_true rfl) ?_
  refine lv_aload_n hx hb dX0_init_4 rfl (lv_at hl 0 rfl) ?_
  refine lv_bipush (v := (40 : Int32)) hx hb dX0_init_5 (by decide) ?_
  refine newI (N := 40) E hI (by decide) (by decide) (by decide) (by decide) (by decide) dX0_init_7 (fun H M_1 e_M_1 hX1 tn_2 hI => ?_)
  replace hw := hw M_1 e_M_1
  replace t_th := t_th.x hX1
  replace hX := hX.tr hX1
  refine pm_nrm (cells' := 1) (slots' := 40) (g2 := F0 m 9 ls [.ref (H0.size + (mZ M)), .ref (H0.size + th)]) rfl rfl rfl ?_
  refine pf_X0_9 E hI t_th dX0_init_9 hnm tn_2 (fun H locs M_3 e_M_3 hX1 hI => ?_)
  replace hw := hw M_3 e_M_3
  replace t_th := t_th.x hX1
  replace hX := hX.tr hX1
  refine lv_aload_n hx hb dX0_init_12 rfl (lv_at hl 0 rfl) ?_
  refine lv_bipush (v := (40 : Int32)) hx hb dX0_init_13 (by decide) ?_
  refine newI (N := 40) E hI (by decide) (by decide) (by decide) (by decide) (by decide) dX0_init_15 (fun H M_4 e_M_4 hX1 tn_5 hI => ?_)
  replace hw := hw M_4 e_M_4
  replace t_th := t_th.x hX1
  replace hX := hX.tr hX1
  refine pm_nrm (cells' := 2) (slots' := 80) (g2 := F0 m 17 ls [.ref (H0.size + (mZ M_3)), .ref (H0.size + th)]) rfl rfl rfl ?_
  refine pf_X0_15 E hI t_th dX0_init_17 hnm tn_5 (fun H locs M_6 e_M_6 hX1 hI => ?_)
  replace hw := hw M_6 e_M_6
  replace t_th := t_th.x hX1
  replace hX := hX.tr hX1
  exact pm_vret E hret hI hX ⟨rfl, hw⟩ (by decide) (by decide) dX0_init_20
abbrev rm_X6_hasStretch : Room := { frames := 0, cells := 0, slots := 0, locals := 0 }
def w_X6_hasStretch_31 (Post : Int32 → Prop) (s0 : Int32) (M : pm_M) : Prop := ((s0 = 0 ∨ s0 = 1) ∧ Post s0)
def w_X6_hasStretch_30 (Post : Int32 → Prop) (M : pm_M) : Prop := w_X6_hasStretch_31 Post (0 : Int32) M
def w_X6_hasStretch (th : Nat) (a1 : Int32) (a2 : Int32) (M : pm_M) (Post : Int32 → Prop) : Prop := ((a1 < 0 → w_X6_hasStretch_30 Post M) ∧ (¬ a1 < 0 → ((a2 < 0 → w_X6_hasStretch_30 Post M) ∧ (¬ a2 < 0 → (((mI M th 2) < a2 → w_X6_hasStretch_30 Post M) ∧ (¬ (mI M th 2) < a2 → ((((mI M th 2) - a2) < a1 → w_X6_hasStretch_30 Post M) ∧ (¬ ((mI M th 2) - a2) < a1 → w_X6_hasStretch_31 Post (1 : Int32) M))))))))
set_option maxHeartbeats 4000000 in
set_option maxRecDepth 100000 in
theorem c_X6_hasStretch_31 {p : Program} {l : Launch} {e : Env} {s : State} {m : MethodId} {args : Array Value} {below : List Frame} {meth : Method} {c : Code} {G : pm_G} {H0 : Heap} {Post : Int32 → Prop} {s0 : Int32} {M : pm_M} (E : pm_E G p s m args meth c cX6_hasStretch 3 RX6) (hret : meth.sig.returnType = (some .boolean)) {H : Heap} {locs : List Loc} {ls : Array Slot} (hI : pm_I G H0 M H locs) (hl : lv_has ls 3 []) (hw : w_X6_hasStretch_31 Post s0 M) : W p l e rm_X6_hasStretch s m args below meth c H locs 0 0 (pm_Z G H0 M (pm_Pi (fun r9 M9 => M = M9 ∧ Post r9)) below args s rm_X6_hasStretch.cells rm_X6_hasStretch.slots) (F0 m 31 ls [.int s0]) := by
  have hx := E.1
  have hb := E.2.1
  have hown := E.2.2.2.1
  have hts := E.2.2.2.2.1
  unfold w_X6_hasStretch_31 at hw
  exact pm_zret E hret hI pm_X.rf (pm_nb hw.1) ⟨_, rfl, rfl, hw.2⟩ (by decide) (by decide) dX6_hasStretch_31
set_option maxHeartbeats 4000000 in
set_option maxRecDepth 100000 in
theorem c_X6_hasStretch_30 {p : Program} {l : Launch} {e : Env} {s : State} {m : MethodId} {args : Array Value} {below : List Frame} {meth : Method} {c : Code} {G : pm_G} {H0 : Heap} {Post : Int32 → Prop} {M : pm_M} (E : pm_E G p s m args meth c cX6_hasStretch 3 RX6) (hret : meth.sig.returnType = (some .boolean)) {H : Heap} {locs : List Loc} {ls : Array Slot} (hI : pm_I G H0 M H locs) (hl : lv_has ls 3 []) (hw : w_X6_hasStretch_30 Post M) : W p l e rm_X6_hasStretch s m args below meth c H locs 0 0 (pm_Z G H0 M (pm_Pi (fun r9 M9 => M = M9 ∧ Post r9)) below args s rm_X6_hasStretch.cells rm_X6_hasStretch.slots) (F0 m 30 ls []) := by
  have hx := E.1
  have hb := E.2.1
  have hown := E.2.2.2.1
  have hts := E.2.2.2.2.1
  unfold w_X6_hasStretch_30 at hw
  refine lv_iconst (v := (0 : Int32)) hx hb dX6_hasStretch_30 (by decide) ?_
  exact c_X6_hasStretch_31 E hret hI (lv_sub hl [] rfl) hw
set_option maxHeartbeats 4000000 in
set_option maxRecDepth 100000 in
theorem k_X6_hasStretch {l : Launch} {G : pm_G} {H0 : Heap} {th : Nat} {a1 : Int32} {a2 : Int32} {M : pm_M} {Post : Int32 → Prop} (t_th : pm_is M th 5) (hw : w_X6_hasStretch th a1 a2 M Post) : pm_C l G H0 yX6_hasStretch cX6_hasStretch 3 (some .boolean) rm_X6_hasStretch [.ref (H0.size + th), .int a1, .int a2] M (pm_Pi (fun r9 M9 => M = M9 ∧ Post r9)) := by
  refine pm_start (by decide +kernel) (Nat.le_of_ble_eq_true rfl) ?_
  intro p e s m args below meth c H ls E hret hnm hI hl
  have hl : lv_has ls 3 [(0, .ref (H0.size + th)), (1, .int a1), (2, .int a2)] := hl
  have hx := E.1
  have hb := E.2.1
  have hown := E.2.2.2.1
  have hts := E.2.2.2.2.1
  unfold w_X6_hasStretch at hw
  refine lv_iload_n hx hb dX6_hasStretch_0 rfl (lv_at hl 1 rfl) ?_
  refine lv_if_lt (tgt := 30) hx hb dX6_hasStretch_1 (by decide) (fun h_1 => ?_) (fun h_1 => ?_)
  · replace hw := hw.1 h_1
    exact c_X6_hasStretch_30 E hret hI (lv_sub hl [] rfl) hw
  · replace hw := hw.2 h_1
    refine lv_iload_n hx hb dX6_hasStretch_4 rfl (lv_at hl 2 rfl) ?_
    refine lv_if_lt (tgt := 30) hx hb dX6_hasStretch_5 (by decide) (fun h_2 => ?_) (fun h_2 => ?_)
    · replace hw := hw.1 h_2
      exact c_X6_hasStretch_30 E hret hI (lv_sub hl [] rfl) hw
    · replace hw := hw.2 h_2
      refine lv_iload_n hx hb dX6_hasStretch_8 rfl (lv_at hl 2 rfl) ?_
      refine lv_aload_n hx hb dX6_hasStretch_9 rfl (lv_at hl 0 rfl) ?_
      refine gf_X6_25 E hI t_th dX6_hasStretch_10 ?_
      refine lv_icmp_gt (tgt := 30) hx hb dX6_hasStretch_13 (by decide) (fun h_3 => ?_) (fun h_3 => ?_)
      · replace hw := hw.1 h_3
        exact c_X6_hasStretch_30 E hret hI (lv_sub hl [] rfl) hw
      · replace hw := hw.2 h_3
        refine lv_iload_n hx hb dX6_hasStretch_16 rfl (lv_at hl 1 rfl) ?_
        refine lv_aload_n hx hb dX6_hasStretch_17 rfl (lv_at hl 0 rfl) ?_
        refine gf_X6_25 E hI t_th dX6_hasStretch_18 ?_
        refine lv_iload_n hx hb dX6_hasStretch_21 rfl (lv_at hl 2 rfl) ?_
        refine lv_isub hx hb dX6_hasStretch_22 ?_
        refine lv_icmp_gt (tgt := 30) hx hb dX6_hasStretch_23 (by decide) (fun h_4 => ?_) (fun h_4 => ?_)
        · replace hw := hw.1 h_4
          exact c_X6_hasStretch_30 E hret hI (lv_sub hl [] rfl) hw
        · replace hw := hw.2 h_4
          refine lv_iconst (v := (1 : Int32)) hx hb dX6_hasStretch_26 (by decide) ?_
          refine lv_goto (tgt := 31) hx hb dX6_hasStretch_27 (by decide) ?_
          exact c_X6_hasStretch_31 E hret hI (lv_sub hl [] rfl) hw
abbrev rm_X6_number : Room := { frames := 0, cells := 0, slots := 0, locals := 0 }
def w_X6_number_22 (Post : Int64 → Prop) (s0 : Int64) (M : pm_M) : Prop := Post s0
def w_X6_number_21 (Post : Int64 → Prop) (M : pm_M) : Prop := w_X6_number_22 Post (0 : Int64) M
def w_X6_number (th : Nat) (a1 : Int32) (M : pm_M) (Post : Int64 → Prop) : Prop := ((a1 < 0 → w_X6_number_21 Post M) ∧ (¬ a1 < 0 → (((mI M th 2) ≤ a1 → w_X6_number_21 Post M) ∧ (¬ (mI M th 2) ≤ a1 → (∃ q_3 : Nat, mR M th 0 = some q_3 ∧ (vp_in a1 (mN M q_3) ∧ w_X6_number_22 Post (mL M q_3 a1.toNatClampNeg) M))))))
set_option maxHeartbeats 4000000 in
set_option maxRecDepth 100000 in
theorem c_X6_number_22 {p : Program} {l : Launch} {e : Env} {s : State} {m : MethodId} {args : Array Value} {below : List Frame} {meth : Method} {c : Code} {G : pm_G} {H0 : Heap} {Post : Int64 → Prop} {s0 : Int64} {M : pm_M} (E : pm_E G p s m args meth c cX6_number 2 RX6) (hret : meth.sig.returnType = (some .long)) {H : Heap} {locs : List Loc} {ls : Array Slot} (hI : pm_I G H0 M H locs) (hl : lv_has ls 2 []) (hw : w_X6_number_22 Post s0 M) : W p l e rm_X6_number s m args below meth c H locs 0 0 (pm_Z G H0 M (pm_Pl (fun r9 M9 => M = M9 ∧ Post r9)) below args s rm_X6_number.cells rm_X6_number.slots) (F0 m 22 ls [.long s0]) := by
  have hx := E.1
  have hb := E.2.1
  have hown := E.2.2.2.1
  have hts := E.2.2.2.2.1
  unfold w_X6_number_22 at hw
  exact pm_lret E hret hI pm_X.rf ⟨_, rfl, rfl, hw⟩ (by decide) (by decide) dX6_number_22
set_option maxHeartbeats 4000000 in
set_option maxRecDepth 100000 in
theorem c_X6_number_21 {p : Program} {l : Launch} {e : Env} {s : State} {m : MethodId} {args : Array Value} {below : List Frame} {meth : Method} {c : Code} {G : pm_G} {H0 : Heap} {Post : Int64 → Prop} {M : pm_M} (E : pm_E G p s m args meth c cX6_number 2 RX6) (hret : meth.sig.returnType = (some .long)) {H : Heap} {locs : List Loc} {ls : Array Slot} (hI : pm_I G H0 M H locs) (hl : lv_has ls 2 []) (hw : w_X6_number_21 Post M) : W p l e rm_X6_number s m args below meth c H locs 0 0 (pm_Z G H0 M (pm_Pl (fun r9 M9 => M = M9 ∧ Post r9)) below args s rm_X6_number.cells rm_X6_number.slots) (F0 m 21 ls []) := by
  have hx := E.1
  have hb := E.2.1
  have hown := E.2.2.2.1
  have hts := E.2.2.2.2.1
  unfold w_X6_number_21 at hw
  refine lv_lconst (v := (0 : Int64)) hx hb dX6_number_21 (by decide) ?_
  exact c_X6_number_22 E hret hI (lv_sub hl [] rfl) hw
set_option maxHeartbeats 4000000 in
set_option maxRecDepth 100000 in
theorem k_X6_number {l : Launch} {G : pm_G} {H0 : Heap} {th : Nat} {a1 : Int32} {M : pm_M} {Post : Int64 → Prop} (t_th : pm_is M th 5) (hw : w_X6_number th a1 M Post) : pm_C l G H0 yX6_number cX6_number 2 (some .long) rm_X6_number [.ref (H0.size + th), .int a1] M (pm_Pl (fun r9 M9 => M = M9 ∧ Post r9)) := by
  refine pm_start (by decide +kernel) (Nat.le_of_ble_eq_true rfl) ?_
  intro p e s m args below meth c H ls E hret hnm hI hl
  have hl : lv_has ls 2 [(0, .ref (H0.size + th)), (1, .int a1)] := hl
  have hx := E.1
  have hb := E.2.1
  have hown := E.2.2.2.1
  have hts := E.2.2.2.2.1
  unfold w_X6_number at hw
  refine lv_iload_n hx hb dX6_number_0 rfl (lv_at hl 1 rfl) ?_
  refine lv_if_lt (tgt := 21) hx hb dX6_number_1 (by decide) (fun h_1 => ?_) (fun h_1 => ?_)
  · replace hw := hw.1 h_1
    exact c_X6_number_21 E hret hI (lv_sub hl [] rfl) hw
  · replace hw := hw.2 h_1
    refine lv_iload_n hx hb dX6_number_4 rfl (lv_at hl 1 rfl) ?_
    refine lv_aload_n hx hb dX6_number_5 rfl (lv_at hl 0 rfl) ?_
    refine gf_X6_25 E hI t_th dX6_number_6 ?_
    refine lv_icmp_ge (tgt := 21) hx hb dX6_number_9 (by decide) (fun h_2 => ?_) (fun h_2 => ?_)
    · replace hw := hw.1 h_2
      exact c_X6_number_21 E hret hI (lv_sub hl [] rfl) hw
    · replace hw := hw.2 h_2
      refine lv_aload_n hx hb dX6_number_12 rfl (lv_at hl 0 rfl) ?_
      obtain ⟨q_3, e_q_3, hw⟩ := hw
      refine gf_X6_9 E hI t_th dX6_number_13 e_q_3 (fun t_q_3 => ?_)
      refine lv_iload_n hx hb dX6_number_16 rfl (lv_at hl 1 rfl) ?_
      obtain ⟨h_4, hw⟩ := hw
      refine pm_lald E hI t_q_3 h_4 dX6_number_17 ?_
      refine lv_goto (tgt := 22) hx hb dX6_number_18 (by decide) ?_
      exact c_X6_number_22 E hret hI (lv_sub hl [] rfl) hw
abbrev rm_X4_next : Room := { frames := 1, cells := 0, slots := 0, locals := 22 }
def w_X4_next_75 (Post : Int32 → pm_M → Prop) (v0 : Nat) (v1 : Int32) (M : pm_M) : Prop := (∀ M_1 : pm_M, M_1 = sI M v0 2 (-4 : Int32) → Post v1 M_1)
def w_X4_next_31 (Post : Int32 → pm_M → Prop) (v0 : Nat) (v1 : Int32) (M : pm_M) : Prop := (∀ M_1 : pm_M, M_1 = sI M v0 2 (-6 : Int32) → Post v1 M_1)
def w_X4_next (th : Nat) (a1 : Int32) (a2 : Int32) (M : pm_M) (Post : Int32 → pm_M → Prop) : Prop := (((mI M th 2) = 0 → (∀ o_2 : Option Nat, o_2 = mR M th 0 → ((o_2 = none → w_X4_next_31 Post th a1 M) ∧ (∀ q_3 : Nat, o_2 = some q_3 → (∀ o_4 : Option Nat, o_4 = mR M th 0 → (∃ q_5 : Nat, o_4 = some q_5 ∧ w_X6_hasStretch q_5 (mI M th 1) (1 : Int32) M (fun r_6 => ((¬ r_6 = 0 → (∀ o_8 : Option Nat, o_8 = mR M th 0 → (∃ q_9 : Nat, o_8 = some q_9 ∧ w_X6_number q_9 (mI M th 1) M (fun r_10 => (∀ M_12 : pm_M, M_12 = sI M th 1 ((mI M th 1) + (1 : Int32)) → (((lg_cmp r_10 a1.toInt64) < 0 → w_X4_next_75 Post th a1 M_12) ∧ (¬ (lg_cmp r_10 a1.toInt64) < 0 → (((lg_cmp r_10 a2.toInt64) ≤ 0 → Post r_10.toInt32 M_12) ∧ (¬ (lg_cmp r_10 a2.toInt64) ≤ 0 → w_X4_next_75 Post th a1 M_12))))))))) ∧ (r_6 = 0 → w_X4_next_31 Post th a1 M))))))))) ∧ (¬ (mI M th 2) = 0 → Post a1 M))
set_option maxHeartbeats 4000000 in
set_option maxRecDepth 100000 in
theorem c_X4_next_75 {p : Program} {l : Launch} {e : Env} {s : State} {m : MethodId} {args : Array Value} {below : List Frame} {meth : Method} {c : Code} {G : pm_G} {H0 : Heap} {M0 : pm_M} {Post : Int32 → pm_M → Prop} {v0 : Nat} {v1 : Int32} {M : pm_M} (E : pm_E G p s m args meth c cX4_next 5 RX4) (hret : meth.sig.returnType = (some .int)) {H : Heap} {locs : List Loc} {ls : Array Slot} (hX : pm_X M0 M) (hI : pm_I G H0 M H locs) (t_v0 : pm_is M v0 3) (hl : lv_has ls 5 [(0, .ref (H0.size + v0)), (1, .int v1)]) (hw : w_X4_next_75 Post v0 v1 M) : W p l e rm_X4_next s m args below meth c H locs 0 0 (pm_Z G H0 M0 (pm_Pi Post) below args s rm_X4_next.cells rm_X4_next.slots) (F0 m 75 ls []) := by
  have hx := E.1
  have hb := E.2.1
  have hown := E.2.2.2.1
  have hts := E.2.2.2.2.1
  unfold w_X4_next_75 at hw
  refine lv_aload_n hx hb dX4_next_75 rfl (lv_at hl 0 rfl) ?_
  refine lv_bipush (v := (-4 : Int32)) hx hb dX4_next_76 (by decide) ?_
  refine pf_X4_19 E hI t_v0 dX4_next_78 (fun H locs M_1 e_M_1 hX1 hI => ?_)
  replace hw := hw M_1 e_M_1
  replace t_v0 := t_v0.x hX1
  replace hX := hX.tr hX1
  refine lv_iload_n hx hb dX4_next_81 rfl (lv_at hl 1 rfl) ?_
  exact pm_iret E hret hI hX ⟨_, rfl, hw⟩ (by decide) (by decide) dX4_next_82
set_option maxHeartbeats 4000000 in
set_option maxRecDepth 100000 in
theorem c_X4_next_31 {p : Program} {l : Launch} {e : Env} {s : State} {m : MethodId} {args : Array Value} {below : List Frame} {meth : Method} {c : Code} {G : pm_G} {H0 : Heap} {M0 : pm_M} {Post : Int32 → pm_M → Prop} {v0 : Nat} {v1 : Int32} {M : pm_M} (E : pm_E G p s m args meth c cX4_next 5 RX4) (hret : meth.sig.returnType = (some .int)) {H : Heap} {locs : List Loc} {ls : Array Slot} (hX : pm_X M0 M) (hI : pm_I G H0 M H locs) (t_v0 : pm_is M v0 3) (hl : lv_has ls 5 [(0, .ref (H0.size + v0)), (1, .int v1)]) (hw : w_X4_next_31 Post v0 v1 M) : W p l e rm_X4_next s m args below meth c H locs 0 0 (pm_Z G H0 M0 (pm_Pi Post) below args s rm_X4_next.cells rm_X4_next.slots) (F0 m 31 ls []) := by
  have hx := E.1
  have hb := E.2.1
  have hown := E.2.2.2.1
  have hts := E.2.2.2.2.1
  unfold w_X4_next_31 at hw
  refine lv_aload_n hx hb dX4_next_31 rfl (lv_at hl 0 rfl) ?_
  refine lv_bipush (v := (-6 : Int32)) hx hb dX4_next_32 (by decide) ?_
  refine pf_X4_19 E hI t_v0 dX4_next_34 (fun H locs M_1 e_M_1 hX1 hI => ?_)
  replace hw := hw M_1 e_M_1
  replace t_v0 := t_v0.x hX1
  replace hX := hX.tr hX1
  refine lv_iload_n hx hb dX4_next_37 rfl (lv_at hl 1 rfl) ?_
  exact pm_iret E hret hI hX ⟨_, rfl, hw⟩ (by decide) (by decide) dX4_next_38
set_option maxHeartbeats 4000000 in
set_option maxRecDepth 100000 in
theorem k_X4_next {l : Launch} {G : pm_G} {H0 : Heap} {th : Nat} {a1 : Int32} {a2 : Int32} {M : pm_M} {Post : Int32 → pm_M → Prop} (t_th : pm_is M th 3) (hw : w_X4_next th a1 a2 M Post) : pm_C l G H0 yX4_next cX4_next 5 (some .int) rm_X4_next [.ref (H0.size + th), .int a1, .int a2] M (pm_Pi Post) := by
  refine pm_start (by decide +kernel) (Nat.le_of_ble_eq_true rfl) ?_
  intro p e s m args below meth c H ls E hret hnm hI hl
  have hX : pm_X M M := pm_X.rf
  have hl : lv_has ls 5 [(0, .ref (H0.size + th)), (1, .int a1), (2, .int a2)] := hl
  have hx := E.1
  have hb := E.2.1
  have hown := E.2.2.2.1
  have hts := E.2.2.2.2.1
  unfold w_X4_next at hw
  refine lv_aload_n hx hb dX4_next_0 rfl (lv_at hl 0 rfl) ?_
  refine gf_X4_19 E hI t_th dX4_next_1 ?_
  refine lv_if_eq (tgt := 9) hx hb dX4_next_4 (by decide) (fun h_1 => ?_) (fun h_1 => ?_)
  · replace hw := hw.1 h_1
    refine lv_aload_n hx hb dX4_next_9 rfl (lv_at hl 0 rfl) ?_
    refine go_X4_9 E hI t_th dX4_next_10 (fun o_2 e_o_2 o_o_2 => ?_)
    replace hw := hw o_2 e_o_2
    refine pm_ifnull (tgt := 31) hx hb dX4_next_13 (by decide) (fun hq => ?_) (fun q_3 hq => ?_)
    · replace hw := hw.1 hq
      subst hq
      exact c_X4_next_31 E hret hX hI t_th (lv_sub hl [0, 1] rfl) hw
    · replace hw := hw.2 q_3 hq
      subst hq
      have t_q_3 := o_o_2 q_3 rfl
      refine lv_aload_n hx hb dX4_next_16 rfl (lv_at hl 0 rfl) ?_
      refine go_X4_9 E hI t_th dX4_next_17 (fun o_4 e_o_4 o_o_4 => ?_)
      replace hw := hw o_4 e_o_4
      refine lv_aload_n hx hb dX4_next_20 rfl (lv_at hl 0 rfl) ?_
      refine gf_X4_15 E hI t_th dX4_next_21 ?_
      refine lv_iconst (v := (1 : Int32)) hx hb dX4_next_24 (by decide) ?_
      obtain ⟨q_5, hq, hw⟩ := hw
      subst hq
      have t_q_5 := o_o_4 q_5 rfl
      refine W.eq (g2 := F0 m 25 ls [.int (1 : Int32), .int (mI M th 1), .ref (H0.size + q_5)]) rfl ?_
      refine pm_callV (As := [.int (mI M th 1), .int (1 : Int32)]) (rest := []) 2 E hI (k_X6_hasStretch t_q_5 hw) t_q_5 (by decide) rfl kc_X6_hasStretch kl_X4_22 km_X6_hasStretch ks_X6_hasStretch ki_X6 (by decide +kernel) ⟨by decide, by decide⟩ rfl hl.1 rfl (by first | exact Nat.le_of_ble_eq_true rfl | simp [pm_rf_cat, Value.category]) dX4_next_25 ⟨by decide, by decide⟩ (fun r9 M9 H locs hp hX1 hI => ?_)
      obtain ⟨r_6, rfl, rfl, hw⟩ := hp
      refine pm_nrm (cells' := 0) (slots' := 0) (g2 := F0 m 28 ls [.int r_6]) rfl rfl rfl ?_
      refine lv_if_ne (tgt := 39) hx hb dX4_next_28 (by decide) (fun h_7 => ?_) (fun h_7 => ?_)
      · replace hw := hw.1 h_7
        refine lv_aload_n hx hb dX4_next_39 rfl (lv_at hl 0 rfl) ?_
        refine go_X4_9 E hI t_th dX4_next_40 (fun o_8 e_o_8 o_o_8 => ?_)
        replace hw := hw o_8 e_o_8
        refine lv_aload_n hx hb dX4_next_43 rfl (lv_at hl 0 rfl) ?_
        refine gf_X4_15 E hI t_th dX4_next_44 ?_
        obtain ⟨q_9, hq, hw⟩ := hw
        subst hq
        have t_q_9 := o_o_8 q_9 rfl
        refine W.eq (g2 := F0 m 47 ls [.int (mI M th 1), .ref (H0.size + q_9)]) rfl ?_
        refine pm_callV (As := [.int (mI M th 1)]) (rest := []) 1 E hI (k_X6_number t_q_9 hw) t_q_9 (by decide) rfl kc_X6_number kl_X4_28 km_X6_number ks_X6_number ki_X6 (by decide +kernel) ⟨by decide, by decide⟩ rfl hl.1 rfl (by first | exact Nat.le_of_ble_eq_true rfl | simp [pm_rf_cat, Value.category]) dX4_next_47 ⟨by decide, by decide⟩ (fun r9 M9 H locs hp hX1 hI => ?_)
        obtain ⟨r_10, rfl, rfl, hw⟩ := hp
        refine pm_nrm (cells' := 0) (slots' := 0) (g2 := F0 m 50 ls [.long r_10]) rfl rfl rfl ?_
        refine lv_lstore_n (lv' := [(3, .long r_10), (0, .ref (H0.size + th)), (1, .int a1), (2, .int a2)]) hx hb dX4_next_50 rfl hl (by decide) rfl (fun ls hl_11 => ?_)
        refine lv_aload_n hx hb dX4_next_51 rfl (lv_at hl_11 1 rfl) ?_
        refine lv_dup hx hb dX4_next_52 rfl ?_
        refine gf_X4_15 E hI t_th dX4_next_53 ?_
        refine lv_iconst (v := (1 : Int32)) hx hb dX4_next_56 (by decide) ?_
        refine lv_iadd hx hb dX4_next_57 ?_
        refine pf_X4_15 E hI t_th dX4_next_58 (fun H locs M_12 e_M_12 hX1 hI => ?_)
        replace hw := hw M_12 e_M_12
        replace t_th := t_th.x hX1
        replace hX := hX.tr hX1
        refine lv_lload_n hx hb dX4_next_61 rfl (lv_at hl_11 0 rfl) ?_
        refine lv_iload_n hx hb dX4_next_62 rfl (lv_at hl_11 2 rfl) ?_
        refine lv_i2l hx hb dX4_next_63 rfl ?_
        refine W.lcmp hx hb dX4_next_64 ?_
        refine lv_if_lt (tgt := 75) hx hb dX4_next_65 (by decide) (fun h_13 => ?_) (fun h_13 => ?_)
        · replace hw := hw.1 h_13
          exact c_X4_next_75 E hret hX hI t_th (lv_sub hl_11 [1, 2] rfl) hw
        · replace hw := hw.2 h_13
          refine lv_lload_n hx hb dX4_next_68 rfl (lv_at hl_11 0 rfl) ?_
          refine lv_iload_n hx hb dX4_next_69 rfl (lv_at hl_11 3 rfl) ?_
          refine lv_i2l hx hb dX4_next_70 rfl ?_
          refine W.lcmp hx hb dX4_next_71 ?_
          refine lv_if_le (tgt := 83) hx hb dX4_next_72 (by decide) (fun h_14 => ?_) (fun h_14 => ?_)
          · replace hw := hw.1 h_14
            refine lv_lload_n hx hb dX4_next_83 rfl (lv_at hl_11 0 rfl) ?_
            refine lv_l2i hx hb dX4_next_84 rfl ?_
            exact pm_iret E hret hI hX ⟨_, rfl, hw⟩ (by decide) (by decide) dX4_next_85
          · replace hw := hw.2 h_14
            exact c_X4_next_75 E hret hX hI t_th (lv_sub hl_11 [1, 2] rfl) hw
      · replace hw := hw.2 h_7
        exact c_X4_next_31 E hret hX hI t_th (lv_sub hl [0, 1] rfl) hw
  · replace hw := hw.2 h_1
    refine lv_iload_n hx hb dX4_next_7 rfl (lv_at hl 1 rfl) ?_
    exact pm_iret E hret hI hX ⟨_, rfl, hw⟩ (by decide) (by decide) dX4_next_8
abbrev rm_X0_readEven : Room := { frames := 2, cells := 0, slots := 0, locals := 46 }
def w_X0_readEven (th : Nat) (a1 : Nat) (a2 : Int32) (M : pm_M) (Post : pm_M → Prop) : Prop := (∀ M_1 : pm_M, M_1 = sI M th 2 (1 : Int32) → (∃ q_2 : Nat, mR M_1 th 0 = some q_2 ∧ (vp_in (0 : Int32) (mN M_1 q_2) ∧ ∀ M_4 : pm_M, M_4 = sI M_1 q_2 (0 : Int32).toNatClampNeg a2 → (∃ q_5 : Nat, mR M_4 th 1 = some q_5 ∧ w_X4_next a1 (0 : Int32) (12 : Int32) M_4 (fun r_7 M_6 => (vp_in (0 : Int32) (mN M_6 q_5) ∧ ∀ M_9 : pm_M, M_9 = sI M_6 q_5 (0 : Int32).toNatClampNeg r_7 → Post M_9))))))
set_option maxHeartbeats 4000000 in
set_option maxRecDepth 100000 in
theorem k_X0_readEven {l : Launch} {G : pm_G} {H0 : Heap} {th : Nat} {a1 : Nat} {a2 : Int32} {M : pm_M} {Post : pm_M → Prop} (t_th : pm_is M th 0) (t_a1 : pm_is M a1 3) (hw : w_X0_readEven th a1 a2 M Post) : pm_C l G H0 yX0_readEven cX0_readEven 3 none rm_X0_readEven [.ref (H0.size + th), .ref (H0.size + a1), .int a2] M (pm_Pv Post) := by
  refine pm_start (by decide +kernel) (Nat.le_of_ble_eq_true rfl) ?_
  intro p e s m args below meth c H ls E hret hnm hI hl
  have hX : pm_X M M := pm_X.rf
  have hl : lv_has ls 3 [(0, .ref (H0.size + th)), (1, .ref (H0.size + a1)), (2, .int a2)] := hl
  have hx := E.1
  have hb := E.2.1
  have hown := E.2.2.2.1
  have hts := E.2.2.2.2.1
  unfold w_X0_readEven at hw
  refine lv_aload_n hx hb dX0_readEven_0 rfl (lv_at hl 0 rfl) ?_
  refine lv_iconst (v := (1 : Int32)) hx hb dX0_readEven_1 (by decide) ?_
  refine pf_X0_18 E hI t_th dX0_readEven_2 (fun H locs M_1 e_M_1 hX1 hI => ?_)
  replace hw := hw M_1 e_M_1
  replace t_th := t_th.x hX1
  replace t_a1 := t_a1.x hX1
  replace hX := hX.tr hX1
  refine lv_aload_n hx hb dX0_readEven_5 rfl (lv_at hl 0 rfl) ?_
  obtain ⟨q_2, e_q_2, hw⟩ := hw
  refine gf_X0_9 E hI t_th dX0_readEven_6 e_q_2 (fun t_q_2 => ?_)
  refine lv_iconst (v := (0 : Int32)) hx hb dX0_readEven_9 (by decide) ?_
  refine lv_iload_n hx hb dX0_readEven_10 rfl (lv_at hl 2 rfl) ?_
  obtain ⟨h_3, hw⟩ := hw
  refine ps_iast E hI t_q_2 h_3 dX0_readEven_11 (fun H locs M_4 e_M_4 hX1 hI => ?_)
  replace hw := hw M_4 e_M_4
  replace t_th := t_th.x hX1
  replace t_a1 := t_a1.x hX1
  replace hX := hX.tr hX1
  refine lv_aload_n hx hb dX0_readEven_12 rfl (lv_at hl 0 rfl) ?_
  obtain ⟨q_5, e_q_5, hw⟩ := hw
  refine gf_X0_15 E hI t_th dX0_readEven_13 e_q_5 (fun t_q_5 => ?_)
  refine lv_iconst (v := (0 : Int32)) hx hb dX0_readEven_16 (by decide) ?_
  refine lv_aload_n hx hb dX0_readEven_17 rfl (lv_at hl 1 rfl) ?_
  refine lv_iconst (v := (0 : Int32)) hx hb dX0_readEven_18 (by decide) ?_
  refine lv_bipush (v := (12 : Int32)) hx hb dX0_readEven_19 (by decide) ?_
  refine pm_callV (As := [.int (0 : Int32), .int (12 : Int32)]) (rest := [.int (0 : Int32), .ref (H0.size + q_5)]) 2 E hI (k_X4_next t_a1 hw) t_a1 (by decide) rfl kc_X4_next kl_X0_22 km_X4_next ks_X4_next ki_X4 (by decide +kernel) ⟨by decide, by decide⟩ rfl hl.1 rfl (by first | exact Nat.le_of_ble_eq_true rfl | simp [pm_rf_cat, Value.category]) dX0_readEven_21 ⟨by decide, by decide⟩ (fun r9 M_6 H locs hp hX1 hI => ?_)
  obtain ⟨r_7, rfl, hw⟩ := hp
  replace t_th := t_th.x hX1
  replace t_a1 := t_a1.x hX1
  replace t_q_5 := t_q_5.x hX1
  replace hX := hX.tr hX1
  refine pm_nrm (cells' := 0) (slots' := 0) (g2 := F0 m 24 ls [.int r_7, .int (0 : Int32), .ref (H0.size + q_5)]) rfl rfl rfl ?_
  obtain ⟨h_8, hw⟩ := hw
  refine ps_iast E hI t_q_5 h_8 dX0_readEven_24 (fun H locs M_9 e_M_9 hX1 hI => ?_)
  replace hw := hw M_9 e_M_9
  replace t_th := t_th.x hX1
  replace t_a1 := t_a1.x hX1
  replace hX := hX.tr hX1
  exact pm_vret E hret hI hX ⟨rfl, hw⟩ (by decide) (by decide) dX0_readEven_25
abbrev rm_J9_max_7cf53 : Room := { frames := 0, cells := 0, slots := 0, locals := 0 }
def w_J9_max_7cf53_10 (Post : Int32 → Prop) (s0 : Int32) (M : pm_M) : Prop := Post s0
def w_J9_max_7cf53 (a0 : Int32) (a1 : Int32) (M : pm_M) (Post : Int32 → Prop) : Prop := ((a0 < a1 → w_J9_max_7cf53_10 Post a1 M) ∧ (¬ a0 < a1 → w_J9_max_7cf53_10 Post a0 M))
set_option maxHeartbeats 4000000 in
set_option maxRecDepth 100000 in
theorem c_J9_max_7cf53_10 {p : Program} {l : Launch} {e : Env} {s : State} {m : MethodId} {args : Array Value} {below : List Frame} {meth : Method} {c : Code} {G : pm_G} {H0 : Heap} {Post : Int32 → Prop} {s0 : Int32} {M : pm_M} (E : pm_E G p s m args meth c cJ9_max_7cf53 2 RJ9) (hret : meth.sig.returnType = (some .int)) {H : Heap} {locs : List Loc} {ls : Array Slot} (hI : pm_I G H0 M H locs) (hl : lv_has ls 2 []) (hw : w_J9_max_7cf53_10 Post s0 M) : W p l e rm_J9_max_7cf53 s m args below meth c H locs 0 0 (pm_Z G H0 M (pm_Pi (fun r9 M9 => M = M9 ∧ Post r9)) below args s rm_J9_max_7cf53.cells rm_J9_max_7cf53.slots) (F0 m 10 ls [.int s0]) := by
  have hx := E.1
  have hb := E.2.1
  have hown := E.2.2.2.1
  have hts := E.2.2.2.2.1
  unfold w_J9_max_7cf53_10 at hw
  exact pm_iret E hret hI pm_X.rf ⟨_, rfl, rfl, hw⟩ (by decide) (by decide) dJ9_max_7cf53_10
set_option maxHeartbeats 4000000 in
set_option maxRecDepth 100000 in
theorem k_J9_max_7cf53 {l : Launch} {G : pm_G} {H0 : Heap} {a0 : Int32} {a1 : Int32} {M : pm_M} {Post : Int32 → Prop} (hw : w_J9_max_7cf53 a0 a1 M Post) : pm_C l G H0 yJ9_max_7cf53 cJ9_max_7cf53 2 (some .int) rm_J9_max_7cf53 [.int a0, .int a1] M (pm_Pi (fun r9 M9 => M = M9 ∧ Post r9)) := by
  refine pm_startF (by decide +kernel) (Nat.le_of_ble_eq_true rfl) ?_
  intro p e s m args below meth c H ls E hret hnm hI hl
  have hl : lv_has ls 2 [(0, .int a0), (1, .int a1)] := hl
  have hx := E.1
  have hb := E.2.1
  have hown := E.2.2.2.1
  have hts := E.2.2.2.2.1
  unfold w_J9_max_7cf53 at hw
  refine lv_iload_n hx hb dJ9_max_7cf53_0 rfl (lv_at hl 0 rfl) ?_
  refine lv_iload_n hx hb dJ9_max_7cf53_1 rfl (lv_at hl 1 rfl) ?_
  refine lv_icmp_lt (tgt := 9) hx hb dJ9_max_7cf53_2 (by decide) (fun h_1 => ?_) (fun h_1 => ?_)
  · replace hw := hw.1 h_1
    refine lv_iload_n hx hb dJ9_max_7cf53_9 rfl (lv_at hl 1 rfl) ?_
    exact c_J9_max_7cf53_10 E hret hI (lv_sub hl [] rfl) hw
  · replace hw := hw.2 h_1
    refine lv_iload_n hx hb dJ9_max_7cf53_5 rfl (lv_at hl 0 rfl) ?_
    refine lv_goto (tgt := 10) hx hb dJ9_max_7cf53_6 (by decide) ?_
    exact c_J9_max_7cf53_10 E hret hI (lv_sub hl [] rfl) hw
abbrev rm_X0_readParts : Room := { frames := 2, cells := 0, slots := 0, locals := 46 }
def w_X0_readParts_81 (Post : pm_M → Prop) (v0 : Nat) (v1 : Nat) : Nat → Int32 → pm_M → Prop
  | 0, _, _ => False
  | n + 1, v3, M => (((mI M v0 2) ≤ v3 → Post M) ∧ (¬ (mI M v0 2) ≤ v3 → (∃ q_2 : Nat, mR M v0 1 = some q_2 ∧ w_X4_next v1 (0 : Int32) (12 : Int32) M (fun r_4 M_3 => (vp_in v3 (mN M_3 q_2) ∧ ∀ M_6 : pm_M, M_6 = sI M_3 q_2 v3.toNatClampNeg r_4 → (∀ x_7 : Int32, x_7 = v3 + (1 : Int32) → (w_X0_readParts_81 Post v0 v1 n) x_7 M_6))))))
def w_X0_readParts_31 (Post : pm_M → Prop) (v0 : Nat) (v1 : Nat) (v2 : Int32) : Nat → Int32 → pm_M → Prop
  | 0, _, _ => False
  | n + 1, v3, M => ((v2 ≤ v3 → (∃ n_3 : Nat, w_X0_readParts_81 Post v0 v1 n_3 (0 : Int32) M)) ∧ (¬ v2 ≤ v3 → w_X4_next v1 (0 : Int32) (11 : Int32) M (fun r_5 M_4 => (∃ q_7 : Nat, mR M_4 v0 0 = some q_7 ∧ (vp_in r_5 (mN M_4 q_7) ∧ (vp_in r_5 (mN M_4 q_7) ∧ ∀ M_10 : pm_M, M_10 = sI M_4 q_7 r_5.toNatClampNeg ((mI M_4 q_7 r_5.toNatClampNeg) ||| ((1 : Int32) <<< (v3 &&& 31))) → w_J9_max_7cf53 (mI M_10 v0 2) (r_5 + (1 : Int32)) M_10 (fun r_11 => (∀ M_12 : pm_M, M_12 = sI M_10 v0 2 r_11 → (∀ x_13 : Int32, x_13 = v3 + (1 : Int32) → (w_X0_readParts_31 Post v0 v1 v2 n) x_13 M_12)))))))))
def w_X0_readParts_2 (Post : pm_M → Prop) (v0 : Nat) (v1 : Nat) (v2 : Int32) : Nat → Int32 → pm_M → Prop
  | 0, _, _ => False
  | n + 1, v3, M => (∃ q_1 : Nat, mR M v0 0 = some q_1 ∧ (((nI (mN M q_1)) ≤ v3 → (∀ M_3 : pm_M, M_3 = sI M v0 2 (0 : Int32) → (∃ n_5 : Nat, w_X0_readParts_31 Post v0 v1 v2 n_5 (0 : Int32) M_3))) ∧ (¬ (nI (mN M q_1)) ≤ v3 → (vp_in v3 (mN M q_1) ∧ ∀ M_7 : pm_M, M_7 = sI M q_1 v3.toNatClampNeg (0 : Int32) → (∀ x_8 : Int32, x_8 = v3 + (1 : Int32) → (w_X0_readParts_2 Post v0 v1 v2 n) x_8 M_7)))))
def w_X0_readParts (th : Nat) (a1 : Nat) (a2 : Int32) (M : pm_M) (Post : pm_M → Prop) : Prop := (∃ n_2 : Nat, w_X0_readParts_2 Post th a1 a2 n_2 (0 : Int32) M)
set_option maxHeartbeats 4000000 in
set_option maxRecDepth 100000 in
theorem c_X0_readParts_81 {p : Program} {l : Launch} {e : Env} {s : State} {m : MethodId} {args : Array Value} {below : List Frame} {meth : Method} {c : Code} {G : pm_G} {H0 : Heap} {M0 : pm_M} {Post : pm_M → Prop} {v0 : Nat} {v1 : Nat} (E : pm_E G p s m args meth c cX0_readParts 5 RX0) (hret : meth.sig.returnType = none) : ∀ (n : Nat) (v3 : Int32) (M : pm_M) (H : Heap) (locs : List Loc) (ls : Array Slot), pm_X M0 M → pm_I G H0 M H locs → (pm_is M v0 0) → (pm_is M v1 3) → lv_has ls 5 [(0, .ref (H0.size + v0)), (1, .ref (H0.size + v1)), (3, .int v3)] → w_X0_readParts_81 Post v0 v1 n v3 M → W p l e rm_X0_readParts s m args below meth c H locs 0 0 (pm_Z G H0 M0 (pm_Pv Post) below args s rm_X0_readParts.cells rm_X0_readParts.slots) (F0 m 81 ls []) := by
  have hx := E.1
  have hb := E.2.1
  have hown := E.2.2.2.1
  have hts := E.2.2.2.2.1
  intro n
  induction n with
  | zero =>
    intro v3 M H locs ls hX hI t_v0 t_v1 hl hw
    unfold w_X0_readParts_81 at hw
    exact hw.elim
  | succ n ih =>
    intro v3 M H locs ls hX hI t_v0 t_v1 hl hw
    unfold w_X0_readParts_81 at hw
    refine lv_iload_n hx hb dX0_readParts_81 rfl (lv_at hl 2 rfl) ?_
    refine lv_aload_n hx hb dX0_readParts_82 rfl (lv_at hl 0 rfl) ?_
    refine gf_X0_18 E hI t_v0 dX0_readParts_83 ?_
    refine lv_icmp_ge (tgt := 108) hx hb dX0_readParts_86 (by decide) (fun h_1 => ?_) (fun h_1 => ?_)
    · replace hw := hw.1 h_1
      exact pm_vret E hret hI hX ⟨rfl, hw⟩ (by decide) (by decide) dX0_readParts_108
    · replace hw := hw.2 h_1
      refine lv_aload_n hx hb dX0_readParts_89 rfl (lv_at hl 0 rfl) ?_
      obtain ⟨q_2, e_q_2, hw⟩ := hw
      refine gf_X0_15 E hI t_v0 dX0_readParts_90 e_q_2 (fun t_q_2 => ?_)
      refine lv_iload_n hx hb dX0_readParts_93 rfl (lv_at hl 2 rfl) ?_
      refine lv_aload_n hx hb dX0_readParts_94 rfl (lv_at hl 1 rfl) ?_
      refine lv_iconst (v := (0 : Int32)) hx hb dX0_readParts_95 (by decide) ?_
      refine lv_bipush (v := (12 : Int32)) hx hb dX0_readParts_96 (by decide) ?_
      refine pm_callV (As := [.int (0 : Int32), .int (12 : Int32)]) (rest := [.int v3, .ref (H0.size + q_2)]) 2 E hI (k_X4_next t_v1 hw) t_v1 (by decide) rfl kc_X4_next kl_X0_22 km_X4_next ks_X4_next ki_X4 (by decide +kernel) ⟨by decide, by decide⟩ rfl hl.1 rfl (by first | exact Nat.le_of_ble_eq_true rfl | simp [pm_rf_cat, Value.category]) dX0_readParts_98 ⟨by decide, by decide⟩ (fun r9 M_3 H locs hp hX1 hI => ?_)
      obtain ⟨r_4, rfl, hw⟩ := hp
      replace t_v0 := t_v0.x hX1
      replace t_v1 := t_v1.x hX1
      replace t_q_2 := t_q_2.x hX1
      replace hX := hX.tr hX1
      refine pm_nrm (cells' := 0) (slots' := 0) (g2 := F0 m 101 ls [.int r_4, .int v3, .ref (H0.size + q_2)]) rfl rfl rfl ?_
      obtain ⟨h_5, hw⟩ := hw
      refine ps_iast E hI t_q_2 h_5 dX0_readParts_101 (fun H locs M_6 e_M_6 hX1 hI => ?_)
      replace hw := hw M_6 e_M_6
      replace t_v0 := t_v0.x hX1
      replace t_v1 := t_v1.x hX1
      replace hX := hX.tr hX1
      obtain ⟨x_7, e_x_7⟩ : ∃ z : Int32, z = v3 + (1 : Int32) := ⟨_, rfl⟩
      refine lv_iinc (v := x_7) (lv' := [(3, .int x_7), (0, .ref (H0.size + v0)), (1, .ref (H0.size + v1))]) hx hb dX0_readParts_102 hl (k := 2) rfl (by rw [e_x_7]; rfl) (by decide) rfl (fun ls hl_8 => ?_)
      replace hw := hw x_7 e_x_7
      refine lv_goto (tgt := 81) hx hb dX0_readParts_105 (by decide) ?_
      exact ih _ _ _ _ _ hX hI t_v0 t_v1 (lv_sub hl_8 [1, 2, 0] rfl) hw
set_option maxHeartbeats 4000000 in
set_option maxRecDepth 100000 in
theorem c_X0_readParts_31 {p : Program} {l : Launch} {e : Env} {s : State} {m : MethodId} {args : Array Value} {below : List Frame} {meth : Method} {c : Code} {G : pm_G} {H0 : Heap} {M0 : pm_M} {Post : pm_M → Prop} {v0 : Nat} {v1 : Nat} {v2 : Int32} (E : pm_E G p s m args meth c cX0_readParts 5 RX0) (hret : meth.sig.returnType = none) : ∀ (n : Nat) (v3 : Int32) (M : pm_M) (H : Heap) (locs : List Loc) (ls : Array Slot), pm_X M0 M → pm_I G H0 M H locs → (pm_is M v0 0) → (pm_is M v1 3) → lv_has ls 5 [(0, .ref (H0.size + v0)), (1, .ref (H0.size + v1)), (2, .int v2), (3, .int v3)] → w_X0_readParts_31 Post v0 v1 v2 n v3 M → W p l e rm_X0_readParts s m args below meth c H locs 0 0 (pm_Z G H0 M0 (pm_Pv Post) below args s rm_X0_readParts.cells rm_X0_readParts.slots) (F0 m 31 ls []) := by
  have hx := E.1
  have hb := E.2.1
  have hown := E.2.2.2.1
  have hts := E.2.2.2.2.1
  intro n
  induction n with
  | zero =>
    intro v3 M H locs ls hX hI t_v0 t_v1 hl hw
    unfold w_X0_readParts_31 at hw
    exact hw.elim
  | succ n ih =>
    intro v3 M H locs ls hX hI t_v0 t_v1 hl hw
    unfold w_X0_readParts_31 at hw
    refine lv_iload_n hx hb dX0_readParts_31 rfl (lv_at hl 3 rfl) ?_
    refine lv_iload_n hx hb dX0_readParts_32 rfl (lv_at hl 2 rfl) ?_
    refine lv_icmp_ge (tgt := 79) hx hb dX0_readParts_33 (by decide) (fun h_1 => ?_) (fun h_1 => ?_)
    · replace hw := hw.1 h_1
      refine lv_iconst (v := (0 : Int32)) hx hb dX0_readParts_79 (by decide) ?_
      refine lv_istore_n (lv' := [(3, .int (0 : Int32)), (0, .ref (H0.size + v0)), (1, .ref (H0.size + v1)), (2, .int v2)]) hx hb dX0_readParts_80 rfl hl (by decide) rfl (fun ls hl_2 => ?_)
      obtain ⟨n_3, hw⟩ := hw
      exact c_X0_readParts_81 E hret n_3 _ _ _ _ _ hX hI t_v0 t_v1 (lv_sub hl_2 [1, 2, 0] rfl) hw
    · replace hw := hw.2 h_1
      refine lv_aload_n hx hb dX0_readParts_36 rfl (lv_at hl 1 rfl) ?_
      refine lv_iconst (v := (0 : Int32)) hx hb dX0_readParts_37 (by decide) ?_
      refine lv_bipush (v := (11 : Int32)) hx hb dX0_readParts_38 (by decide) ?_
      refine pm_callV (As := [.int (0 : Int32), .int (11 : Int32)]) (rest := []) 2 E hI (k_X4_next t_v1 hw) t_v1 (by decide) rfl kc_X4_next kl_X0_22 km_X4_next ks_X4_next ki_X4 (by decide +kernel) ⟨by decide, by decide⟩ rfl hl.1 rfl (by first | exact Nat.le_of_ble_eq_true rfl | simp [pm_rf_cat, Value.category]) dX0_readParts_40 ⟨by decide, by decide⟩ (fun r9 M_4 H locs hp hX1 hI => ?_)
      obtain ⟨r_5, rfl, hw⟩ := hp
      replace t_v0 := t_v0.x hX1
      replace t_v1 := t_v1.x hX1
      replace hX := hX.tr hX1
      refine pm_nrm (cells' := 0) (slots' := 0) (g2 := F0 m 43 ls [.int r_5]) rfl rfl rfl ?_
      refine lv_istore (lv' := [(4, .int r_5), (0, .ref (H0.size + v0)), (1, .ref (H0.size + v1)), (2, .int v2), (3, .int v3)]) hx hb dX0_readParts_43 hl (by decide) rfl (fun ls hl_6 => ?_)
      refine lv_aload_n hx hb dX0_readParts_45 rfl (lv_at hl_6 1 rfl) ?_
      obtain ⟨q_7, e_q_7, hw⟩ := hw
      refine gf_X0_9 E hI t_v0 dX0_readParts_46 e_q_7 (fun t_q_7 => ?_)
      refine lv_iload hx hb dX0_readParts_49 (lv_at hl_6 0 rfl) ?_
      refine lv_dup2_11 hx hb dX0_readParts_51 rfl rfl ?_
      obtain ⟨h_8, hw⟩ := hw
      refine pm_iald E hI t_q_7 h_8 dX0_readParts_52 ?_
      refine lv_iconst (v := (1 : Int32)) hx hb dX0_readParts_53 (by decide) ?_
      refine lv_iload_n hx hb dX0_readParts_54 rfl (lv_at hl_6 4 rfl) ?_
      refine lv_ishl hx hb dX0_readParts_55 ?_
      refine lv_ior hx hb dX0_readParts_56 ?_
      obtain ⟨h_9, hw⟩ := hw
      refine ps_iast E hI t_q_7 h_9 dX0_readParts_57 (fun H locs M_10 e_M_10 hX1 hI => ?_)
      replace hw := hw M_10 e_M_10
      replace t_v0 := t_v0.x hX1
      replace t_v1 := t_v1.x hX1
      replace hX := hX.tr hX1
      refine lv_aload_n hx hb dX0_readParts_58 rfl (lv_at hl_6 1 rfl) ?_
      refine lv_aload_n hx hb dX0_readParts_59 rfl (lv_at hl_6 1 rfl) ?_
      refine gf_X0_18 E hI t_v0 dX0_readParts_60 ?_
      refine lv_iload hx hb dX0_readParts_63 (lv_at hl_6 0 rfl) ?_
      refine lv_iconst (v := (1 : Int32)) hx hb dX0_readParts_65 (by decide) ?_
      refine lv_iadd hx hb dX0_readParts_66 ?_
      refine pm_callS (As := [.int (mI M_10 v0 2), .int (r_5 + (1 : Int32))]) (rest := [.ref (H0.size + v0)]) 2 E hI (k_J9_max_7cf53 hw) kc_J9_max_7cf53 kl_X0_28 kt_J9_max_7cf53 ki_J9 (by decide +kernel) ⟨by decide, by decide⟩ rfl hl_6.1 rfl (by first | exact Nat.le_of_ble_eq_true rfl | simp [pm_rf_cat, Value.category]) dX0_readParts_67 ⟨by decide, by decide⟩ (fun r9 M9 H locs hp hX1 hI => ?_)
      obtain ⟨r_11, rfl, rfl, hw⟩ := hp
      refine pm_nrm (cells' := 0) (slots' := 0) (g2 := F0 m 70 ls [.int r_11, .ref (H0.size + v0)]) rfl rfl rfl ?_
      refine pf_X0_18 E hI t_v0 dX0_readParts_70 (fun H locs M_12 e_M_12 hX1 hI => ?_)
      replace hw := hw M_12 e_M_12
      replace t_v0 := t_v0.x hX1
      replace t_v1 := t_v1.x hX1
      replace hX := hX.tr hX1
      obtain ⟨x_13, e_x_13⟩ : ∃ z : Int32, z = v3 + (1 : Int32) := ⟨_, rfl⟩
      refine lv_iinc (v := x_13) (lv' := [(3, .int x_13), (4, .int r_5), (0, .ref (H0.size + v0)), (1, .ref (H0.size + v1)), (2, .int v2)]) hx hb dX0_readParts_73 hl_6 (k := 4) rfl (by rw [e_x_13]; rfl) (by decide) rfl (fun ls hl_14 => ?_)
      replace hw := hw x_13 e_x_13
      refine lv_goto (tgt := 31) hx hb dX0_readParts_76 (by decide) ?_
      exact ih _ _ _ _ _ hX hI t_v0 t_v1 (lv_sub hl_14 [2, 3, 4, 0] rfl) hw
set_option maxHeartbeats 4000000 in
set_option maxRecDepth 100000 in
theorem c_X0_readParts_2 {p : Program} {l : Launch} {e : Env} {s : State} {m : MethodId} {args : Array Value} {below : List Frame} {meth : Method} {c : Code} {G : pm_G} {H0 : Heap} {M0 : pm_M} {Post : pm_M → Prop} {v0 : Nat} {v1 : Nat} {v2 : Int32} (E : pm_E G p s m args meth c cX0_readParts 5 RX0) (hret : meth.sig.returnType = none) : ∀ (n : Nat) (v3 : Int32) (M : pm_M) (H : Heap) (locs : List Loc) (ls : Array Slot), pm_X M0 M → pm_I G H0 M H locs → (pm_is M v0 0) → (pm_is M v1 3) → lv_has ls 5 [(0, .ref (H0.size + v0)), (1, .ref (H0.size + v1)), (2, .int v2), (3, .int v3)] → w_X0_readParts_2 Post v0 v1 v2 n v3 M → W p l e rm_X0_readParts s m args below meth c H locs 0 0 (pm_Z G H0 M0 (pm_Pv Post) below args s rm_X0_readParts.cells rm_X0_readParts.slots) (F0 m 2 ls []) := by
  have hx := E.1
  have hb := E.2.1
  have hown := E.2.2.2.1
  have hts := E.2.2.2.2.1
  intro n
  induction n with
  | zero =>
    intro v3 M H locs ls hX hI t_v0 t_v1 hl hw
    unfold w_X0_readParts_2 at hw
    exact hw.elim
  | succ n ih =>
    intro v3 M H locs ls hX hI t_v0 t_v1 hl hw
    unfold w_X0_readParts_2 at hw
    refine lv_iload_n hx hb dX0_readParts_2 rfl (lv_at hl 3 rfl) ?_
    refine lv_aload_n hx hb dX0_readParts_3 rfl (lv_at hl 0 rfl) ?_
    obtain ⟨q_1, e_q_1, hw⟩ := hw
    refine gf_X0_9 E hI t_v0 dX0_readParts_4 e_q_1 (fun t_q_1 => ?_)
    refine ps_alenI E hI t_q_1 dX0_readParts_7 ?_
    refine lv_icmp_ge (tgt := 24) hx hb dX0_readParts_8 (by decide) (fun h_2 => ?_) (fun h_2 => ?_)
    · replace hw := hw.1 h_2
      refine lv_aload_n hx hb dX0_readParts_24 rfl (lv_at hl 0 rfl) ?_
      refine lv_iconst (v := (0 : Int32)) hx hb dX0_readParts_25 (by decide) ?_
      refine pf_X0_18 E hI t_v0 dX0_readParts_26 (fun H locs M_3 e_M_3 hX1 hI => ?_)
      replace hw := hw M_3 e_M_3
      replace t_v0 := t_v0.x hX1
      replace t_v1 := t_v1.x hX1
      replace hX := hX.tr hX1
      refine lv_iconst (v := (0 : Int32)) hx hb dX0_readParts_29 (by decide) ?_
      refine lv_istore_n (lv' := [(3, .int (0 : Int32)), (0, .ref (H0.size + v0)), (1, .ref (H0.size + v1)), (2, .int v2)]) hx hb dX0_readParts_30 rfl hl (by decide) rfl (fun ls hl_4 => ?_)
      obtain ⟨n_5, hw⟩ := hw
      exact c_X0_readParts_31 E hret n_5 _ _ _ _ _ hX hI t_v0 t_v1 (lv_sub hl_4 [1, 2, 3, 0] rfl) hw
    · replace hw := hw.2 h_2
      refine lv_aload_n hx hb dX0_readParts_11 rfl (lv_at hl 0 rfl) ?_
      refine gf_X0_9 E hI t_v0 dX0_readParts_12 e_q_1 (fun _ => ?_)
      refine lv_iload_n hx hb dX0_readParts_15 rfl (lv_at hl 3 rfl) ?_
      refine lv_iconst (v := (0 : Int32)) hx hb dX0_readParts_16 (by decide) ?_
      obtain ⟨h_6, hw⟩ := hw
      refine ps_iast E hI t_q_1 h_6 dX0_readParts_17 (fun H locs M_7 e_M_7 hX1 hI => ?_)
      replace hw := hw M_7 e_M_7
      replace t_v0 := t_v0.x hX1
      replace t_v1 := t_v1.x hX1
      replace hX := hX.tr hX1
      obtain ⟨x_8, e_x_8⟩ : ∃ z : Int32, z = v3 + (1 : Int32) := ⟨_, rfl⟩
      refine lv_iinc (v := x_8) (lv' := [(3, .int x_8), (0, .ref (H0.size + v0)), (1, .ref (H0.size + v1)), (2, .int v2)]) hx hb dX0_readParts_18 hl (k := 3) rfl (by rw [e_x_8]; rfl) (by decide) rfl (fun ls hl_9 => ?_)
      replace hw := hw x_8 e_x_8
      refine lv_goto (tgt := 2) hx hb dX0_readParts_21 (by decide) ?_
      exact ih _ _ _ _ _ hX hI t_v0 t_v1 (lv_sub hl_9 [1, 2, 3, 0] rfl) hw
set_option maxHeartbeats 4000000 in
set_option maxRecDepth 100000 in
theorem k_X0_readParts {l : Launch} {G : pm_G} {H0 : Heap} {th : Nat} {a1 : Nat} {a2 : Int32} {M : pm_M} {Post : pm_M → Prop} (t_th : pm_is M th 0) (t_a1 : pm_is M a1 3) (hw : w_X0_readParts th a1 a2 M Post) : pm_C l G H0 yX0_readParts cX0_readParts 5 none rm_X0_readParts [.ref (H0.size + th), .ref (H0.size + a1), .int a2] M (pm_Pv Post) := by
  refine pm_start (by decide +kernel) (Nat.le_of_ble_eq_true rfl) ?_
  intro p e s m args below meth c H ls E hret hnm hI hl
  have hX : pm_X M M := pm_X.rf
  have hl : lv_has ls 5 [(0, .ref (H0.size + th)), (1, .ref (H0.size + a1)), (2, .int a2)] := hl
  have hx := E.1
  have hb := E.2.1
  have hown := E.2.2.2.1
  have hts := E.2.2.2.2.1
  unfold w_X0_readParts at hw
  refine lv_iconst (v := (0 : Int32)) hx hb dX0_readParts_0 (by decide) ?_
  refine lv_istore_n (lv' := [(3, .int (0 : Int32)), (0, .ref (H0.size + th)), (1, .ref (H0.size + a1)), (2, .int a2)]) hx hb dX0_readParts_1 rfl hl (by decide) rfl (fun ls hl_1 => ?_)
  obtain ⟨n_2, hw⟩ := hw
  exact c_X0_readParts_2 E hret n_2 _ _ _ _ _ hX hI t_th t_a1 (lv_sub hl_1 [1, 2, 3, 0] rfl) hw
abbrev rm_X0_readNested : Room := { frames := 2, cells := 0, slots := 0, locals := 46 }
def w_X0_readNested_13 (Post : pm_M → Prop) (v0 : Nat) (v1 : Nat) (v2 : Int32) : Nat → Int32 → pm_M → Prop
  | 0, _, _ => False
  | n + 1, v3, M => (((mI M v0 2) ≤ v3 → Post M) ∧ (¬ (mI M v0 2) ≤ v3 → (∃ q_2 : Nat, mR M v0 0 = some q_2 ∧ w_X4_next v1 (0 : Int32) v2 M (fun r_4 M_3 => (vp_in v3 (mN M_3 q_2) ∧ ∀ M_6 : pm_M, M_6 = sI M_3 q_2 v3.toNatClampNeg r_4 → (∃ q_7 : Nat, mR M_6 v0 1 = some q_7 ∧ w_X4_next v1 (0 : Int32) (12 : Int32) M_6 (fun r_9 M_8 => (vp_in v3 (mN M_8 q_7) ∧ ∀ M_11 : pm_M, M_11 = sI M_8 q_7 v3.toNatClampNeg r_9 → (∀ x_12 : Int32, x_12 = v3 + (1 : Int32) → (w_X0_readNested_13 Post v0 v1 v2 n) x_12 M_11)))))))))
def w_X0_readNested (th : Nat) (a1 : Nat) (a2 : Int32) (M : pm_M) (Post : pm_M → Prop) : Prop := w_X4_next a1 (0 : Int32) (40 : Int32) M (fun r_2 M_1 => (∀ M_3 : pm_M, M_3 = sI M_1 th 2 r_2 → (∃ n_5 : Nat, w_X0_readNested_13 Post th a1 a2 n_5 (0 : Int32) M_3)))
set_option maxHeartbeats 4000000 in
set_option maxRecDepth 100000 in
theorem c_X0_readNested_13 {p : Program} {l : Launch} {e : Env} {s : State} {m : MethodId} {args : Array Value} {below : List Frame} {meth : Method} {c : Code} {G : pm_G} {H0 : Heap} {M0 : pm_M} {Post : pm_M → Prop} {v0 : Nat} {v1 : Nat} {v2 : Int32} (E : pm_E G p s m args meth c cX0_readNested 4 RX0) (hret : meth.sig.returnType = none) : ∀ (n : Nat) (v3 : Int32) (M : pm_M) (H : Heap) (locs : List Loc) (ls : Array Slot), pm_X M0 M → pm_I G H0 M H locs → (pm_is M v0 0) → (pm_is M v1 3) → lv_has ls 4 [(0, .ref (H0.size + v0)), (1, .ref (H0.size + v1)), (2, .int v2), (3, .int v3)] → w_X0_readNested_13 Post v0 v1 v2 n v3 M → W p l e rm_X0_readNested s m args below meth c H locs 0 0 (pm_Z G H0 M0 (pm_Pv Post) below args s rm_X0_readNested.cells rm_X0_readNested.slots) (F0 m 13 ls []) := by
  have hx := E.1
  have hb := E.2.1
  have hown := E.2.2.2.1
  have hts := E.2.2.2.2.1
  intro n
  induction n with
  | zero =>
    intro v3 M H locs ls hX hI t_v0 t_v1 hl hw
    unfold w_X0_readNested_13 at hw
    exact hw.elim
  | succ n ih =>
    intro v3 M H locs ls hX hI t_v0 t_v1 hl hw
    unfold w_X0_readNested_13 at hw
    refine lv_iload_n hx hb dX0_readNested_13 rfl (lv_at hl 3 rfl) ?_
    refine lv_aload_n hx hb dX0_readNested_14 rfl (lv_at hl 0 rfl) ?_
    refine gf_X0_18 E hI t_v0 dX0_readNested_15 ?_
    refine lv_icmp_ge (tgt := 52) hx hb dX0_readNested_18 (by decide) (fun h_1 => ?_) (fun h_1 => ?_)
    · replace hw := hw.1 h_1
      exact pm_vret E hret hI hX ⟨rfl, hw⟩ (by decide) (by decide) dX0_readNested_52
    · replace hw := hw.2 h_1
      refine lv_aload_n hx hb dX0_readNested_21 rfl (lv_at hl 0 rfl) ?_
      obtain ⟨q_2, e_q_2, hw⟩ := hw
      refine gf_X0_9 E hI t_v0 dX0_readNested_22 e_q_2 (fun t_q_2 => ?_)
      refine lv_iload_n hx hb dX0_readNested_25 rfl (lv_at hl 3 rfl) ?_
      refine lv_aload_n hx hb dX0_readNested_26 rfl (lv_at hl 1 rfl) ?_
      refine lv_iconst (v := (0 : Int32)) hx hb dX0_readNested_27 (by decide) ?_
      refine lv_iload_n hx hb dX0_readNested_28 rfl (lv_at hl 2 rfl) ?_
      refine pm_callV (As := [.int (0 : Int32), .int v2]) (rest := [.int v3, .ref (H0.size + q_2)]) 2 E hI (k_X4_next t_v1 hw) t_v1 (by decide) rfl kc_X4_next kl_X0_22 km_X4_next ks_X4_next ki_X4 (by decide +kernel) ⟨by decide, by decide⟩ rfl hl.1 rfl (by first | exact Nat.le_of_ble_eq_true rfl | simp [pm_rf_cat, Value.category]) dX0_readNested_29 ⟨by decide, by decide⟩ (fun r9 M_3 H locs hp hX1 hI => ?_)
      obtain ⟨r_4, rfl, hw⟩ := hp
      replace t_v0 := t_v0.x hX1
      replace t_v1 := t_v1.x hX1
      replace t_q_2 := t_q_2.x hX1
      replace hX := hX.tr hX1
      refine pm_nrm (cells' := 0) (slots' := 0) (g2 := F0 m 32 ls [.int r_4, .int v3, .ref (H0.size + q_2)]) rfl rfl rfl ?_
      obtain ⟨h_5, hw⟩ := hw
      refine ps_iast E hI t_q_2 h_5 dX0_readNested_32 (fun H locs M_6 e_M_6 hX1 hI => ?_)
      replace hw := hw M_6 e_M_6
      replace t_v0 := t_v0.x hX1
      replace t_v1 := t_v1.x hX1
      replace hX := hX.tr hX1
      refine lv_aload_n hx hb dX0_readNested_33 rfl (lv_at hl 0 rfl) ?_
      obtain ⟨q_7, e_q_7, hw⟩ := hw
      refine gf_X0_15 E hI t_v0 dX0_readNested_34 e_q_7 (fun t_q_7 => ?_)
      refine lv_iload_n hx hb dX0_readNested_37 rfl (lv_at hl 3 rfl) ?_
      refine lv_aload_n hx hb dX0_readNested_38 rfl (lv_at hl 1 rfl) ?_
      refine lv_iconst (v := (0 : Int32)) hx hb dX0_readNested_39 (by decide) ?_
      refine lv_bipush (v := (12 : Int32)) hx hb dX0_readNested_40 (by decide) ?_
      refine pm_callV (As := [.int (0 : Int32), .int (12 : Int32)]) (rest := [.int v3, .ref (H0.size + q_7)]) 2 E hI (k_X4_next t_v1 hw) t_v1 (by decide) rfl kc_X4_next kl_X0_22 km_X4_next ks_X4_next ki_X4 (by decide +kernel) ⟨by decide, by decide⟩ rfl hl.1 rfl (by first | exact Nat.le_of_ble_eq_true rfl | simp [pm_rf_cat, Value.category]) dX0_readNested_42 ⟨by decide, by decide⟩ (fun r9 M_8 H locs hp hX1 hI => ?_)
      obtain ⟨r_9, rfl, hw⟩ := hp
      replace t_v0 := t_v0.x hX1
      replace t_v1 := t_v1.x hX1
      replace t_q_7 := t_q_7.x hX1
      replace hX := hX.tr hX1
      refine pm_nrm (cells' := 0) (slots' := 0) (g2 := F0 m 45 ls [.int r_9, .int v3, .ref (H0.size + q_7)]) rfl rfl rfl ?_
      obtain ⟨h_10, hw⟩ := hw
      refine ps_iast E hI t_q_7 h_10 dX0_readNested_45 (fun H locs M_11 e_M_11 hX1 hI => ?_)
      replace hw := hw M_11 e_M_11
      replace t_v0 := t_v0.x hX1
      replace t_v1 := t_v1.x hX1
      replace hX := hX.tr hX1
      obtain ⟨x_12, e_x_12⟩ : ∃ z : Int32, z = v3 + (1 : Int32) := ⟨_, rfl⟩
      refine lv_iinc (v := x_12) (lv' := [(3, .int x_12), (0, .ref (H0.size + v0)), (1, .ref (H0.size + v1)), (2, .int v2)]) hx hb dX0_readNested_46 hl (k := 3) rfl (by rw [e_x_12]; rfl) (by decide) rfl (fun ls hl_13 => ?_)
      replace hw := hw x_12 e_x_12
      refine lv_goto (tgt := 13) hx hb dX0_readNested_49 (by decide) ?_
      exact ih _ _ _ _ _ hX hI t_v0 t_v1 (lv_sub hl_13 [1, 2, 3, 0] rfl) hw
set_option maxHeartbeats 4000000 in
set_option maxRecDepth 100000 in
theorem k_X0_readNested {l : Launch} {G : pm_G} {H0 : Heap} {th : Nat} {a1 : Nat} {a2 : Int32} {M : pm_M} {Post : pm_M → Prop} (t_th : pm_is M th 0) (t_a1 : pm_is M a1 3) (hw : w_X0_readNested th a1 a2 M Post) : pm_C l G H0 yX0_readNested cX0_readNested 4 none rm_X0_readNested [.ref (H0.size + th), .ref (H0.size + a1), .int a2] M (pm_Pv Post) := by
  refine pm_start (by decide +kernel) (Nat.le_of_ble_eq_true rfl) ?_
  intro p e s m args below meth c H ls E hret hnm hI hl
  have hX : pm_X M M := pm_X.rf
  have hl : lv_has ls 4 [(0, .ref (H0.size + th)), (1, .ref (H0.size + a1)), (2, .int a2)] := hl
  have hx := E.1
  have hb := E.2.1
  have hown := E.2.2.2.1
  have hts := E.2.2.2.2.1
  unfold w_X0_readNested at hw
  refine lv_aload_n hx hb dX0_readNested_0 rfl (lv_at hl 0 rfl) ?_
  refine lv_aload_n hx hb dX0_readNested_1 rfl (lv_at hl 1 rfl) ?_
  refine lv_iconst (v := (0 : Int32)) hx hb dX0_readNested_2 (by decide) ?_
  refine lv_bipush (v := (40 : Int32)) hx hb dX0_readNested_3 (by decide) ?_
  refine pm_callV (As := [.int (0 : Int32), .int (40 : Int32)]) (rest := [.ref (H0.size + th)]) 2 E hI (k_X4_next t_a1 hw) t_a1 (by decide) rfl kc_X4_next kl_X0_22 km_X4_next ks_X4_next ki_X4 (by decide +kernel) ⟨by decide, by decide⟩ rfl hl.1 rfl (by first | exact Nat.le_of_ble_eq_true rfl | simp [pm_rf_cat, Value.category]) dX0_readNested_5 ⟨by decide, by decide⟩ (fun r9 M_1 H locs hp hX1 hI => ?_)
  obtain ⟨r_2, rfl, hw⟩ := hp
  replace t_th := t_th.x hX1
  replace t_a1 := t_a1.x hX1
  replace hX := hX.tr hX1
  refine pm_nrm (cells' := 0) (slots' := 0) (g2 := F0 m 8 ls [.int r_2, .ref (H0.size + th)]) rfl rfl rfl ?_
  refine pf_X0_18 E hI t_th dX0_readNested_8 (fun H locs M_3 e_M_3 hX1 hI => ?_)
  replace hw := hw M_3 e_M_3
  replace t_th := t_th.x hX1
  replace t_a1 := t_a1.x hX1
  replace hX := hX.tr hX1
  refine lv_iconst (v := (0 : Int32)) hx hb dX0_readNested_11 (by decide) ?_
  refine lv_istore_n (lv' := [(3, .int (0 : Int32)), (0, .ref (H0.size + th)), (1, .ref (H0.size + a1)), (2, .int a2)]) hx hb dX0_readNested_12 rfl hl (by decide) rfl (fun ls hl_4 => ?_)
  obtain ⟨n_5, hw⟩ := hw
  exact c_X0_readNested_13 E hret n_5 _ _ _ _ _ hX hI t_th t_a1 (lv_sub hl_4 [1, 2, 3, 0] rfl) hw
abbrev rm_X0_lieNested : Room := { frames := 0, cells := 0, slots := 0, locals := 0 }
def w_X0_lieNested_57 (Post : Int32 → Prop) (k_2 : Int32 → Prop) (k_12 : Int32 → Prop) (v0 : Nat) (v1 : Int32) (v2 : Int32) (M : pm_M) : Prop := (∀ x_1 : Int32, x_1 = v2 + (1 : Int32) → k_12 x_1)
def w_X0_lieNested_12 (Post : Int32 → Prop) (k_2 : Int32 → Prop) (v0 : Nat) (v1 : Int32) (M : pm_M) : Nat → Int32 → Prop
  | 0, _ => False
  | n + 1, v2 => ((v1 ≤ v2 → (∀ x_2 : Int32, x_2 = v1 + (1 : Int32) → k_2 x_2)) ∧ (¬ v1 ≤ v2 → (∃ q_4 : Nat, mR M v0 0 = some q_4 ∧ (vp_in v1 (mN M q_4) ∧ (vp_in v2 (mN M q_4) ∧ (∀ x_7 : Int32, x_7 = ((mI M q_4 v1.toNatClampNeg) &&& (mI M q_4 v2.toNatClampNeg)) → ((x_7 = 0 → w_X0_lieNested_57 Post k_2 (w_X0_lieNested_12 Post k_2 v0 v1 M n) v0 v1 v2 M) ∧ (¬ x_7 = 0 → (vp_in v1 (mN M q_4) ∧ ((x_7 = (mI M q_4 v1.toNatClampNeg) → w_X0_lieNested_57 Post k_2 (w_X0_lieNested_12 Post k_2 v0 v1 M n) v0 v1 v2 M) ∧ (¬ x_7 = (mI M q_4 v1.toNatClampNeg) → (vp_in v2 (mN M q_4) ∧ ((x_7 = (mI M q_4 v2.toNatClampNeg) → w_X0_lieNested_57 Post k_2 (w_X0_lieNested_12 Post k_2 v0 v1 M n) v0 v1 v2 M) ∧ (¬ x_7 = (mI M q_4 v2.toNatClampNeg) → Post (0 : Int32)))))))))))))))
def w_X0_lieNested_2 (Post : Int32 → Prop) (v0 : Nat) (M : pm_M) : Nat → Int32 → Prop
  | 0, _ => False
  | n + 1, v1 => (((mI M v0 2) ≤ v1 → Post (1 : Int32)) ∧ (¬ (mI M v0 2) ≤ v1 → (∃ n_3 : Nat, w_X0_lieNested_12 Post (w_X0_lieNested_2 Post v0 M n) v0 v1 M n_3 (0 : Int32))))
def w_X0_lieNested (th : Nat) (M : pm_M) (Post : Int32 → Prop) : Prop := (∃ n_2 : Nat, w_X0_lieNested_2 Post th M n_2 (0 : Int32))
set_option maxHeartbeats 4000000 in
set_option maxRecDepth 100000 in
theorem c_X0_lieNested_57 {p : Program} {l : Launch} {e : Env} {s : State} {m : MethodId} {args : Array Value} {below : List Frame} {meth : Method} {c : Code} {G : pm_G} {H0 : Heap} {Post : Int32 → Prop} {v0 : Nat} {v1 : Int32} {v2 : Int32} {M : pm_M} {k_2 : Int32 → Prop} {k_12 : Int32 → Prop} (E : pm_E G p s m args meth c cX0_lieNested 4 RX0) (hret : meth.sig.returnType = (some .boolean)) (hk_2 : ∀ (v1 : Int32) (H : Heap) (locs : List Loc) (ls : Array Slot), pm_I G H0 M H locs → (pm_is M v0 0) → lv_has ls 4 [(0, .ref (H0.size + v0)), (1, .int v1)] → k_2 v1 → W p l e rm_X0_lieNested s m args below meth c H locs 0 0 (pm_Z G H0 M (pm_Pi (fun r9 M9 => M = M9 ∧ Post r9)) below args s rm_X0_lieNested.cells rm_X0_lieNested.slots) (F0 m 2 ls [])) (hk_12 : ∀ (v2 : Int32) (H : Heap) (locs : List Loc) (ls : Array Slot), pm_I G H0 M H locs → (pm_is M v0 0) → lv_has ls 4 [(0, .ref (H0.size + v0)), (1, .int v1), (2, .int v2)] → k_12 v2 → W p l e rm_X0_lieNested s m args below meth c H locs 0 0 (pm_Z G H0 M (pm_Pi (fun r9 M9 => M = M9 ∧ Post r9)) below args s rm_X0_lieNested.cells rm_X0_lieNested.slots) (F0 m 12 ls [])) {H : Heap} {locs : List Loc} {ls : Array Slot} (hI : pm_I G H0 M H locs) (t_v0 : pm_is M v0 0) (hl : lv_has ls 4 [(0, .ref (H0.size + v0)), (1, .int v1), (2, .int v2)]) (hw : w_X0_lieNested_57 Post k_2 k_12 v0 v1 v2 M) : W p l e rm_X0_lieNested s m args below meth c H locs 0 0 (pm_Z G H0 M (pm_Pi (fun r9 M9 => M = M9 ∧ Post r9)) below args s rm_X0_lieNested.cells rm_X0_lieNested.slots) (F0 m 57 ls []) := by
  have hx := E.1
  have hb := E.2.1
  have hown := E.2.2.2.1
  have hts := E.2.2.2.2.1
  unfold w_X0_lieNested_57 at hw
  obtain ⟨x_1, e_x_1⟩ : ∃ z : Int32, z = v2 + (1 : Int32) := ⟨_, rfl⟩
  refine lv_iinc (v := x_1) (lv' := [(2, .int x_1), (0, .ref (H0.size + v0)), (1, .int v1)]) hx hb dX0_lieNested_57 hl (k := 2) rfl (by rw [e_x_1]; rfl) (by decide) rfl (fun ls hl_2 => ?_)
  replace hw := hw x_1 e_x_1
  refine lv_goto (tgt := 12) hx hb dX0_lieNested_60 (by decide) ?_
  exact hk_12 _ _ _ _ hI t_v0 (lv_sub hl_2 [1, 2, 0] rfl) hw
set_option maxHeartbeats 4000000 in
set_option maxRecDepth 100000 in
theorem c_X0_lieNested_12 {p : Program} {l : Launch} {e : Env} {s : State} {m : MethodId} {args : Array Value} {below : List Frame} {meth : Method} {c : Code} {G : pm_G} {H0 : Heap} {Post : Int32 → Prop} {v0 : Nat} {v1 : Int32} {M : pm_M} {k_2 : Int32 → Prop} (E : pm_E G p s m args meth c cX0_lieNested 4 RX0) (hret : meth.sig.returnType = (some .boolean)) (hk_2 : ∀ (v1 : Int32) (H : Heap) (locs : List Loc) (ls : Array Slot), pm_I G H0 M H locs → (pm_is M v0 0) → lv_has ls 4 [(0, .ref (H0.size + v0)), (1, .int v1)] → k_2 v1 → W p l e rm_X0_lieNested s m args below meth c H locs 0 0 (pm_Z G H0 M (pm_Pi (fun r9 M9 => M = M9 ∧ Post r9)) below args s rm_X0_lieNested.cells rm_X0_lieNested.slots) (F0 m 2 ls [])) : ∀ (n : Nat) (v2 : Int32) (H : Heap) (locs : List Loc) (ls : Array Slot), pm_I G H0 M H locs → (pm_is M v0 0) → lv_has ls 4 [(0, .ref (H0.size + v0)), (1, .int v1), (2, .int v2)] → w_X0_lieNested_12 Post k_2 v0 v1 M n v2 → W p l e rm_X0_lieNested s m args below meth c H locs 0 0 (pm_Z G H0 M (pm_Pi (fun r9 M9 => M = M9 ∧ Post r9)) below args s rm_X0_lieNested.cells rm_X0_lieNested.slots) (F0 m 12 ls []) := by
  have hx := E.1
  have hb := E.2.1
  have hown := E.2.2.2.1
  have hts := E.2.2.2.2.1
  intro n
  induction n with
  | zero =>
    intro v2 H locs ls hI t_v0 hl hw
    unfold w_X0_lieNested_12 at hw
    exact hw.elim
  | succ n ih =>
    intro v2 H locs ls hI t_v0 hl hw
    unfold w_X0_lieNested_12 at hw
    refine lv_iload_n hx hb dX0_lieNested_12 rfl (lv_at hl 2 rfl) ?_
    refine lv_iload_n hx hb dX0_lieNested_13 rfl (lv_at hl 1 rfl) ?_
    refine lv_icmp_ge (tgt := 63) hx hb dX0_lieNested_14 (by decide) (fun h_1 => ?_) (fun h_1 => ?_)
    · replace hw := hw.1 h_1
      obtain ⟨x_2, e_x_2⟩ : ∃ z : Int32, z = v1 + (1 : Int32) := ⟨_, rfl⟩
      refine lv_iinc (v := x_2) (lv' := [(1, .int x_2), (0, .ref (H0.size + v0)), (2, .int v2)]) hx hb dX0_lieNested_63 hl (k := 1) rfl (by rw [e_x_2]; rfl) (by decide) rfl (fun ls hl_3 => ?_)
      replace hw := hw x_2 e_x_2
      refine lv_goto (tgt := 2) hx hb dX0_lieNested_66 (by decide) ?_
      exact hk_2 _ _ _ _ hI t_v0 (lv_sub hl_3 [1, 0] rfl) hw
    · replace hw := hw.2 h_1
      refine lv_aload_n hx hb dX0_lieNested_17 rfl (lv_at hl 0 rfl) ?_
      obtain ⟨q_4, e_q_4, hw⟩ := hw
      refine gf_X0_9 E hI t_v0 dX0_lieNested_18 e_q_4 (fun t_q_4 => ?_)
      refine lv_iload_n hx hb dX0_lieNested_21 rfl (lv_at hl 1 rfl) ?_
      obtain ⟨h_5, hw⟩ := hw
      refine pm_iald E hI t_q_4 h_5 dX0_lieNested_22 ?_
      refine lv_aload_n hx hb dX0_lieNested_23 rfl (lv_at hl 0 rfl) ?_
      refine gf_X0_9 E hI t_v0 dX0_lieNested_24 e_q_4 (fun _ => ?_)
      refine lv_iload_n hx hb dX0_lieNested_27 rfl (lv_at hl 2 rfl) ?_
      obtain ⟨h_6, hw⟩ := hw
      refine pm_iald E hI t_q_4 h_6 dX0_lieNested_28 ?_
      refine lv_iand hx hb dX0_lieNested_29 ?_
      refine lv_topi (fun x_7 e_x_7 => ?_)
      replace hw := hw x_7 e_x_7
      refine lv_istore_n (lv' := [(3, .int x_7), (0, .ref (H0.size + v0)), (1, .int v1), (2, .int v2)]) hx hb dX0_lieNested_30 rfl hl (by decide) rfl (fun ls hl_8 => ?_)
      refine lv_iload_n hx hb dX0_lieNested_31 rfl (lv_at hl_8 0 rfl) ?_
      refine lv_if_eq (tgt := 57) hx hb dX0_lieNested_32 (by decide) (fun h_9 => ?_) (fun h_9 => ?_)
      · replace hw := hw.1 h_9
        exact c_X0_lieNested_57 E hret hk_2 ih hI t_v0 (lv_sub hl_8 [1, 2, 3] rfl) hw
      · replace hw := hw.2 h_9
        refine lv_iload_n hx hb dX0_lieNested_35 rfl (lv_at hl_8 0 rfl) ?_
        refine lv_aload_n hx hb dX0_lieNested_36 rfl (lv_at hl_8 1 rfl) ?_
        refine gf_X0_9 E hI t_v0 dX0_lieNested_37 e_q_4 (fun _ => ?_)
        refine lv_iload_n hx hb dX0_lieNested_40 rfl (lv_at hl_8 2 rfl) ?_
        obtain ⟨h_10, hw⟩ := hw
        refine pm_iald E hI t_q_4 h_10 dX0_lieNested_41 ?_
        refine lv_icmp_eq (tgt := 57) hx hb dX0_lieNested_42 (by decide) (fun h_11 => ?_) (fun h_11 => ?_)
        · replace hw := hw.1 h_11
          exact c_X0_lieNested_57 E hret hk_2 ih hI t_v0 (lv_sub hl_8 [1, 2, 3] rfl) hw
        · replace hw := hw.2 h_11
          refine lv_iload_n hx hb dX0_lieNested_45 rfl (lv_at hl_8 0 rfl) ?_
          refine lv_aload_n hx hb dX0_lieNested_46 rfl (lv_at hl_8 1 rfl) ?_
          refine gf_X0_9 E hI t_v0 dX0_lieNested_47 e_q_4 (fun _ => ?_)
          refine lv_iload_n hx hb dX0_lieNested_50 rfl (lv_at hl_8 3 rfl) ?_
          obtain ⟨h_12, hw⟩ := hw
          refine pm_iald E hI t_q_4 h_12 dX0_lieNested_51 ?_
          refine lv_icmp_eq (tgt := 57) hx hb dX0_lieNested_52 (by decide) (fun h_13 => ?_) (fun h_13 => ?_)
          · replace hw := hw.1 h_13
            exact c_X0_lieNested_57 E hret hk_2 ih hI t_v0 (lv_sub hl_8 [1, 2, 3] rfl) hw
          · replace hw := hw.2 h_13
            refine lv_iconst (v := (0 : Int32)) hx hb dX0_lieNested_55 (by decide) ?_
            exact pm_zret E hret hI pm_X.rf rfl ⟨_, rfl, rfl, hw⟩ (by decide) (by decide) dX0_lieNested_56
set_option maxHeartbeats 4000000 in
set_option maxRecDepth 100000 in
theorem c_X0_lieNested_2 {p : Program} {l : Launch} {e : Env} {s : State} {m : MethodId} {args : Array Value} {below : List Frame} {meth : Method} {c : Code} {G : pm_G} {H0 : Heap} {Post : Int32 → Prop} {v0 : Nat} {M : pm_M} (E : pm_E G p s m args meth c cX0_lieNested 4 RX0) (hret : meth.sig.returnType = (some .boolean)) : ∀ (n : Nat) (v1 : Int32) (H : Heap) (locs : List Loc) (ls : Array Slot), pm_I G H0 M H locs → (pm_is M v0 0) → lv_has ls 4 [(0, .ref (H0.size + v0)), (1, .int v1)] → w_X0_lieNested_2 Post v0 M n v1 → W p l e rm_X0_lieNested s m args below meth c H locs 0 0 (pm_Z G H0 M (pm_Pi (fun r9 M9 => M = M9 ∧ Post r9)) below args s rm_X0_lieNested.cells rm_X0_lieNested.slots) (F0 m 2 ls []) := by
  have hx := E.1
  have hb := E.2.1
  have hown := E.2.2.2.1
  have hts := E.2.2.2.2.1
  intro n
  induction n with
  | zero =>
    intro v1 H locs ls hI t_v0 hl hw
    unfold w_X0_lieNested_2 at hw
    exact hw.elim
  | succ n ih =>
    intro v1 H locs ls hI t_v0 hl hw
    unfold w_X0_lieNested_2 at hw
    refine lv_iload_n hx hb dX0_lieNested_2 rfl (lv_at hl 1 rfl) ?_
    refine lv_aload_n hx hb dX0_lieNested_3 rfl (lv_at hl 0 rfl) ?_
    refine gf_X0_18 E hI t_v0 dX0_lieNested_4 ?_
    refine lv_icmp_ge (tgt := 69) hx hb dX0_lieNested_7 (by decide) (fun h_1 => ?_) (fun h_1 => ?_)
    · replace hw := hw.1 h_1
      refine lv_iconst (v := (1 : Int32)) hx hb dX0_lieNested_69 (by decide) ?_
      exact pm_zret E hret hI pm_X.rf rfl ⟨_, rfl, rfl, hw⟩ (by decide) (by decide) dX0_lieNested_70
    · replace hw := hw.2 h_1
      refine lv_iconst (v := (0 : Int32)) hx hb dX0_lieNested_10 (by decide) ?_
      refine lv_istore_n (lv' := [(2, .int (0 : Int32)), (0, .ref (H0.size + v0)), (1, .int v1)]) hx hb dX0_lieNested_11 rfl hl (by decide) rfl (fun ls hl_2 => ?_)
      obtain ⟨n_3, hw⟩ := hw
      exact c_X0_lieNested_12 E hret ih n_3 _ _ _ _ hI t_v0 (lv_sub hl_2 [1, 2, 0] rfl) hw
set_option maxHeartbeats 4000000 in
set_option maxRecDepth 100000 in
theorem k_X0_lieNested {l : Launch} {G : pm_G} {H0 : Heap} {th : Nat} {M : pm_M} {Post : Int32 → Prop} (t_th : pm_is M th 0) (hw : w_X0_lieNested th M Post) : pm_C l G H0 yX0_lieNested cX0_lieNested 4 (some .boolean) rm_X0_lieNested [.ref (H0.size + th)] M (pm_Pi (fun r9 M9 => M = M9 ∧ Post r9)) := by
  refine pm_start (by decide +kernel) (Nat.le_of_ble_eq_true rfl) ?_
  intro p e s m args below meth c H ls E hret hnm hI hl
  have hl : lv_has ls 4 [(0, .ref (H0.size + th))] := hl
  have hx := E.1
  have hb := E.2.1
  have hown := E.2.2.2.1
  have hts := E.2.2.2.2.1
  unfold w_X0_lieNested at hw
  refine lv_iconst (v := (0 : Int32)) hx hb dX0_lieNested_0 (by decide) ?_
  refine lv_istore_n (lv' := [(1, .int (0 : Int32)), (0, .ref (H0.size + th))]) hx hb dX0_lieNested_1 rfl hl (by decide) rfl (fun ls hl_1 => ?_)
  obtain ⟨n_2, hw⟩ := hw
  exact c_X0_lieNested_2 E hret n_2 _ _ _ _ hI t_th (lv_sub hl_1 [1, 0] rfl) hw
abbrev rm_J6_bitCount_0f7a4 : Room := { frames := 0, cells := 0, slots := 0, locals := 0 }
def w_J6_bitCount_0f7a4 (a0 : Int32) (M : pm_M) (Post : Int32 → Prop) : Prop := (∀ x_1 : Int32, x_1 = (a0 - ((a0.toUInt32 >>> ((1 : Int32).toUInt32 &&& Int32.toUInt32 31)).toInt32 &&& (1431655765 : Int32))) → (∀ x_3 : Int32, x_3 = ((x_1 &&& (858993459 : Int32)) + ((x_1.toUInt32 >>> ((2 : Int32).toUInt32 &&& Int32.toUInt32 31)).toInt32 &&& (858993459 : Int32))) → (∀ x_5 : Int32, x_5 = ((x_3 + (x_3.toUInt32 >>> ((4 : Int32).toUInt32 &&& Int32.toUInt32 31)).toInt32) &&& (252645135 : Int32)) → (∀ x_7 : Int32, x_7 = (x_5 + (x_5.toUInt32 >>> ((8 : Int32).toUInt32 &&& Int32.toUInt32 31)).toInt32) → (∀ x_9 : Int32, x_9 = (x_7 + (x_7.toUInt32 >>> ((16 : Int32).toUInt32 &&& Int32.toUInt32 31)).toInt32) → Post (x_9 &&& (63 : Int32)))))))
set_option maxHeartbeats 4000000 in
set_option maxRecDepth 100000 in
theorem k_J6_bitCount_0f7a4 {l : Launch} {G : pm_G} {H0 : Heap} {a0 : Int32} {M : pm_M} {Post : Int32 → Prop} (hw : w_J6_bitCount_0f7a4 a0 M Post) : pm_C l G H0 yJ6_bitCount_0f7a4 cJ6_bitCount_0f7a4 1 (some .int) rm_J6_bitCount_0f7a4 [.int a0] M (pm_Pi (fun r9 M9 => M = M9 ∧ Post r9)) := by
  refine pm_startF (by decide +kernel) (Nat.le_of_ble_eq_true rfl) ?_
  intro p e s m args below meth c H ls E hret hnm hI hl
  have hl : lv_has ls 1 [(0, .int a0)] := hl
  have hx := E.1
  have hb := E.2.1
  have hown := E.2.2.2.1
  have hts := E.2.2.2.2.1
  unfold w_J6_bitCount_0f7a4 at hw
  refine lv_iload_n hx hb dJ6_bitCount_0f7a4_0 rfl (lv_at hl 0 rfl) ?_
  refine lv_iload_n hx hb dJ6_bitCount_0f7a4_1 rfl (lv_at hl 0 rfl) ?_
  refine lv_iconst (v := (1 : Int32)) hx hb dJ6_bitCount_0f7a4_2 (by decide) ?_
  refine lv_iushr hx hb dJ6_bitCount_0f7a4_3 rfl ?_
  refine lv_ldcw (v := (1431655765 : Int32)) hx hb hown (hts _ kl_J6_265) dJ6_bitCount_0f7a4_4 ?_
  refine lv_iand hx hb dJ6_bitCount_0f7a4_7 ?_
  refine lv_isub hx hb dJ6_bitCount_0f7a4_8 ?_
  refine lv_topi (fun x_1 e_x_1 => ?_)
  replace hw := hw x_1 e_x_1
  refine lv_istore_n (lv' := [(0, .int x_1)]) hx hb dJ6_bitCount_0f7a4_9 rfl hl (by decide) rfl (fun ls hl_2 => ?_)
  refine lv_iload_n hx hb dJ6_bitCount_0f7a4_10 rfl (lv_at hl_2 0 rfl) ?_
  refine lv_ldcw (v := (858993459 : Int32)) hx hb hown (hts _ kl_J6_266) dJ6_bitCount_0f7a4_11 ?_
  refine lv_iand hx hb dJ6_bitCount_0f7a4_14 ?_
  refine lv_iload_n hx hb dJ6_bitCount_0f7a4_15 rfl (lv_at hl_2 0 rfl) ?_
  refine lv_iconst (v := (2 : Int32)) hx hb dJ6_bitCount_0f7a4_16 (by decide) ?_
  refine lv_iushr hx hb dJ6_bitCount_0f7a4_17 rfl ?_
  refine lv_ldcw (v := (858993459 : Int32)) hx hb hown (hts _ kl_J6_266) dJ6_bitCount_0f7a4_18 ?_
  refine lv_iand hx hb dJ6_bitCount_0f7a4_21 ?_
  refine lv_iadd hx hb dJ6_bitCount_0f7a4_22 ?_
  refine lv_topi (fun x_3 e_x_3 => ?_)
  replace hw := hw x_3 e_x_3
  refine lv_istore_n (lv' := [(0, .int x_3)]) hx hb dJ6_bitCount_0f7a4_23 rfl hl_2 (by decide) rfl (fun ls hl_4 => ?_)
  refine lv_iload_n hx hb dJ6_bitCount_0f7a4_24 rfl (lv_at hl_4 0 rfl) ?_
  refine lv_iload_n hx hb dJ6_bitCount_0f7a4_25 rfl (lv_at hl_4 0 rfl) ?_
  refine lv_iconst (v := (4 : Int32)) hx hb dJ6_bitCount_0f7a4_26 (by decide) ?_
  refine lv_iushr hx hb dJ6_bitCount_0f7a4_27 rfl ?_
  refine lv_iadd hx hb dJ6_bitCount_0f7a4_28 ?_
  refine lv_ldcw (v := (252645135 : Int32)) hx hb hown (hts _ kl_J6_267) dJ6_bitCount_0f7a4_29 ?_
  refine lv_iand hx hb dJ6_bitCount_0f7a4_32 ?_
  refine lv_topi (fun x_5 e_x_5 => ?_)
  replace hw := hw x_5 e_x_5
  refine lv_istore_n (lv' := [(0, .int x_5)]) hx hb dJ6_bitCount_0f7a4_33 rfl hl_4 (by decide) rfl (fun ls hl_6 => ?_)
  refine lv_iload_n hx hb dJ6_bitCount_0f7a4_34 rfl (lv_at hl_6 0 rfl) ?_
  refine lv_iload_n hx hb dJ6_bitCount_0f7a4_35 rfl (lv_at hl_6 0 rfl) ?_
  refine lv_bipush (v := (8 : Int32)) hx hb dJ6_bitCount_0f7a4_36 (by decide) ?_
  refine lv_iushr hx hb dJ6_bitCount_0f7a4_38 rfl ?_
  refine lv_iadd hx hb dJ6_bitCount_0f7a4_39 ?_
  refine lv_topi (fun x_7 e_x_7 => ?_)
  replace hw := hw x_7 e_x_7
  refine lv_istore_n (lv' := [(0, .int x_7)]) hx hb dJ6_bitCount_0f7a4_40 rfl hl_6 (by decide) rfl (fun ls hl_8 => ?_)
  refine lv_iload_n hx hb dJ6_bitCount_0f7a4_41 rfl (lv_at hl_8 0 rfl) ?_
  refine lv_iload_n hx hb dJ6_bitCount_0f7a4_42 rfl (lv_at hl_8 0 rfl) ?_
  refine lv_bipush (v := (16 : Int32)) hx hb dJ6_bitCount_0f7a4_43 (by decide) ?_
  refine lv_iushr hx hb dJ6_bitCount_0f7a4_45 rfl ?_
  refine lv_iadd hx hb dJ6_bitCount_0f7a4_46 ?_
  refine lv_topi (fun x_9 e_x_9 => ?_)
  replace hw := hw x_9 e_x_9
  refine lv_istore_n (lv' := [(0, .int x_9)]) hx hb dJ6_bitCount_0f7a4_47 rfl hl_8 (by decide) rfl (fun ls hl_10 => ?_)
  refine lv_iload_n hx hb dJ6_bitCount_0f7a4_48 rfl (lv_at hl_10 0 rfl) ?_
  refine lv_bipush (v := (63 : Int32)) hx hb dJ6_bitCount_0f7a4_49 (by decide) ?_
  refine lv_iand hx hb dJ6_bitCount_0f7a4_51 ?_
  exact pm_iret E hret hI pm_X.rf ⟨_, rfl, rfl, hw⟩ (by decide) (by decide) dJ6_bitCount_0f7a4_52
abbrev rm_X0_fits : Room := { frames := 1, cells := 0, slots := 0, locals := 20 }
def w_X0_fits_2 (Post : Int32 → Prop) (v0 : Nat) (v1 : Int32) (M : pm_M) : Nat → Int32 → Prop
  | 0, _ => False
  | n + 1, v2 => (((mI M v0 2) ≤ v2 → Post (1 : Int32)) ∧ (¬ (mI M v0 2) ≤ v2 → (∃ q_2 : Nat, mR M v0 0 = some q_2 ∧ (vp_in v2 (mN M q_2) ∧ w_J6_bitCount_0f7a4 (v1 &&& (mI M q_2 v2.toNatClampNeg)) M (fun r_4 => (∃ q_5 : Nat, mR M v0 1 = some q_5 ∧ (vp_in v2 (mN M q_5) ∧ ((r_4 ≤ (mI M q_5 v2.toNatClampNeg) → (∀ x_8 : Int32, x_8 = v2 + (1 : Int32) → (w_X0_fits_2 Post v0 v1 M n) x_8)) ∧ (¬ r_4 ≤ (mI M q_5 v2.toNatClampNeg) → Post (0 : Int32))))))))))
def w_X0_fits (th : Nat) (a1 : Int32) (M : pm_M) (Post : Int32 → Prop) : Prop := (∃ n_2 : Nat, w_X0_fits_2 Post th a1 M n_2 (0 : Int32))
set_option maxHeartbeats 4000000 in
set_option maxRecDepth 100000 in
theorem c_X0_fits_2 {p : Program} {l : Launch} {e : Env} {s : State} {m : MethodId} {args : Array Value} {below : List Frame} {meth : Method} {c : Code} {G : pm_G} {H0 : Heap} {Post : Int32 → Prop} {v0 : Nat} {v1 : Int32} {M : pm_M} (E : pm_E G p s m args meth c cX0_fits 3 RX0) (hret : meth.sig.returnType = (some .boolean)) : ∀ (n : Nat) (v2 : Int32) (H : Heap) (locs : List Loc) (ls : Array Slot), pm_I G H0 M H locs → (pm_is M v0 0) → lv_has ls 3 [(0, .ref (H0.size + v0)), (1, .int v1), (2, .int v2)] → w_X0_fits_2 Post v0 v1 M n v2 → W p l e rm_X0_fits s m args below meth c H locs 0 0 (pm_Z G H0 M (pm_Pi (fun r9 M9 => M = M9 ∧ Post r9)) below args s rm_X0_fits.cells rm_X0_fits.slots) (F0 m 2 ls []) := by
  have hx := E.1
  have hb := E.2.1
  have hown := E.2.2.2.1
  have hts := E.2.2.2.2.1
  intro n
  induction n with
  | zero =>
    intro v2 H locs ls hI t_v0 hl hw
    unfold w_X0_fits_2 at hw
    exact hw.elim
  | succ n ih =>
    intro v2 H locs ls hI t_v0 hl hw
    unfold w_X0_fits_2 at hw
    refine lv_iload_n hx hb dX0_fits_2 rfl (lv_at hl 2 rfl) ?_
    refine lv_aload_n hx hb dX0_fits_3 rfl (lv_at hl 0 rfl) ?_
    refine gf_X0_18 E hI t_v0 dX0_fits_4 ?_
    refine lv_icmp_ge (tgt := 38) hx hb dX0_fits_7 (by decide) (fun h_1 => ?_) (fun h_1 => ?_)
    · replace hw := hw.1 h_1
      refine lv_iconst (v := (1 : Int32)) hx hb dX0_fits_38 (by decide) ?_
      exact pm_zret E hret hI pm_X.rf rfl ⟨_, rfl, rfl, hw⟩ (by decide) (by decide) dX0_fits_39
    · replace hw := hw.2 h_1
      refine lv_iload_n hx hb dX0_fits_10 rfl (lv_at hl 1 rfl) ?_
      refine lv_aload_n hx hb dX0_fits_11 rfl (lv_at hl 0 rfl) ?_
      obtain ⟨q_2, e_q_2, hw⟩ := hw
      refine gf_X0_9 E hI t_v0 dX0_fits_12 e_q_2 (fun t_q_2 => ?_)
      refine lv_iload_n hx hb dX0_fits_15 rfl (lv_at hl 2 rfl) ?_
      obtain ⟨h_3, hw⟩ := hw
      refine pm_iald E hI t_q_2 h_3 dX0_fits_16 ?_
      refine lv_iand hx hb dX0_fits_17 ?_
      refine pm_callS (As := [.int (v1 &&& (mI M q_2 v2.toNatClampNeg))]) (rest := []) 1 E hI (k_J6_bitCount_0f7a4 hw) kc_J6_bitCount_0f7a4 kl_X0_33 kt_J6_bitCount_0f7a4 ki_J6 (by decide +kernel) ⟨by decide, by decide⟩ rfl hl.1 rfl (by first | exact Nat.le_of_ble_eq_true rfl | simp [pm_rf_cat, Value.category]) dX0_fits_18 ⟨by decide, by decide⟩ (fun r9 M9 H locs hp hX1 hI => ?_)
      obtain ⟨r_4, rfl, rfl, hw⟩ := hp
      refine pm_nrm (cells' := 0) (slots' := 0) (g2 := F0 m 21 ls [.int r_4]) rfl rfl rfl ?_
      refine lv_aload_n hx hb dX0_fits_21 rfl (lv_at hl 0 rfl) ?_
      obtain ⟨q_5, e_q_5, hw⟩ := hw
      refine gf_X0_15 E hI t_v0 dX0_fits_22 e_q_5 (fun t_q_5 => ?_)
      refine lv_iload_n hx hb dX0_fits_25 rfl (lv_at hl 2 rfl) ?_
      obtain ⟨h_6, hw⟩ := hw
      refine pm_iald E hI t_q_5 h_6 dX0_fits_26 ?_
      refine lv_icmp_le (tgt := 32) hx hb dX0_fits_27 (by decide) (fun h_7 => ?_) (fun h_7 => ?_)
      · replace hw := hw.1 h_7
        obtain ⟨x_8, e_x_8⟩ : ∃ z : Int32, z = v2 + (1 : Int32) := ⟨_, rfl⟩
        refine lv_iinc (v := x_8) (lv' := [(2, .int x_8), (0, .ref (H0.size + v0)), (1, .int v1)]) hx hb dX0_fits_32 hl (k := 2) rfl (by rw [e_x_8]; rfl) (by decide) rfl (fun ls hl_9 => ?_)
        replace hw := hw x_8 e_x_8
        refine lv_goto (tgt := 2) hx hb dX0_fits_35 (by decide) ?_
        exact ih _ _ _ _ hI t_v0 (lv_sub hl_9 [1, 2, 0] rfl) hw
      · replace hw := hw.2 h_7
        refine lv_iconst (v := (0 : Int32)) hx hb dX0_fits_30 (by decide) ?_
        exact pm_zret E hret hI pm_X.rf rfl ⟨_, rfl, rfl, hw⟩ (by decide) (by decide) dX0_fits_31
set_option maxHeartbeats 4000000 in
set_option maxRecDepth 100000 in
theorem k_X0_fits {l : Launch} {G : pm_G} {H0 : Heap} {th : Nat} {a1 : Int32} {M : pm_M} {Post : Int32 → Prop} (t_th : pm_is M th 0) (hw : w_X0_fits th a1 M Post) : pm_C l G H0 yX0_fits cX0_fits 3 (some .boolean) rm_X0_fits [.ref (H0.size + th), .int a1] M (pm_Pi (fun r9 M9 => M = M9 ∧ Post r9)) := by
  refine pm_start (by decide +kernel) (Nat.le_of_ble_eq_true rfl) ?_
  intro p e s m args below meth c H ls E hret hnm hI hl
  have hl : lv_has ls 3 [(0, .ref (H0.size + th)), (1, .int a1)] := hl
  have hx := E.1
  have hb := E.2.1
  have hown := E.2.2.2.1
  have hts := E.2.2.2.2.1
  unfold w_X0_fits at hw
  refine lv_iconst (v := (0 : Int32)) hx hb dX0_fits_0 (by decide) ?_
  refine lv_istore_n (lv' := [(2, .int (0 : Int32)), (0, .ref (H0.size + th)), (1, .int a1)]) hx hb dX0_fits_1 rfl hl (by decide) rfl (fun ls hl_1 => ?_)
  obtain ⟨n_2, hw⟩ := hw
  exact c_X0_fits_2 E hret n_2 _ _ _ _ hI t_th (lv_sub hl_1 [1, 2, 0] rfl) hw
abbrev rm_X5_rankOf : Room := { frames := 0, cells := 0, slots := 0, locals := 0 }
def w_X5_rankOf_23 (Post : Int32 → Prop) (s0 : Int32) (M : pm_M) : Prop := Post s0
def w_X5_rankOf_22 (Post : Int32 → Prop) (M : pm_M) : Prop := w_X5_rankOf_23 Post (0 : Int32) M
def w_X5_rankOf (th : Nat) (a1 : Int32) (M : pm_M) (Post : Int32 → Prop) : Prop := ((a1 < 0 → w_X5_rankOf_22 Post M) ∧ (¬ a1 < 0 → (∃ q_2 : Nat, mR M th 4 = some q_2 ∧ (((nI (mN M q_2)) ≤ a1 → w_X5_rankOf_22 Post M) ∧ (¬ (nI (mN M q_2)) ≤ a1 → (vp_in a1 (mN M q_2) ∧ w_X5_rankOf_23 Post (mI M q_2 a1.toNatClampNeg) M))))))
set_option maxHeartbeats 4000000 in
set_option maxRecDepth 100000 in
theorem c_X5_rankOf_23 {p : Program} {l : Launch} {e : Env} {s : State} {m : MethodId} {args : Array Value} {below : List Frame} {meth : Method} {c : Code} {G : pm_G} {H0 : Heap} {Post : Int32 → Prop} {s0 : Int32} {M : pm_M} (E : pm_E G p s m args meth c cX5_rankOf 2 RX5) (hret : meth.sig.returnType = (some .int)) {H : Heap} {locs : List Loc} {ls : Array Slot} (hI : pm_I G H0 M H locs) (hl : lv_has ls 2 []) (hw : w_X5_rankOf_23 Post s0 M) : W p l e rm_X5_rankOf s m args below meth c H locs 0 0 (pm_Z G H0 M (pm_Pi (fun r9 M9 => M = M9 ∧ Post r9)) below args s rm_X5_rankOf.cells rm_X5_rankOf.slots) (F0 m 23 ls [.int s0]) := by
  have hx := E.1
  have hb := E.2.1
  have hown := E.2.2.2.1
  have hts := E.2.2.2.2.1
  unfold w_X5_rankOf_23 at hw
  exact pm_iret E hret hI pm_X.rf ⟨_, rfl, rfl, hw⟩ (by decide) (by decide) dX5_rankOf_23
set_option maxHeartbeats 4000000 in
set_option maxRecDepth 100000 in
theorem c_X5_rankOf_22 {p : Program} {l : Launch} {e : Env} {s : State} {m : MethodId} {args : Array Value} {below : List Frame} {meth : Method} {c : Code} {G : pm_G} {H0 : Heap} {Post : Int32 → Prop} {M : pm_M} (E : pm_E G p s m args meth c cX5_rankOf 2 RX5) (hret : meth.sig.returnType = (some .int)) {H : Heap} {locs : List Loc} {ls : Array Slot} (hI : pm_I G H0 M H locs) (hl : lv_has ls 2 []) (hw : w_X5_rankOf_22 Post M) : W p l e rm_X5_rankOf s m args below meth c H locs 0 0 (pm_Z G H0 M (pm_Pi (fun r9 M9 => M = M9 ∧ Post r9)) below args s rm_X5_rankOf.cells rm_X5_rankOf.slots) (F0 m 22 ls []) := by
  have hx := E.1
  have hb := E.2.1
  have hown := E.2.2.2.1
  have hts := E.2.2.2.2.1
  unfold w_X5_rankOf_22 at hw
  refine lv_iconst (v := (0 : Int32)) hx hb dX5_rankOf_22 (by decide) ?_
  exact c_X5_rankOf_23 E hret hI (lv_sub hl [] rfl) hw
set_option maxHeartbeats 4000000 in
set_option maxRecDepth 100000 in
theorem k_X5_rankOf {l : Launch} {G : pm_G} {H0 : Heap} {th : Nat} {a1 : Int32} {M : pm_M} {Post : Int32 → Prop} (t_th : pm_is M th 4) (hw : w_X5_rankOf th a1 M Post) : pm_C l G H0 yX5_rankOf cX5_rankOf 2 (some .int) rm_X5_rankOf [.ref (H0.size + th), .int a1] M (pm_Pi (fun r9 M9 => M = M9 ∧ Post r9)) := by
  refine pm_start (by decide +kernel) (Nat.le_of_ble_eq_true rfl) ?_
  intro p e s m args below meth c H ls E hret hnm hI hl
  have hl : lv_has ls 2 [(0, .ref (H0.size + th)), (1, .int a1)] := hl
  have hx := E.1
  have hb := E.2.1
  have hown := E.2.2.2.1
  have hts := E.2.2.2.2.1
  unfold w_X5_rankOf at hw
  refine lv_iload_n hx hb dX5_rankOf_0 rfl (lv_at hl 1 rfl) ?_
  refine lv_if_lt (tgt := 22) hx hb dX5_rankOf_1 (by decide) (fun h_1 => ?_) (fun h_1 => ?_)
  · replace hw := hw.1 h_1
    exact c_X5_rankOf_22 E hret hI (lv_sub hl [] rfl) hw
  · replace hw := hw.2 h_1
    refine lv_iload_n hx hb dX5_rankOf_4 rfl (lv_at hl 1 rfl) ?_
    refine lv_aload_n hx hb dX5_rankOf_5 rfl (lv_at hl 0 rfl) ?_
    obtain ⟨q_2, e_q_2, hw⟩ := hw
    refine gf_X5_7 E hI t_th dX5_rankOf_6 e_q_2 (fun t_q_2 => ?_)
    refine ps_alenB E hI t_q_2 dX5_rankOf_9 ?_
    refine lv_icmp_ge (tgt := 22) hx hb dX5_rankOf_10 (by decide) (fun h_3 => ?_) (fun h_3 => ?_)
    · replace hw := hw.1 h_3
      exact c_X5_rankOf_22 E hret hI (lv_sub hl [] rfl) hw
    · replace hw := hw.2 h_3
      refine lv_aload_n hx hb dX5_rankOf_13 rfl (lv_at hl 0 rfl) ?_
      refine gf_X5_7 E hI t_th dX5_rankOf_14 e_q_2 (fun _ => ?_)
      refine lv_iload_n hx hb dX5_rankOf_17 rfl (lv_at hl 1 rfl) ?_
      obtain ⟨h_4, hw⟩ := hw
      refine pm_bald E hI t_q_2 h_4 dX5_rankOf_18 ?_
      refine lv_goto (tgt := 23) hx hb dX5_rankOf_19 (by decide) ?_
      exact c_X5_rankOf_23 E hret hI (lv_sub hl [] rfl) hw
abbrev rm_X4_init : Room := { frames := 1, cells := 0, slots := 0, locals := 40 }
def w_X4_init (th : Nat) (M : pm_M) (Post : Prop) : Prop := Post
set_option maxHeartbeats 4000000 in
set_option maxRecDepth 100000 in
theorem k_X4_init {l : Launch} {G : pm_G} {H0 : Heap} {th : Nat} {M : pm_M} {Post : Prop} (t_th : pm_is M th 3) (hw : w_X4_init th M Post) : pm_C l G H0 yX4_init cX4_init 1 none rm_X4_init [.ref (H0.size + th)] M (pm_Pv (fun M9 => M = M9 ∧ Post)) := by
  refine pm_start (by decide +kernel) (Nat.le_of_ble_eq_true rfl) ?_
  intro p e s m args below meth c H ls E hret hnm hI hl
  have hl : lv_has ls 1 [(0, .ref (H0.size + th))] := hl
  have hx := E.1
  have hb := E.2.1
  have hown := E.2.2.2.1
  have hts := E.2.2.2.2.1
  unfold w_X4_init at hw
  refine lv_aload_n hx hb dX4_init_0 rfl (lv_at hl 0 rfl) ?_
  refine pm_objInit E hl.1 kl_X4_3 ko_init ko_code dX4_init_1 (by decide) (Nat.le_of_ble_eq_true rfl) ?_
  exact pm_vret E hret hI pm_X.rf ⟨rfl, rfl, hw⟩ (by decide) (by decide) dX4_init_4
abbrev rm_X4_start : Room := { frames := 0, cells := 0, slots := 0, locals := 0 }
def w_X4_start (th : Nat) (a1 : Nat) (M : pm_M) (Post : pm_M → Prop) : Prop := (∀ M_1 : pm_M, M_1 = sR M th 0 (some a1) → (∀ M_2 : pm_M, M_2 = sI M_1 th 1 (0 : Int32) → (∀ M_3 : pm_M, M_3 = sI M_2 th 2 (0 : Int32) → Post M_3)))
set_option maxHeartbeats 4000000 in
set_option maxRecDepth 100000 in
theorem k_X4_start {l : Launch} {G : pm_G} {H0 : Heap} {th : Nat} {a1 : Nat} {M : pm_M} {Post : pm_M → Prop} (t_th : pm_is M th 3) (t_a1 : pm_is M a1 5) (hw : w_X4_start th a1 M Post) : pm_C l G H0 yX4_start cX4_start 2 none rm_X4_start [.ref (H0.size + th), .ref (H0.size + a1)] M (pm_Pv Post) := by
  refine pm_start (by decide +kernel) (Nat.le_of_ble_eq_true rfl) ?_
  intro p e s m args below meth c H ls E hret hnm hI hl
  have hX : pm_X M M := pm_X.rf
  have hl : lv_has ls 2 [(0, .ref (H0.size + th)), (1, .ref (H0.size + a1))] := hl
  have hx := E.1
  have hb := E.2.1
  have hown := E.2.2.2.1
  have hts := E.2.2.2.2.1
  unfold w_X4_start at hw
  refine lv_aload_n hx hb dX4_start_0 rfl (lv_at hl 0 rfl) ?_
  refine lv_aload_n hx hb dX4_start_1 rfl (lv_at hl 1 rfl) ?_
  refine pf_X4_9 E hI t_th dX4_start_2 t_a1 (fun H locs M_1 e_M_1 hX1 hI => ?_)
  replace hw := hw M_1 e_M_1
  replace t_th := t_th.x hX1
  replace t_a1 := t_a1.x hX1
  replace hX := hX.tr hX1
  refine lv_aload_n hx hb dX4_start_5 rfl (lv_at hl 0 rfl) ?_
  refine lv_iconst (v := (0 : Int32)) hx hb dX4_start_6 (by decide) ?_
  refine pf_X4_15 E hI t_th dX4_start_7 (fun H locs M_2 e_M_2 hX1 hI => ?_)
  replace hw := hw M_2 e_M_2
  replace t_th := t_th.x hX1
  replace t_a1 := t_a1.x hX1
  replace hX := hX.tr hX1
  refine lv_aload_n hx hb dX4_start_10 rfl (lv_at hl 0 rfl) ?_
  refine lv_iconst (v := (0 : Int32)) hx hb dX4_start_11 (by decide) ?_
  refine pf_X4_19 E hI t_th dX4_start_12 (fun H locs M_3 e_M_3 hX1 hI => ?_)
  replace hw := hw M_3 e_M_3
  replace t_th := t_th.x hX1
  replace t_a1 := t_a1.x hX1
  replace hX := hX.tr hX1
  exact pm_vret E hret hI hX ⟨rfl, hw⟩ (by decide) (by decide) dX4_start_15
abbrev rm_X4_refuseLast : Room := { frames := 0, cells := 0, slots := 0, locals := 0 }
def w_X4_refuseLast_13 (Post : pm_M → Prop) (M : pm_M) : Prop := Post M
def w_X4_refuseLast (th : Nat) (M : pm_M) (Post : pm_M → Prop) : Prop := ((¬ (mI M th 2) = 0 → w_X4_refuseLast_13 Post M) ∧ ((mI M th 2) = 0 → (∀ M_2 : pm_M, M_2 = sI M th 2 (-4 : Int32) → w_X4_refuseLast_13 Post M_2)))
set_option maxHeartbeats 4000000 in
set_option maxRecDepth 100000 in
theorem c_X4_refuseLast_13 {p : Program} {l : Launch} {e : Env} {s : State} {m : MethodId} {args : Array Value} {below : List Frame} {meth : Method} {c : Code} {G : pm_G} {H0 : Heap} {M0 : pm_M} {Post : pm_M → Prop} {M : pm_M} (E : pm_E G p s m args meth c cX4_refuseLast 1 RX4) (hret : meth.sig.returnType = none) {H : Heap} {locs : List Loc} {ls : Array Slot} (hX : pm_X M0 M) (hI : pm_I G H0 M H locs) (hl : lv_has ls 1 []) (hw : w_X4_refuseLast_13 Post M) : W p l e rm_X4_refuseLast s m args below meth c H locs 0 0 (pm_Z G H0 M0 (pm_Pv Post) below args s rm_X4_refuseLast.cells rm_X4_refuseLast.slots) (F0 m 13 ls []) := by
  have hx := E.1
  have hb := E.2.1
  have hown := E.2.2.2.1
  have hts := E.2.2.2.2.1
  unfold w_X4_refuseLast_13 at hw
  exact pm_vret E hret hI hX ⟨rfl, hw⟩ (by decide) (by decide) dX4_refuseLast_13
set_option maxHeartbeats 4000000 in
set_option maxRecDepth 100000 in
theorem k_X4_refuseLast {l : Launch} {G : pm_G} {H0 : Heap} {th : Nat} {M : pm_M} {Post : pm_M → Prop} (t_th : pm_is M th 3) (hw : w_X4_refuseLast th M Post) : pm_C l G H0 yX4_refuseLast cX4_refuseLast 1 none rm_X4_refuseLast [.ref (H0.size + th)] M (pm_Pv Post) := by
  refine pm_start (by decide +kernel) (Nat.le_of_ble_eq_true rfl) ?_
  intro p e s m args below meth c H ls E hret hnm hI hl
  have hX : pm_X M M := pm_X.rf
  have hl : lv_has ls 1 [(0, .ref (H0.size + th))] := hl
  have hx := E.1
  have hb := E.2.1
  have hown := E.2.2.2.1
  have hts := E.2.2.2.2.1
  unfold w_X4_refuseLast at hw
  refine lv_aload_n hx hb dX4_refuseLast_0 rfl (lv_at hl 0 rfl) ?_
  refine gf_X4_19 E hI t_th dX4_refuseLast_1 ?_
  refine lv_if_ne (tgt := 13) hx hb dX4_refuseLast_4 (by decide) (fun h_1 => ?_) (fun h_1 => ?_)
  · replace hw := hw.1 h_1
    exact c_X4_refuseLast_13 E hret hX hI (lv_sub hl [] rfl) hw
  · replace hw := hw.2 h_1
    refine lv_aload_n hx hb dX4_refuseLast_7 rfl (lv_at hl 0 rfl) ?_
    refine lv_bipush (v := (-4 : Int32)) hx hb dX4_refuseLast_8 (by decide) ?_
    refine pf_X4_19 E hI t_th dX4_refuseLast_10 (fun H locs M_2 e_M_2 hX1 hI => ?_)
    replace hw := hw M_2 e_M_2
    replace t_th := t_th.x hX1
    replace hX := hX.tr hX1
    exact c_X4_refuseLast_13 E hret hX hI (lv_sub hl [] rfl) hw
abbrev rm_J9_min_7cf53 : Room := { frames := 0, cells := 0, slots := 0, locals := 0 }
def w_J9_min_7cf53_10 (Post : Int32 → Prop) (s0 : Int32) (M : pm_M) : Prop := Post s0
def w_J9_min_7cf53 (a0 : Int32) (a1 : Int32) (M : pm_M) (Post : Int32 → Prop) : Prop := ((a1 < a0 → w_J9_min_7cf53_10 Post a1 M) ∧ (¬ a1 < a0 → w_J9_min_7cf53_10 Post a0 M))
set_option maxHeartbeats 4000000 in
set_option maxRecDepth 100000 in
theorem c_J9_min_7cf53_10 {p : Program} {l : Launch} {e : Env} {s : State} {m : MethodId} {args : Array Value} {below : List Frame} {meth : Method} {c : Code} {G : pm_G} {H0 : Heap} {Post : Int32 → Prop} {s0 : Int32} {M : pm_M} (E : pm_E G p s m args meth c cJ9_min_7cf53 2 RJ9) (hret : meth.sig.returnType = (some .int)) {H : Heap} {locs : List Loc} {ls : Array Slot} (hI : pm_I G H0 M H locs) (hl : lv_has ls 2 []) (hw : w_J9_min_7cf53_10 Post s0 M) : W p l e rm_J9_min_7cf53 s m args below meth c H locs 0 0 (pm_Z G H0 M (pm_Pi (fun r9 M9 => M = M9 ∧ Post r9)) below args s rm_J9_min_7cf53.cells rm_J9_min_7cf53.slots) (F0 m 10 ls [.int s0]) := by
  have hx := E.1
  have hb := E.2.1
  have hown := E.2.2.2.1
  have hts := E.2.2.2.2.1
  unfold w_J9_min_7cf53_10 at hw
  exact pm_iret E hret hI pm_X.rf ⟨_, rfl, rfl, hw⟩ (by decide) (by decide) dJ9_min_7cf53_10
set_option maxHeartbeats 4000000 in
set_option maxRecDepth 100000 in
theorem k_J9_min_7cf53 {l : Launch} {G : pm_G} {H0 : Heap} {a0 : Int32} {a1 : Int32} {M : pm_M} {Post : Int32 → Prop} (hw : w_J9_min_7cf53 a0 a1 M Post) : pm_C l G H0 yJ9_min_7cf53 cJ9_min_7cf53 2 (some .int) rm_J9_min_7cf53 [.int a0, .int a1] M (pm_Pi (fun r9 M9 => M = M9 ∧ Post r9)) := by
  refine pm_startF (by decide +kernel) (Nat.le_of_ble_eq_true rfl) ?_
  intro p e s m args below meth c H ls E hret hnm hI hl
  have hl : lv_has ls 2 [(0, .int a0), (1, .int a1)] := hl
  have hx := E.1
  have hb := E.2.1
  have hown := E.2.2.2.1
  have hts := E.2.2.2.2.1
  unfold w_J9_min_7cf53 at hw
  refine lv_iload_n hx hb dJ9_min_7cf53_0 rfl (lv_at hl 0 rfl) ?_
  refine lv_iload_n hx hb dJ9_min_7cf53_1 rfl (lv_at hl 1 rfl) ?_
  refine lv_icmp_gt (tgt := 9) hx hb dJ9_min_7cf53_2 (by decide) (fun h_1 => ?_) (fun h_1 => ?_)
  · replace hw := hw.1 h_1
    refine lv_iload_n hx hb dJ9_min_7cf53_9 rfl (lv_at hl 1 rfl) ?_
    exact c_J9_min_7cf53_10 E hret hI (lv_sub hl [] rfl) hw
  · replace hw := hw.2 h_1
    refine lv_iload_n hx hb dJ9_min_7cf53_5 rfl (lv_at hl 0 rfl) ?_
    refine lv_goto (tgt := 10) hx hb dJ9_min_7cf53_6 (by decide) ?_
    exact c_J9_min_7cf53_10 E hret hI (lv_sub hl [] rfl) hw
abbrev rm_X5_permits : Room := { frames := 1, cells := 0, slots := 0, locals := 21 }
def w_X5_permits_17 (Post : Int32 → Prop) (s0 : Int32) (M : pm_M) : Prop := ((s0 = 0 ∨ s0 = 1) ∧ Post s0)
def w_X5_permits (th : Nat) (a1 : Int32) (M : pm_M) (Post : Int32 → Prop) : Prop := w_X5_rankOf th a1 M (fun r_1 => w_J6_bitCount_0f7a4 a1 M (fun r_2 => ((¬ r_1 = r_2 → w_X5_permits_17 Post (0 : Int32) M) ∧ (r_1 = r_2 → w_X5_permits_17 Post (1 : Int32) M))))
set_option maxHeartbeats 4000000 in
set_option maxRecDepth 100000 in
theorem c_X5_permits_17 {p : Program} {l : Launch} {e : Env} {s : State} {m : MethodId} {args : Array Value} {below : List Frame} {meth : Method} {c : Code} {G : pm_G} {H0 : Heap} {Post : Int32 → Prop} {s0 : Int32} {M : pm_M} (E : pm_E G p s m args meth c cX5_permits 2 RX5) (hret : meth.sig.returnType = (some .boolean)) {H : Heap} {locs : List Loc} {ls : Array Slot} (hI : pm_I G H0 M H locs) (hl : lv_has ls 2 []) (hw : w_X5_permits_17 Post s0 M) : W p l e rm_X5_permits s m args below meth c H locs 0 0 (pm_Z G H0 M (pm_Pi (fun r9 M9 => M = M9 ∧ Post r9)) below args s rm_X5_permits.cells rm_X5_permits.slots) (F0 m 17 ls [.int s0]) := by
  have hx := E.1
  have hb := E.2.1
  have hown := E.2.2.2.1
  have hts := E.2.2.2.2.1
  unfold w_X5_permits_17 at hw
  exact pm_zret E hret hI pm_X.rf (pm_nb hw.1) ⟨_, rfl, rfl, hw.2⟩ (by decide) (by decide) dX5_permits_17
set_option maxHeartbeats 4000000 in
set_option maxRecDepth 100000 in
theorem k_X5_permits {l : Launch} {G : pm_G} {H0 : Heap} {th : Nat} {a1 : Int32} {M : pm_M} {Post : Int32 → Prop} (t_th : pm_is M th 4) (hw : w_X5_permits th a1 M Post) : pm_C l G H0 yX5_permits cX5_permits 2 (some .boolean) rm_X5_permits [.ref (H0.size + th), .int a1] M (pm_Pi (fun r9 M9 => M = M9 ∧ Post r9)) := by
  refine pm_start (by decide +kernel) (Nat.le_of_ble_eq_true rfl) ?_
  intro p e s m args below meth c H ls E hret hnm hI hl
  have hl : lv_has ls 2 [(0, .ref (H0.size + th)), (1, .int a1)] := hl
  have hx := E.1
  have hb := E.2.1
  have hown := E.2.2.2.1
  have hts := E.2.2.2.2.1
  unfold w_X5_permits at hw
  refine lv_aload_n hx hb dX5_permits_0 rfl (lv_at hl 0 rfl) ?_
  refine lv_iload_n hx hb dX5_permits_1 rfl (lv_at hl 1 rfl) ?_
  refine pm_callV (As := [.int a1]) (rest := []) 1 E hI (k_X5_rankOf t_th hw) t_th (by decide) rfl kc_X5_rankOf kl_X5_23 km_X5_rankOf ks_X5_rankOf ki_X5 (by decide +kernel) ⟨by decide, by decide⟩ rfl hl.1 rfl (by first | exact Nat.le_of_ble_eq_true rfl | simp [pm_rf_cat, Value.category]) dX5_permits_2 ⟨by decide, by decide⟩ (fun r9 M9 H locs hp hX1 hI => ?_)
  obtain ⟨r_1, rfl, rfl, hw⟩ := hp
  refine pm_nrm (cells' := 0) (slots' := 0) (g2 := F0 m 5 ls [.int r_1]) rfl rfl rfl ?_
  refine lv_iload_n hx hb dX5_permits_5 rfl (lv_at hl 1 rfl) ?_
  refine pm_callS (As := [.int a1]) (rest := [.int r_1]) 1 E hI (k_J6_bitCount_0f7a4 hw) kc_J6_bitCount_0f7a4 kl_X5_17 kt_J6_bitCount_0f7a4 ki_J6 (by decide +kernel) ⟨by decide, by decide⟩ rfl hl.1 rfl (by first | exact Nat.le_of_ble_eq_true rfl | simp [pm_rf_cat, Value.category]) dX5_permits_6 ⟨by decide, by decide⟩ (fun r9 M9 H locs hp hX1 hI => ?_)
  obtain ⟨r_2, rfl, rfl, hw⟩ := hp
  refine pm_nrm (cells' := 0) (slots' := 0) (g2 := F0 m 9 ls [.int r_2, .int r_1]) rfl rfl rfl ?_
  refine lv_icmp_ne (tgt := 16) hx hb dX5_permits_9 (by decide) (fun h_3 => ?_) (fun h_3 => ?_)
  · replace hw := hw.1 h_3
    refine lv_iconst (v := (0 : Int32)) hx hb dX5_permits_16 (by decide) ?_
    exact c_X5_permits_17 E hret hI (lv_sub hl [] rfl) hw
  · replace hw := hw.2 h_3
    refine lv_iconst (v := (1 : Int32)) hx hb dX5_permits_12 (by decide) ?_
    refine lv_goto (tgt := 17) hx hb dX5_permits_13 (by decide) ?_
    exact c_X5_permits_17 E hret hI (lv_sub hl [] rfl) hw
abbrev rm_X5_permitsEachAlone : Room := { frames := 2, cells := 0, slots := 0, locals := 42 }
def w_X5_permitsEachAlone_2 (Post : Int32 → Prop) (v0 : Nat) (v1 : Int32) (M : pm_M) : Nat → Int32 → Prop
  | 0, _ => False
  | n + 1, v2 => ((v1 ≤ v2 → Post (1 : Int32)) ∧ (¬ v1 ≤ v2 → w_X5_permits v0 ((1 : Int32) <<< (v2 &&& 31)) M (fun r_2 => ((¬ r_2 = 0 → (∀ x_4 : Int32, x_4 = v2 + (1 : Int32) → (w_X5_permitsEachAlone_2 Post v0 v1 M n) x_4)) ∧ (r_2 = 0 → Post (0 : Int32))))))
def w_X5_permitsEachAlone (th : Nat) (a1 : Int32) (M : pm_M) (Post : Int32 → Prop) : Prop := (∃ n_2 : Nat, w_X5_permitsEachAlone_2 Post th a1 M n_2 (0 : Int32))
set_option maxHeartbeats 4000000 in
set_option maxRecDepth 100000 in
theorem c_X5_permitsEachAlone_2 {p : Program} {l : Launch} {e : Env} {s : State} {m : MethodId} {args : Array Value} {below : List Frame} {meth : Method} {c : Code} {G : pm_G} {H0 : Heap} {Post : Int32 → Prop} {v0 : Nat} {v1 : Int32} {M : pm_M} (E : pm_E G p s m args meth c cX5_permitsEachAlone 3 RX5) (hret : meth.sig.returnType = (some .boolean)) : ∀ (n : Nat) (v2 : Int32) (H : Heap) (locs : List Loc) (ls : Array Slot), pm_I G H0 M H locs → (pm_is M v0 4) → lv_has ls 3 [(0, .ref (H0.size + v0)), (1, .int v1), (2, .int v2)] → w_X5_permitsEachAlone_2 Post v0 v1 M n v2 → W p l e rm_X5_permitsEachAlone s m args below meth c H locs 0 0 (pm_Z G H0 M (pm_Pi (fun r9 M9 => M = M9 ∧ Post r9)) below args s rm_X5_permitsEachAlone.cells rm_X5_permitsEachAlone.slots) (F0 m 2 ls []) := by
  have hx := E.1
  have hb := E.2.1
  have hown := E.2.2.2.1
  have hts := E.2.2.2.2.1
  intro n
  induction n with
  | zero =>
    intro v2 H locs ls hI t_v0 hl hw
    unfold w_X5_permitsEachAlone_2 at hw
    exact hw.elim
  | succ n ih =>
    intro v2 H locs ls hI t_v0 hl hw
    unfold w_X5_permitsEachAlone_2 at hw
    refine lv_iload_n hx hb dX5_permitsEachAlone_2 rfl (lv_at hl 2 rfl) ?_
    refine lv_iload_n hx hb dX5_permitsEachAlone_3 rfl (lv_at hl 1 rfl) ?_
    refine lv_icmp_ge (tgt := 25) hx hb dX5_permitsEachAlone_4 (by decide) (fun h_1 => ?_) (fun h_1 => ?_)
    · replace hw := hw.1 h_1
      refine lv_iconst (v := (1 : Int32)) hx hb dX5_permitsEachAlone_25 (by decide) ?_
      exact pm_zret E hret hI pm_X.rf rfl ⟨_, rfl, rfl, hw⟩ (by decide) (by decide) dX5_permitsEachAlone_26
    · replace hw := hw.2 h_1
      refine lv_aload_n hx hb dX5_permitsEachAlone_7 rfl (lv_at hl 0 rfl) ?_
      refine lv_iconst (v := (1 : Int32)) hx hb dX5_permitsEachAlone_8 (by decide) ?_
      refine lv_iload_n hx hb dX5_permitsEachAlone_9 rfl (lv_at hl 2 rfl) ?_
      refine lv_ishl hx hb dX5_permitsEachAlone_10 ?_
      refine pm_callV (As := [.int ((1 : Int32) <<< (v2 &&& 31))]) (rest := []) 1 E hI (k_X5_permits t_v0 hw) t_v0 (by decide) rfl kc_X5_permits kl_X5_41 km_X5_permits ks_X5_permits ki_X5 (by decide +kernel) ⟨by decide, by decide⟩ rfl hl.1 rfl (by first | exact Nat.le_of_ble_eq_true rfl | simp [pm_rf_cat, Value.category]) dX5_permitsEachAlone_11 ⟨by decide, by decide⟩ (fun r9 M9 H locs hp hX1 hI => ?_)
      obtain ⟨r_2, rfl, rfl, hw⟩ := hp
      refine pm_nrm (cells' := 0) (slots' := 0) (g2 := F0 m 14 ls [.int r_2]) rfl rfl rfl ?_
      refine lv_if_ne (tgt := 19) hx hb dX5_permitsEachAlone_14 (by decide) (fun h_3 => ?_) (fun h_3 => ?_)
      · replace hw := hw.1 h_3
        obtain ⟨x_4, e_x_4⟩ : ∃ z : Int32, z = v2 + (1 : Int32) := ⟨_, rfl⟩
        refine lv_iinc (v := x_4) (lv' := [(2, .int x_4), (0, .ref (H0.size + v0)), (1, .int v1)]) hx hb dX5_permitsEachAlone_19 hl (k := 2) rfl (by rw [e_x_4]; rfl) (by decide) rfl (fun ls hl_5 => ?_)
        replace hw := hw x_4 e_x_4
        refine lv_goto (tgt := 2) hx hb dX5_permitsEachAlone_22 (by decide) ?_
        exact ih _ _ _ _ hI t_v0 (lv_sub hl_5 [1, 2, 0] rfl) hw
      · replace hw := hw.2 h_3
        refine lv_iconst (v := (0 : Int32)) hx hb dX5_permitsEachAlone_17 (by decide) ?_
        exact pm_zret E hret hI pm_X.rf rfl ⟨_, rfl, rfl, hw⟩ (by decide) (by decide) dX5_permitsEachAlone_18
set_option maxHeartbeats 4000000 in
set_option maxRecDepth 100000 in
theorem k_X5_permitsEachAlone {l : Launch} {G : pm_G} {H0 : Heap} {th : Nat} {a1 : Int32} {M : pm_M} {Post : Int32 → Prop} (t_th : pm_is M th 4) (hw : w_X5_permitsEachAlone th a1 M Post) : pm_C l G H0 yX5_permitsEachAlone cX5_permitsEachAlone 3 (some .boolean) rm_X5_permitsEachAlone [.ref (H0.size + th), .int a1] M (pm_Pi (fun r9 M9 => M = M9 ∧ Post r9)) := by
  refine pm_start (by decide +kernel) (Nat.le_of_ble_eq_true rfl) ?_
  intro p e s m args below meth c H ls E hret hnm hI hl
  have hl : lv_has ls 3 [(0, .ref (H0.size + th)), (1, .int a1)] := hl
  have hx := E.1
  have hb := E.2.1
  have hown := E.2.2.2.1
  have hts := E.2.2.2.2.1
  unfold w_X5_permitsEachAlone at hw
  refine lv_iconst (v := (0 : Int32)) hx hb dX5_permitsEachAlone_0 (by decide) ?_
  refine lv_istore_n (lv' := [(2, .int (0 : Int32)), (0, .ref (H0.size + th)), (1, .int a1)]) hx hb dX5_permitsEachAlone_1 rfl hl (by decide) rfl (fun ls hl_1 => ?_)
  obtain ⟨n_2, hw⟩ := hw
  exact c_X5_permitsEachAlone_2 E hret n_2 _ _ _ _ hI t_th (lv_sub hl_1 [1, 2, 0] rfl) hw
abbrev rm_X5_allowedSets : Room := { frames := 2, cells := 0, slots := 0, locals := 42 }
def w_X5_allowedSets_20 (Post : Int32 → Prop) (k_4 : Int32 → Int32 → Prop) (v0 : Nat) (v1 : Int32) (v2 : Int32) (v3 : Int32) (M : pm_M) : Prop := (∀ x_1 : Int32, x_1 = v3 + (1 : Int32) → k_4 v2 x_1)
def w_X5_allowedSets_4 (Post : Int32 → Prop) (v0 : Nat) (v1 : Int32) (M : pm_M) : Nat → Int32 → Int32 → Prop
  | 0, _, _ => False
  | n + 1, v2, v3 => ((v1 < v3 → Post v2) ∧ (¬ v1 < v3 → w_X5_permits v0 v3 M (fun r_2 => ((r_2 = 0 → w_X5_allowedSets_20 Post (w_X5_allowedSets_4 Post v0 v1 M n) v0 v1 v2 v3 M) ∧ (¬ r_2 = 0 → (∀ x_4 : Int32, x_4 = v2 + (1 : Int32) → w_X5_allowedSets_20 Post (w_X5_allowedSets_4 Post v0 v1 M n) v0 v1 x_4 v3 M))))))
def w_X5_allowedSets (th : Nat) (a1 : Int32) (M : pm_M) (Post : Int32 → Prop) : Prop := (∃ n_3 : Nat, w_X5_allowedSets_4 Post th a1 M n_3 (0 : Int32) (0 : Int32))
set_option maxHeartbeats 4000000 in
set_option maxRecDepth 100000 in
theorem c_X5_allowedSets_20 {p : Program} {l : Launch} {e : Env} {s : State} {m : MethodId} {args : Array Value} {below : List Frame} {meth : Method} {c : Code} {G : pm_G} {H0 : Heap} {Post : Int32 → Prop} {v0 : Nat} {v1 : Int32} {v2 : Int32} {v3 : Int32} {M : pm_M} {k_4 : Int32 → Int32 → Prop} (E : pm_E G p s m args meth c cX5_allowedSets 4 RX5) (hret : meth.sig.returnType = (some .int)) (hk_4 : ∀ (v2 : Int32) (v3 : Int32) (H : Heap) (locs : List Loc) (ls : Array Slot), pm_I G H0 M H locs → (pm_is M v0 4) → lv_has ls 4 [(0, .ref (H0.size + v0)), (1, .int v1), (2, .int v2), (3, .int v3)] → k_4 v2 v3 → W p l e rm_X5_allowedSets s m args below meth c H locs 0 0 (pm_Z G H0 M (pm_Pi (fun r9 M9 => M = M9 ∧ Post r9)) below args s rm_X5_allowedSets.cells rm_X5_allowedSets.slots) (F0 m 4 ls [])) {H : Heap} {locs : List Loc} {ls : Array Slot} (hI : pm_I G H0 M H locs) (t_v0 : pm_is M v0 4) (hl : lv_has ls 4 [(0, .ref (H0.size + v0)), (1, .int v1), (2, .int v2), (3, .int v3)]) (hw : w_X5_allowedSets_20 Post k_4 v0 v1 v2 v3 M) : W p l e rm_X5_allowedSets s m args below meth c H locs 0 0 (pm_Z G H0 M (pm_Pi (fun r9 M9 => M = M9 ∧ Post r9)) below args s rm_X5_allowedSets.cells rm_X5_allowedSets.slots) (F0 m 20 ls []) := by
  have hx := E.1
  have hb := E.2.1
  have hown := E.2.2.2.1
  have hts := E.2.2.2.2.1
  unfold w_X5_allowedSets_20 at hw
  obtain ⟨x_1, e_x_1⟩ : ∃ z : Int32, z = v3 + (1 : Int32) := ⟨_, rfl⟩
  refine lv_iinc (v := x_1) (lv' := [(3, .int x_1), (0, .ref (H0.size + v0)), (1, .int v1), (2, .int v2)]) hx hb dX5_allowedSets_20 hl (k := 3) rfl (by rw [e_x_1]; rfl) (by decide) rfl (fun ls hl_2 => ?_)
  replace hw := hw x_1 e_x_1
  refine lv_goto (tgt := 4) hx hb dX5_allowedSets_23 (by decide) ?_
  exact hk_4 _ _ _ _ _ hI t_v0 (lv_sub hl_2 [1, 2, 3, 0] rfl) hw
set_option maxHeartbeats 4000000 in
set_option maxRecDepth 100000 in
theorem c_X5_allowedSets_4 {p : Program} {l : Launch} {e : Env} {s : State} {m : MethodId} {args : Array Value} {below : List Frame} {meth : Method} {c : Code} {G : pm_G} {H0 : Heap} {Post : Int32 → Prop} {v0 : Nat} {v1 : Int32} {M : pm_M} (E : pm_E G p s m args meth c cX5_allowedSets 4 RX5) (hret : meth.sig.returnType = (some .int)) : ∀ (n : Nat) (v2 : Int32) (v3 : Int32) (H : Heap) (locs : List Loc) (ls : Array Slot), pm_I G H0 M H locs → (pm_is M v0 4) → lv_has ls 4 [(0, .ref (H0.size + v0)), (1, .int v1), (2, .int v2), (3, .int v3)] → w_X5_allowedSets_4 Post v0 v1 M n v2 v3 → W p l e rm_X5_allowedSets s m args below meth c H locs 0 0 (pm_Z G H0 M (pm_Pi (fun r9 M9 => M = M9 ∧ Post r9)) below args s rm_X5_allowedSets.cells rm_X5_allowedSets.slots) (F0 m 4 ls []) := by
  have hx := E.1
  have hb := E.2.1
  have hown := E.2.2.2.1
  have hts := E.2.2.2.2.1
  intro n
  induction n with
  | zero =>
    intro v2 v3 H locs ls hI t_v0 hl hw
    unfold w_X5_allowedSets_4 at hw
    exact hw.elim
  | succ n ih =>
    intro v2 v3 H locs ls hI t_v0 hl hw
    unfold w_X5_allowedSets_4 at hw
    refine lv_iload_n hx hb dX5_allowedSets_4 rfl (lv_at hl 3 rfl) ?_
    refine lv_iload_n hx hb dX5_allowedSets_5 rfl (lv_at hl 1 rfl) ?_
    refine lv_icmp_gt (tgt := 26) hx hb dX5_allowedSets_6 (by decide) (fun h_1 => ?_) (fun h_1 => ?_)
    · replace hw := hw.1 h_1
      refine lv_iload_n hx hb dX5_allowedSets_26 rfl (lv_at hl 2 rfl) ?_
      exact pm_iret E hret hI pm_X.rf ⟨_, rfl, rfl, hw⟩ (by decide) (by decide) dX5_allowedSets_27
    · replace hw := hw.2 h_1
      refine lv_aload_n hx hb dX5_allowedSets_9 rfl (lv_at hl 0 rfl) ?_
      refine lv_iload_n hx hb dX5_allowedSets_10 rfl (lv_at hl 3 rfl) ?_
      refine pm_callV (As := [.int v3]) (rest := []) 1 E hI (k_X5_permits t_v0 hw) t_v0 (by decide) rfl kc_X5_permits kl_X5_41 km_X5_permits ks_X5_permits ki_X5 (by decide +kernel) ⟨by decide, by decide⟩ rfl hl.1 rfl (by first | exact Nat.le_of_ble_eq_true rfl | simp [pm_rf_cat, Value.category]) dX5_allowedSets_11 ⟨by decide, by decide⟩ (fun r9 M9 H locs hp hX1 hI => ?_)
      obtain ⟨r_2, rfl, rfl, hw⟩ := hp
      refine pm_nrm (cells' := 0) (slots' := 0) (g2 := F0 m 14 ls [.int r_2]) rfl rfl rfl ?_
      refine lv_if_eq (tgt := 20) hx hb dX5_allowedSets_14 (by decide) (fun h_3 => ?_) (fun h_3 => ?_)
      · replace hw := hw.1 h_3
        exact c_X5_allowedSets_20 E hret ih hI t_v0 (lv_sub hl [0, 1, 2, 3] rfl) hw
      · replace hw := hw.2 h_3
        obtain ⟨x_4, e_x_4⟩ : ∃ z : Int32, z = v2 + (1 : Int32) := ⟨_, rfl⟩
        refine lv_iinc (v := x_4) (lv' := [(2, .int x_4), (0, .ref (H0.size + v0)), (1, .int v1), (3, .int v3)]) hx hb dX5_allowedSets_17 hl (k := 2) rfl (by rw [e_x_4]; rfl) (by decide) rfl (fun ls hl_5 => ?_)
        replace hw := hw x_4 e_x_4
        exact c_X5_allowedSets_20 E hret ih hI t_v0 (lv_sub hl_5 [1, 2, 0, 3] rfl) hw
set_option maxHeartbeats 4000000 in
set_option maxRecDepth 100000 in
theorem k_X5_allowedSets {l : Launch} {G : pm_G} {H0 : Heap} {th : Nat} {a1 : Int32} {M : pm_M} {Post : Int32 → Prop} (t_th : pm_is M th 4) (hw : w_X5_allowedSets th a1 M Post) : pm_C l G H0 yX5_allowedSets cX5_allowedSets 4 (some .int) rm_X5_allowedSets [.ref (H0.size + th), .int a1] M (pm_Pi (fun r9 M9 => M = M9 ∧ Post r9)) := by
  refine pm_start (by decide +kernel) (Nat.le_of_ble_eq_true rfl) ?_
  intro p e s m args below meth c H ls E hret hnm hI hl
  have hl : lv_has ls 4 [(0, .ref (H0.size + th)), (1, .int a1)] := hl
  have hx := E.1
  have hb := E.2.1
  have hown := E.2.2.2.1
  have hts := E.2.2.2.2.1
  unfold w_X5_allowedSets at hw
  refine lv_iconst (v := (0 : Int32)) hx hb dX5_allowedSets_0 (by decide) ?_
  refine lv_istore_n (lv' := [(2, .int (0 : Int32)), (0, .ref (H0.size + th)), (1, .int a1)]) hx hb dX5_allowedSets_1 rfl hl (by decide) rfl (fun ls hl_1 => ?_)
  refine lv_iconst (v := (0 : Int32)) hx hb dX5_allowedSets_2 (by decide) ?_
  refine lv_istore_n (lv' := [(3, .int (0 : Int32)), (2, .int (0 : Int32)), (0, .ref (H0.size + th)), (1, .int a1)]) hx hb dX5_allowedSets_3 rfl hl_1 (by decide) rfl (fun ls hl_2 => ?_)
  obtain ⟨n_3, hw⟩ := hw
  exact c_X5_allowedSets_4 E hret n_3 _ _ _ _ _ hI t_th (lv_sub hl_2 [2, 3, 1, 0] rfl) hw
abbrev rm_X6_init : Room := { frames := 1, cells := 1, slots := 200, locals := 40 }
def w_X6_init (th : Nat) (M : pm_M) (Post : pm_M → Prop) : Prop := (∀ M_1 : pm_M, M_1 = sN M 12 200 → (∀ M_3 : pm_M, M_3 = sR M_1 th 0 (some (mZ M)) → (∀ M_4 : pm_M, M_4 = sI M_3 th 1 (-1 : Int32) → Post M_4)))
set_option maxHeartbeats 4000000 in
set_option maxRecDepth 100000 in
theorem k_X6_init {l : Launch} {G : pm_G} {H0 : Heap} {th : Nat} {M : pm_M} {Post : pm_M → Prop} (t_th : pm_is M th 5) (hw : w_X6_init th M Post) : pm_C l G H0 yX6_init cX6_init 1 none rm_X6_init [.ref (H0.size + th)] M (pm_Pv Post) := by
  refine pm_start (by decide +kernel) (Nat.le_of_ble_eq_true rfl) ?_
  intro p e s m args below meth c H ls E hret hnm hI hl
  have hX : pm_X M M := pm_X.rf
  have hl : lv_has ls 1 [(0, .ref (H0.size + th))] := hl
  have hx := E.1
  have hb := E.2.1
  have hown := E.2.2.2.1
  have hts := E.2.2.2.2.1
  unfold w_X6_init at hw
  refine lv_aload_n hx hb dX6_init_0 rfl (lv_at hl 0 rfl) ?_
  refine pm_objInit E hl.1 kl_X6_3 ko_init ko_code dX6_init_1 (by decide) (Nat.le_of_ble_eq_true rfl) ?_
  refine lv_aload_n hx hb dX6_init_4 rfl (lv_at hl 0 rfl) ?_
  refine lv_sipush (v := (200 : Int32)) hx hb dX6_init_5 (by decide) ?_
  refine newJ (N := 200) E hI (by decide) (by decide) (by decide) (by decide) (by decide) dX6_init_8 (fun H M_1 e_M_1 hX1 tn_2 hI => ?_)
  replace hw := hw M_1 e_M_1
  replace t_th := t_th.x hX1
  replace hX := hX.tr hX1
  refine pm_nrm (cells' := 1) (slots' := 200) (g2 := F0 m 10 ls [.ref (H0.size + (mZ M)), .ref (H0.size + th)]) rfl rfl rfl ?_
  refine pf_X6_9 E hI t_th dX6_init_10 hnm tn_2 (fun H locs M_3 e_M_3 hX1 hI => ?_)
  replace hw := hw M_3 e_M_3
  replace t_th := t_th.x hX1
  replace hX := hX.tr hX1
  refine lv_aload_n hx hb dX6_init_13 rfl (lv_at hl 0 rfl) ?_
  refine lv_iconst (v := (-1 : Int32)) hx hb dX6_init_14 (by decide) ?_
  refine pf_X6_15 E hI t_th dX6_init_15 (fun H locs M_4 e_M_4 hX1 hI => ?_)
  replace hw := hw M_4 e_M_4
  replace t_th := t_th.x hX1
  replace hX := hX.tr hX1
  exact pm_vret E hret hI hX ⟨rfl, hw⟩ (by decide) (by decide) dX6_init_18
abbrev rm_X6_hasRow : Room := { frames := 0, cells := 0, slots := 0, locals := 0 }
def w_X6_hasRow_13 (Post : Int32 → Prop) (s0 : Int32) (M : pm_M) : Prop := ((s0 = 0 ∨ s0 = 1) ∧ Post s0)
def w_X6_hasRow (th : Nat) (M : pm_M) (Post : Int32 → Prop) : Prop := (((mI M th 1) = (-1 : Int32) → w_X6_hasRow_13 Post (0 : Int32) M) ∧ (¬ (mI M th 1) = (-1 : Int32) → w_X6_hasRow_13 Post (1 : Int32) M))
set_option maxHeartbeats 4000000 in
set_option maxRecDepth 100000 in
theorem c_X6_hasRow_13 {p : Program} {l : Launch} {e : Env} {s : State} {m : MethodId} {args : Array Value} {below : List Frame} {meth : Method} {c : Code} {G : pm_G} {H0 : Heap} {Post : Int32 → Prop} {s0 : Int32} {M : pm_M} (E : pm_E G p s m args meth c cX6_hasRow 1 RX6) (hret : meth.sig.returnType = (some .boolean)) {H : Heap} {locs : List Loc} {ls : Array Slot} (hI : pm_I G H0 M H locs) (hl : lv_has ls 1 []) (hw : w_X6_hasRow_13 Post s0 M) : W p l e rm_X6_hasRow s m args below meth c H locs 0 0 (pm_Z G H0 M (pm_Pi (fun r9 M9 => M = M9 ∧ Post r9)) below args s rm_X6_hasRow.cells rm_X6_hasRow.slots) (F0 m 13 ls [.int s0]) := by
  have hx := E.1
  have hb := E.2.1
  have hown := E.2.2.2.1
  have hts := E.2.2.2.2.1
  unfold w_X6_hasRow_13 at hw
  exact pm_zret E hret hI pm_X.rf (pm_nb hw.1) ⟨_, rfl, rfl, hw.2⟩ (by decide) (by decide) dX6_hasRow_13
set_option maxHeartbeats 4000000 in
set_option maxRecDepth 100000 in
theorem k_X6_hasRow {l : Launch} {G : pm_G} {H0 : Heap} {th : Nat} {M : pm_M} {Post : Int32 → Prop} (t_th : pm_is M th 5) (hw : w_X6_hasRow th M Post) : pm_C l G H0 yX6_hasRow cX6_hasRow 1 (some .boolean) rm_X6_hasRow [.ref (H0.size + th)] M (pm_Pi (fun r9 M9 => M = M9 ∧ Post r9)) := by
  refine pm_start (by decide +kernel) (Nat.le_of_ble_eq_true rfl) ?_
  intro p e s m args below meth c H ls E hret hnm hI hl
  have hl : lv_has ls 1 [(0, .ref (H0.size + th))] := hl
  have hx := E.1
  have hb := E.2.1
  have hown := E.2.2.2.1
  have hts := E.2.2.2.2.1
  unfold w_X6_hasRow at hw
  refine lv_aload_n hx hb dX6_hasRow_0 rfl (lv_at hl 0 rfl) ?_
  refine gf_X6_15 E hI t_th dX6_hasRow_1 ?_
  refine lv_iconst (v := (-1 : Int32)) hx hb dX6_hasRow_4 (by decide) ?_
  refine lv_icmp_eq (tgt := 12) hx hb dX6_hasRow_5 (by decide) (fun h_1 => ?_) (fun h_1 => ?_)
  · replace hw := hw.1 h_1
    refine lv_iconst (v := (0 : Int32)) hx hb dX6_hasRow_12 (by decide) ?_
    exact c_X6_hasRow_13 E hret hI (lv_sub hl [] rfl) hw
  · replace hw := hw.2 h_1
    refine lv_iconst (v := (1 : Int32)) hx hb dX6_hasRow_8 (by decide) ?_
    refine lv_goto (tgt := 13) hx hb dX6_hasRow_9 (by decide) ?_
    exact c_X6_hasRow_13 E hret hI (lv_sub hl [] rfl) hw
abbrev rm_X6_lay : Room := { frames := 1, cells := 0, slots := 0, locals := 21 }
def w_X6_lay_20 (Post : pm_M → Prop) (v0 : Nat) : Nat → Int32 → pm_M → Prop
  | 0, _, _ => False
  | n + 1, v3, M => (((mI M v0 2) ≤ v3 → Post M) ∧ (¬ (mI M v0 2) ≤ v3 → (∃ q_2 : Nat, mR M v0 0 = some q_2 ∧ (vp_in v3 (mN M q_2) ∧ ∀ M_4 : pm_M, M_4 = sL M q_2 v3.toNatClampNeg (0 : Int64) → (∀ x_5 : Int32, x_5 = v3 + (1 : Int32) → (w_X6_lay_20 Post v0 n) x_5 M_4)))))
def w_X6_lay (th : Nat) (a1 : Int32) (a2 : Int32) (M : pm_M) (Post : pm_M → Prop) : Prop := (∀ M_1 : pm_M, M_1 = sI M th 1 a1 → (∃ q_2 : Nat, mR M_1 th 0 = some q_2 ∧ w_J9_min_7cf53 a2 (nI (mN M_1 q_2)) M_1 (fun r_3 => (∀ M_4 : pm_M, M_4 = sI M_1 th 2 r_3 → (∃ n_6 : Nat, w_X6_lay_20 Post th n_6 (0 : Int32) M_4)))))
set_option maxHeartbeats 4000000 in
set_option maxRecDepth 100000 in
theorem c_X6_lay_20 {p : Program} {l : Launch} {e : Env} {s : State} {m : MethodId} {args : Array Value} {below : List Frame} {meth : Method} {c : Code} {G : pm_G} {H0 : Heap} {M0 : pm_M} {Post : pm_M → Prop} {v0 : Nat} (E : pm_E G p s m args meth c cX6_lay 4 RX6) (hret : meth.sig.returnType = none) : ∀ (n : Nat) (v3 : Int32) (M : pm_M) (H : Heap) (locs : List Loc) (ls : Array Slot), pm_X M0 M → pm_I G H0 M H locs → (pm_is M v0 5) → lv_has ls 4 [(0, .ref (H0.size + v0)), (3, .int v3)] → w_X6_lay_20 Post v0 n v3 M → W p l e rm_X6_lay s m args below meth c H locs 0 0 (pm_Z G H0 M0 (pm_Pv Post) below args s rm_X6_lay.cells rm_X6_lay.slots) (F0 m 20 ls []) := by
  have hx := E.1
  have hb := E.2.1
  have hown := E.2.2.2.1
  have hts := E.2.2.2.2.1
  intro n
  induction n with
  | zero =>
    intro v3 M H locs ls hX hI t_v0 hl hw
    unfold w_X6_lay_20 at hw
    exact hw.elim
  | succ n ih =>
    intro v3 M H locs ls hX hI t_v0 hl hw
    unfold w_X6_lay_20 at hw
    refine lv_iload_n hx hb dX6_lay_20 rfl (lv_at hl 1 rfl) ?_
    refine lv_aload_n hx hb dX6_lay_21 rfl (lv_at hl 0 rfl) ?_
    refine gf_X6_25 E hI t_v0 dX6_lay_22 ?_
    refine lv_icmp_ge (tgt := 41) hx hb dX6_lay_25 (by decide) (fun h_1 => ?_) (fun h_1 => ?_)
    · replace hw := hw.1 h_1
      exact pm_vret E hret hI hX ⟨rfl, hw⟩ (by decide) (by decide) dX6_lay_41
    · replace hw := hw.2 h_1
      refine lv_aload_n hx hb dX6_lay_28 rfl (lv_at hl 0 rfl) ?_
      obtain ⟨q_2, e_q_2, hw⟩ := hw
      refine gf_X6_9 E hI t_v0 dX6_lay_29 e_q_2 (fun t_q_2 => ?_)
      refine lv_iload_n hx hb dX6_lay_32 rfl (lv_at hl 1 rfl) ?_
      refine lv_lconst (v := (0 : Int64)) hx hb dX6_lay_33 (by decide) ?_
      obtain ⟨h_3, hw⟩ := hw
      refine ps_last E hI t_q_2 h_3 dX6_lay_34 (fun H locs M_4 e_M_4 hX1 hI => ?_)
      replace hw := hw M_4 e_M_4
      replace t_v0 := t_v0.x hX1
      replace hX := hX.tr hX1
      obtain ⟨x_5, e_x_5⟩ : ∃ z : Int32, z = v3 + (1 : Int32) := ⟨_, rfl⟩
      refine lv_iinc (v := x_5) (lv' := [(3, .int x_5), (0, .ref (H0.size + v0))]) hx hb dX6_lay_35 hl (k := 1) rfl (by rw [e_x_5]; rfl) (by decide) rfl (fun ls hl_6 => ?_)
      replace hw := hw x_5 e_x_5
      refine lv_goto (tgt := 20) hx hb dX6_lay_38 (by decide) ?_
      exact ih _ _ _ _ _ hX hI t_v0 (lv_sub hl_6 [1, 0] rfl) hw
set_option maxHeartbeats 4000000 in
set_option maxRecDepth 100000 in
theorem k_X6_lay {l : Launch} {G : pm_G} {H0 : Heap} {th : Nat} {a1 : Int32} {a2 : Int32} {M : pm_M} {Post : pm_M → Prop} (t_th : pm_is M th 5) (hw : w_X6_lay th a1 a2 M Post) : pm_C l G H0 yX6_lay cX6_lay 4 none rm_X6_lay [.ref (H0.size + th), .int a1, .int a2] M (pm_Pv Post) := by
  refine pm_start (by decide +kernel) (Nat.le_of_ble_eq_true rfl) ?_
  intro p e s m args below meth c H ls E hret hnm hI hl
  have hX : pm_X M M := pm_X.rf
  have hl : lv_has ls 4 [(0, .ref (H0.size + th)), (1, .int a1), (2, .int a2)] := hl
  have hx := E.1
  have hb := E.2.1
  have hown := E.2.2.2.1
  have hts := E.2.2.2.2.1
  unfold w_X6_lay at hw
  refine lv_aload_n hx hb dX6_lay_0 rfl (lv_at hl 0 rfl) ?_
  refine lv_iload_n hx hb dX6_lay_1 rfl (lv_at hl 1 rfl) ?_
  refine pf_X6_15 E hI t_th dX6_lay_2 (fun H locs M_1 e_M_1 hX1 hI => ?_)
  replace hw := hw M_1 e_M_1
  replace t_th := t_th.x hX1
  replace hX := hX.tr hX1
  refine lv_aload_n hx hb dX6_lay_5 rfl (lv_at hl 0 rfl) ?_
  refine lv_iload_n hx hb dX6_lay_6 rfl (lv_at hl 2 rfl) ?_
  refine lv_aload_n hx hb dX6_lay_7 rfl (lv_at hl 0 rfl) ?_
  obtain ⟨q_2, e_q_2, hw⟩ := hw
  refine gf_X6_9 E hI t_th dX6_lay_8 e_q_2 (fun t_q_2 => ?_)
  refine ps_alenJ E hI t_q_2 dX6_lay_11 ?_
  refine pm_callS (As := [.int a2, .int (nI (mN M_1 q_2))]) (rest := [.ref (H0.size + th)]) 2 E hI (k_J9_min_7cf53 hw) kc_J9_min_7cf53 kl_X6_19 kt_J9_min_7cf53 ki_J9 (by decide +kernel) ⟨by decide, by decide⟩ rfl hl.1 rfl (by first | exact Nat.le_of_ble_eq_true rfl | simp [pm_rf_cat, Value.category]) dX6_lay_12 ⟨by decide, by decide⟩ (fun r9 M9 H locs hp hX1 hI => ?_)
  obtain ⟨r_3, rfl, rfl, hw⟩ := hp
  refine pm_nrm (cells' := 0) (slots' := 0) (g2 := F0 m 15 ls [.int r_3, .ref (H0.size + th)]) rfl rfl rfl ?_
  refine pf_X6_25 E hI t_th dX6_lay_15 (fun H locs M_4 e_M_4 hX1 hI => ?_)
  replace hw := hw M_4 e_M_4
  replace t_th := t_th.x hX1
  replace hX := hX.tr hX1
  refine lv_iconst (v := (0 : Int32)) hx hb dX6_lay_18 (by decide) ?_
  refine lv_istore_n (lv' := [(3, .int (0 : Int32)), (0, .ref (H0.size + th)), (1, .int a1), (2, .int a2)]) hx hb dX6_lay_19 rfl hl (by decide) rfl (fun ls hl_5 => ?_)
  obtain ⟨n_6, hw⟩ := hw
  exact c_X6_lay_20 E hret n_6 _ _ _ _ _ hX hI t_th (lv_sub hl_5 [1, 0] rfl) hw
abbrev rm_X6_clear : Room := { frames := 0, cells := 0, slots := 0, locals := 0 }
def w_X6_clear (th : Nat) (M : pm_M) (Post : pm_M → Prop) : Prop := (∀ M_1 : pm_M, M_1 = sI M th 1 (-1 : Int32) → (∀ M_2 : pm_M, M_2 = sI M_1 th 2 (0 : Int32) → Post M_2))
set_option maxHeartbeats 4000000 in
set_option maxRecDepth 100000 in
theorem k_X6_clear {l : Launch} {G : pm_G} {H0 : Heap} {th : Nat} {M : pm_M} {Post : pm_M → Prop} (t_th : pm_is M th 5) (hw : w_X6_clear th M Post) : pm_C l G H0 yX6_clear cX6_clear 1 none rm_X6_clear [.ref (H0.size + th)] M (pm_Pv Post) := by
  refine pm_start (by decide +kernel) (Nat.le_of_ble_eq_true rfl) ?_
  intro p e s m args below meth c H ls E hret hnm hI hl
  have hX : pm_X M M := pm_X.rf
  have hl : lv_has ls 1 [(0, .ref (H0.size + th))] := hl
  have hx := E.1
  have hb := E.2.1
  have hown := E.2.2.2.1
  have hts := E.2.2.2.2.1
  unfold w_X6_clear at hw
  refine lv_aload_n hx hb dX6_clear_0 rfl (lv_at hl 0 rfl) ?_
  refine lv_iconst (v := (-1 : Int32)) hx hb dX6_clear_1 (by decide) ?_
  refine pf_X6_15 E hI t_th dX6_clear_2 (fun H locs M_1 e_M_1 hX1 hI => ?_)
  replace hw := hw M_1 e_M_1
  replace t_th := t_th.x hX1
  replace hX := hX.tr hX1
  refine lv_aload_n hx hb dX6_clear_5 rfl (lv_at hl 0 rfl) ?_
  refine lv_iconst (v := (0 : Int32)) hx hb dX6_clear_6 (by decide) ?_
  refine pf_X6_25 E hI t_th dX6_clear_7 (fun H locs M_2 e_M_2 hX1 hI => ?_)
  replace hw := hw M_2 e_M_2
  replace t_th := t_th.x hX1
  replace hX := hX.tr hX1
  exact pm_vret E hret hI hX ⟨rfl, hw⟩ (by decide) (by decide) dX6_clear_10
abbrev rm_X6_cut : Room := { frames := 0, cells := 0, slots := 0, locals := 0 }
def w_X6_cut (th : Nat) (a1 : Int64) (M : pm_M) (Post : Int64 → Prop) : Prop := (((mI M th 1) = 0 → Post a1.toInt32.toInt8.toInt32.toInt64) ∧ ((mI M th 1) = 1 → Post a1.toInt32.toInt16.toInt32.toInt64) ∧ ((mI M th 1) = 2 → Post a1.toInt32.toInt64) ∧ ((∀ j : Nat, j < 3 → ¬ (mI M th 1) = nI (0 + j)) → Post a1))
set_option maxHeartbeats 4000000 in
set_option maxRecDepth 100000 in
theorem k_X6_cut {l : Launch} {G : pm_G} {H0 : Heap} {th : Nat} {a1 : Int64} {M : pm_M} {Post : Int64 → Prop} (t_th : pm_is M th 5) (hw : w_X6_cut th a1 M Post) : pm_C l G H0 yX6_cut cX6_cut 3 (some .long) rm_X6_cut [.ref (H0.size + th), .long a1] M (pm_Pl (fun r9 M9 => M = M9 ∧ Post r9)) := by
  refine pm_start (by decide +kernel) (Nat.le_of_ble_eq_true rfl) ?_
  intro p e s m args below meth c H ls E hret hnm hI hl
  have hl : lv_has ls 3 [(0, .ref (H0.size + th)), (1, .long a1)] := hl
  have hx := E.1
  have hb := E.2.1
  have hown := E.2.2.2.1
  have hts := E.2.2.2.2.1
  unfold w_X6_cut at hw
  refine lv_aload_n hx hb dX6_cut_0 rfl (lv_at hl 0 rfl) ?_
  refine gf_X6_15 E hI t_th dX6_cut_1 ?_
  refine pm_cases (x := (mI M th 1)) 0 3 (fun j hj h9 => ?_) (fun h9 => ?_)
  · match j, hj, h9 with
    | 0, hj, h9 =>
      refine lv_tableIn (tgt := 32) hx hb dX6_cut_4 (by rw [h9]; decide) (by rw [h9]; decide) (by rw [h9]; rfl) (by decide) ?_
      replace hw := hw.1 h9
      refine lv_lload_n hx hb dX6_cut_32 rfl (lv_at hl 1 rfl) ?_
      refine lv_l2i hx hb dX6_cut_33 rfl ?_
      refine lv_i2b hx hb dX6_cut_34 rfl ?_
      refine lv_i2l hx hb dX6_cut_35 rfl ?_
      exact pm_lret E hret hI pm_X.rf ⟨_, rfl, rfl, hw⟩ (by decide) (by decide) dX6_cut_36
    | 1, hj, h9 =>
      refine lv_tableIn (tgt := 37) hx hb dX6_cut_4 (by rw [h9]; decide) (by rw [h9]; decide) (by rw [h9]; rfl) (by decide) ?_
      replace hw := hw.2.1 h9
      refine lv_lload_n hx hb dX6_cut_37 rfl (lv_at hl 1 rfl) ?_
      refine lv_l2i hx hb dX6_cut_38 rfl ?_
      refine lv_i2s hx hb dX6_cut_39 rfl ?_
      refine lv_i2l hx hb dX6_cut_40 rfl ?_
      exact pm_lret E hret hI pm_X.rf ⟨_, rfl, rfl, hw⟩ (by decide) (by decide) dX6_cut_41
    | 2, hj, h9 =>
      refine lv_tableIn (tgt := 42) hx hb dX6_cut_4 (by rw [h9]; decide) (by rw [h9]; decide) (by rw [h9]; rfl) (by decide) ?_
      replace hw := hw.2.2.1 h9
      refine lv_lload_n hx hb dX6_cut_42 rfl (lv_at hl 1 rfl) ?_
      refine lv_l2i hx hb dX6_cut_43 rfl ?_
      refine lv_i2l hx hb dX6_cut_44 rfl ?_
      exact pm_lret E hret hI pm_X.rf ⟨_, rfl, rfl, hw⟩ (by decide) (by decide) dX6_cut_45
    | (j + 3), hj, h9 => exact absurd hj (by omega)
  · refine lv_tableOut (tgt := 46) hx hb dX6_cut_4 (pm_out h9) (by decide) ?_
    replace hw := hw.2.2.2 h9
    refine lv_lload_n hx hb dX6_cut_46 rfl (lv_at hl 1 rfl) ?_
    exact pm_lret E hret hI pm_X.rf ⟨_, rfl, rfl, hw⟩ (by decide) (by decide) dX6_cut_47
abbrev rm_X6_put : Room := { frames := 1, cells := 0, slots := 0, locals := 22 }
def w_X6_put_23 (Post : pm_M → Prop) (M : pm_M) : Prop := Post M
def w_X6_put (th : Nat) (a1 : Int32) (a2 : Int64) (M : pm_M) (Post : pm_M → Prop) : Prop := ((a1 < 0 → w_X6_put_23 Post M) ∧ (¬ a1 < 0 → (((mI M th 2) ≤ a1 → w_X6_put_23 Post M) ∧ (¬ (mI M th 2) ≤ a1 → (∃ q_3 : Nat, mR M th 0 = some q_3 ∧ w_X6_cut th a2 M (fun r_4 => (vp_in a1 (mN M q_3) ∧ ∀ M_6 : pm_M, M_6 = sL M q_3 a1.toNatClampNeg r_4 → w_X6_put_23 Post M_6)))))))
set_option maxHeartbeats 4000000 in
set_option maxRecDepth 100000 in
theorem c_X6_put_23 {p : Program} {l : Launch} {e : Env} {s : State} {m : MethodId} {args : Array Value} {below : List Frame} {meth : Method} {c : Code} {G : pm_G} {H0 : Heap} {M0 : pm_M} {Post : pm_M → Prop} {M : pm_M} (E : pm_E G p s m args meth c cX6_put 4 RX6) (hret : meth.sig.returnType = none) {H : Heap} {locs : List Loc} {ls : Array Slot} (hX : pm_X M0 M) (hI : pm_I G H0 M H locs) (hl : lv_has ls 4 []) (hw : w_X6_put_23 Post M) : W p l e rm_X6_put s m args below meth c H locs 0 0 (pm_Z G H0 M0 (pm_Pv Post) below args s rm_X6_put.cells rm_X6_put.slots) (F0 m 23 ls []) := by
  have hx := E.1
  have hb := E.2.1
  have hown := E.2.2.2.1
  have hts := E.2.2.2.2.1
  unfold w_X6_put_23 at hw
  exact pm_vret E hret hI hX ⟨rfl, hw⟩ (by decide) (by decide) dX6_put_23
set_option maxHeartbeats 4000000 in
set_option maxRecDepth 100000 in
theorem k_X6_put {l : Launch} {G : pm_G} {H0 : Heap} {th : Nat} {a1 : Int32} {a2 : Int64} {M : pm_M} {Post : pm_M → Prop} (t_th : pm_is M th 5) (hw : w_X6_put th a1 a2 M Post) : pm_C l G H0 yX6_put cX6_put 4 none rm_X6_put [.ref (H0.size + th), .int a1, .long a2] M (pm_Pv Post) := by
  refine pm_start (by decide +kernel) (Nat.le_of_ble_eq_true rfl) ?_
  intro p e s m args below meth c H ls E hret hnm hI hl
  have hX : pm_X M M := pm_X.rf
  have hl : lv_has ls 4 [(0, .ref (H0.size + th)), (1, .int a1), (2, .long a2)] := hl
  have hx := E.1
  have hb := E.2.1
  have hown := E.2.2.2.1
  have hts := E.2.2.2.2.1
  unfold w_X6_put at hw
  refine lv_iload_n hx hb dX6_put_0 rfl (lv_at hl 1 rfl) ?_
  refine lv_if_lt (tgt := 23) hx hb dX6_put_1 (by decide) (fun h_1 => ?_) (fun h_1 => ?_)
  · replace hw := hw.1 h_1
    exact c_X6_put_23 E hret hX hI (lv_sub hl [] rfl) hw
  · replace hw := hw.2 h_1
    refine lv_iload_n hx hb dX6_put_4 rfl (lv_at hl 1 rfl) ?_
    refine lv_aload_n hx hb dX6_put_5 rfl (lv_at hl 0 rfl) ?_
    refine gf_X6_25 E hI t_th dX6_put_6 ?_
    refine lv_icmp_ge (tgt := 23) hx hb dX6_put_9 (by decide) (fun h_2 => ?_) (fun h_2 => ?_)
    · replace hw := hw.1 h_2
      exact c_X6_put_23 E hret hX hI (lv_sub hl [] rfl) hw
    · replace hw := hw.2 h_2
      refine lv_aload_n hx hb dX6_put_12 rfl (lv_at hl 0 rfl) ?_
      obtain ⟨q_3, e_q_3, hw⟩ := hw
      refine gf_X6_9 E hI t_th dX6_put_13 e_q_3 (fun t_q_3 => ?_)
      refine lv_iload_n hx hb dX6_put_16 rfl (lv_at hl 1 rfl) ?_
      refine lv_aload_n hx hb dX6_put_17 rfl (lv_at hl 0 rfl) ?_
      refine lv_lload_n hx hb dX6_put_18 rfl (lv_at hl 2 rfl) ?_
      refine pm_callV (As := [.long a2]) (rest := [.int a1, .ref (H0.size + q_3)]) 1 E hI (k_X6_cut t_th hw) t_th (by decide) rfl kc_X6_cut kl_X6_28 km_X6_cut ks_X6_cut ki_X6 (by decide +kernel) ⟨by decide, by decide⟩ rfl hl.1 rfl (by first | exact Nat.le_of_ble_eq_true rfl | simp [pm_rf_cat, Value.category]) dX6_put_19 ⟨by decide, by decide⟩ (fun r9 M9 H locs hp hX1 hI => ?_)
      obtain ⟨r_4, rfl, rfl, hw⟩ := hp
      refine pm_nrm (cells' := 0) (slots' := 0) (g2 := F0 m 22 ls [.long r_4, .int a1, .ref (H0.size + q_3)]) rfl rfl rfl ?_
      obtain ⟨h_5, hw⟩ := hw
      refine ps_last E hI t_q_3 h_5 dX6_put_22 (fun H locs M_6 e_M_6 hX1 hI => ?_)
      replace hw := hw M_6 e_M_6
      replace t_th := t_th.x hX1
      replace hX := hX.tr hX1
      exact c_X6_put_23 E hret hX hI (lv_sub hl [] rfl) hw
abbrev rm_J9_floorMod_7cf53 : Room := { frames := 0, cells := 0, slots := 0, locals := 0 }
def w_J9_floorMod_7cf53_18 (Post : Int32 → Prop) (v2 : Int32) (M : pm_M) : Prop := Post v2
def w_J9_floorMod_7cf53 (a0 : Int32) (a1 : Int32) (M : pm_M) (Post : Int32 → Prop) : Prop := (¬ a1 = 0 ∧ (∀ x_1 : Int32, x_1 = (a0 - a0 / a1 * a1) → ((0 ≤ (a0 ^^^ a1) → w_J9_floorMod_7cf53_18 Post x_1 M) ∧ (¬ 0 ≤ (a0 ^^^ a1) → ((x_1 = 0 → w_J9_floorMod_7cf53_18 Post x_1 M) ∧ (¬ x_1 = 0 → Post (x_1 + a1)))))))
set_option maxHeartbeats 4000000 in
set_option maxRecDepth 100000 in
theorem c_J9_floorMod_7cf53_18 {p : Program} {l : Launch} {e : Env} {s : State} {m : MethodId} {args : Array Value} {below : List Frame} {meth : Method} {c : Code} {G : pm_G} {H0 : Heap} {Post : Int32 → Prop} {v2 : Int32} {M : pm_M} (E : pm_E G p s m args meth c cJ9_floorMod_7cf53 3 RJ9) (hret : meth.sig.returnType = (some .int)) {H : Heap} {locs : List Loc} {ls : Array Slot} (hI : pm_I G H0 M H locs) (hl : lv_has ls 3 [(2, .int v2)]) (hw : w_J9_floorMod_7cf53_18 Post v2 M) : W p l e rm_J9_floorMod_7cf53 s m args below meth c H locs 0 0 (pm_Z G H0 M (pm_Pi (fun r9 M9 => M = M9 ∧ Post r9)) below args s rm_J9_floorMod_7cf53.cells rm_J9_floorMod_7cf53.slots) (F0 m 18 ls []) := by
  have hx := E.1
  have hb := E.2.1
  have hown := E.2.2.2.1
  have hts := E.2.2.2.2.1
  unfold w_J9_floorMod_7cf53_18 at hw
  refine lv_iload_n hx hb dJ9_floorMod_7cf53_18 rfl (lv_at hl 0 rfl) ?_
  exact pm_iret E hret hI pm_X.rf ⟨_, rfl, rfl, hw⟩ (by decide) (by decide) dJ9_floorMod_7cf53_19
set_option maxHeartbeats 4000000 in
set_option maxRecDepth 100000 in
theorem k_J9_floorMod_7cf53 {l : Launch} {G : pm_G} {H0 : Heap} {a0 : Int32} {a1 : Int32} {M : pm_M} {Post : Int32 → Prop} (hw : w_J9_floorMod_7cf53 a0 a1 M Post) : pm_C l G H0 yJ9_floorMod_7cf53 cJ9_floorMod_7cf53 3 (some .int) rm_J9_floorMod_7cf53 [.int a0, .int a1] M (pm_Pi (fun r9 M9 => M = M9 ∧ Post r9)) := by
  refine pm_startF (by decide +kernel) (Nat.le_of_ble_eq_true rfl) ?_
  intro p e s m args below meth c H ls E hret hnm hI hl
  have hl : lv_has ls 3 [(0, .int a0), (1, .int a1)] := hl
  have hx := E.1
  have hb := E.2.1
  have hown := E.2.2.2.1
  have hts := E.2.2.2.2.1
  unfold w_J9_floorMod_7cf53 at hw
  refine lv_iload_n hx hb dJ9_floorMod_7cf53_0 rfl (lv_at hl 0 rfl) ?_
  refine lv_iload_n hx hb dJ9_floorMod_7cf53_1 rfl (lv_at hl 1 rfl) ?_
  obtain ⟨h9, hw⟩ := hw
  refine lv_irem hx hb dJ9_floorMod_7cf53_2 h9 ?_
  refine lv_topi (fun x_1 e_x_1 => ?_)
  replace hw := hw x_1 e_x_1
  refine lv_istore_n (lv' := [(2, .int x_1), (0, .int a0), (1, .int a1)]) hx hb dJ9_floorMod_7cf53_3 rfl hl (by decide) rfl (fun ls hl_2 => ?_)
  refine lv_iload_n hx hb dJ9_floorMod_7cf53_4 rfl (lv_at hl_2 1 rfl) ?_
  refine lv_iload_n hx hb dJ9_floorMod_7cf53_5 rfl (lv_at hl_2 2 rfl) ?_
  refine lv_ixor hx hb dJ9_floorMod_7cf53_6 ?_
  refine lv_if_ge (tgt := 18) hx hb dJ9_floorMod_7cf53_7 (by decide) (fun h_3 => ?_) (fun h_3 => ?_)
  · replace hw := hw.1 h_3
    exact c_J9_floorMod_7cf53_18 E hret hI (lv_sub hl_2 [0] rfl) hw
  · replace hw := hw.2 h_3
    refine lv_iload_n hx hb dJ9_floorMod_7cf53_10 rfl (lv_at hl_2 0 rfl) ?_
    refine lv_if_eq (tgt := 18) hx hb dJ9_floorMod_7cf53_11 (by decide) (fun h_4 => ?_) (fun h_4 => ?_)
    · replace hw := hw.1 h_4
      exact c_J9_floorMod_7cf53_18 E hret hI (lv_sub hl_2 [0] rfl) hw
    · replace hw := hw.2 h_4
      refine lv_iload_n hx hb dJ9_floorMod_7cf53_14 rfl (lv_at hl_2 0 rfl) ?_
      refine lv_iload_n hx hb dJ9_floorMod_7cf53_15 rfl (lv_at hl_2 2 rfl) ?_
      refine lv_iadd hx hb dJ9_floorMod_7cf53_16 ?_
      exact pm_iret E hret hI pm_X.rf ⟨_, rfl, rfl, hw⟩ (by decide) (by decide) dJ9_floorMod_7cf53_17
