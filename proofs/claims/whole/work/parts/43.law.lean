def R_law : String := "IndependenceDeskLaw"
def lw_P (b : Addr) (xs : List Int32) (args : Array Value) (s : State) : Prop := args = #[.ref b] ∧ s.IntsAt b xs ∧ xs.length ≤ 3072 ∧ (Jvm.Cond.and given_1 narrow_1).before args s = true
def lw_Q (_ : Array Value) (s : State) (o : Outcome) (t : State) : Prop := o = .returned (some (.int 1)) ∧ Framed s o t [] 600000 7302250
def lw_Z (below : List Frame) (a : Array Value) (s : State) : State → Prop := fun t => ∃ o, t.status = .running ∧ Ended t below o ∧ lw_Q a s o t
/-- the law's own end, with 1 on the stack, nothing written that was there before, its room as the claim has it -/
theorem lw_ret {p : Program} {l : Launch} {e : Env} {s : State} {m : MethodId} {below : List Frame} {meth : Method} {c : Code} {b : Nat} (hx : p.tables.exec = Jvm.exec) (hb : c.code = code) (hr : meth.sig.returnType = ret) (hlocks : meth.locks = false) {pc : Nat} {H : Heap} {ls : Array Slot} (hdg : decode code pc = .ok (.ireturn, 1)) : W p l e room_1 s m #[Value.ref b] below meth c H [] 600000 7302250 (lw_Z below #[Value.ref b] s) (F0 m pc ls [.int 1]) := by
  intro T hT X
  obtain ⟨fs, hret, hrun, hended, hW, hframe⟩ := X.leave (v := some (.int 1)) (hlocks := hlocks) (fun h => by rw [hr] at h; cases h)
  have hmeth' : T.vm.method? m = some meth := X.method'
  refine ⟨T.setFrames fs, ?_, .returned (some (.int 1)), hrun, hended, rfl, ⟨_, rfl⟩, hW, hframe⟩
  jvm_step X.here [X.here.top, hx, hb, hdg, hmeth', hr, ret, narrow_b1]
  (try refine ⟨rfl, ?_⟩); (try refine ⟨rfl, ?_⟩)
  first | (intro acts; rw [hret _ acts rfl rfl rfl]) | rw [hret _ _ rfl rfl rfl]
  exact Steps.refl _
/-- what holds at the law's entry: the machine, the code, the tables' words (any of lw_tbl by 'hts w (by decide +kernel)'), the script of L ints xs at the cell b, what the Statement gives of the start (any of its parts by flat_of_before) -/
def lw_At (p : Program) (s : State) (m : MethodId) (meth : Method) (c : Code) (b L : Nat) (xs : Nat → Int32) : Prop :=
  p.tables.exec = Jvm.exec ∧ c.code = code ∧ meth.sig.returnType = ret ∧ c.maxLocals = 4 ∧ s.vm.findClass R_law = some m.cls ∧ (∀ w ∈ lw_tbl, w.before #[Value.ref b] s = true) ∧ va_X b L xs s s.heap ∧ b < s.heap.size ∧ meth.locks = false ∧ (Jvm.Cond.and given_1 narrow_1).before #[Value.ref b] s = true
set_option maxHeartbeats 4000000 in
set_option maxRecDepth 100000 in
theorem c_L_law_1205 {p : Program} {l : Launch} {e : Env} {s : State} {m : MethodId} {below : List Frame} {meth : Method} {c : Code} {G : pm_G} {b L : Nat} {xs : Nat → Int32} {M0 : pm_M} {v1 : Nat} {v2 : Nat} {v3 : Int32} {cells slots : Nat} {M : pm_M} {k_18 : Int32 → pm_M → Prop} (E : pm_E G p s m #[Value.ref b] meth c code 4 RL) (hret : lw_At p s m meth c b L xs) (hc : cells + 4 ≤ 600000 ∧ slots + 4107 ≤ 7302250) (hk_18 : ∀ (v3 : Int32) (M : pm_M) (H : Heap) (locs : List Loc) (ls : Array Slot), pm_X M0 M → pm_I G s.heap M H locs → (pm_is M v1 8) → (pm_is M v2 9) → lv_has ls 4 [(0, .ref b), (1, .ref (s.heap.size + v1)), (2, .ref (s.heap.size + v2)), (3, .int v3)] → k_18 v3 M → W p l e room_1 s m #[Value.ref b] below meth c H locs (cells + 4) (slots + 4107) (lw_Z below #[Value.ref b] s) (F0 m 18 ls [])) {H : Heap} {locs : List Loc} {ls : Array Slot} (hX : pm_X M0 M) (hI : pm_I G s.heap M H locs) (t_v1 : pm_is M v1 8) (t_v2 : pm_is M v2 9) (hl : lv_has ls 4 [(0, .ref b), (1, .ref (s.heap.size + v1)), (2, .ref (s.heap.size + v2)), (3, .int v3)]) (hw : w_L_law_1205 L xs k_18 v1 v2 v3 M) : W p l e room_1 s m #[Value.ref b] below meth c H locs (cells + 4) (slots + 4107) (lw_Z below #[Value.ref b] s) (F0 m 1205 ls []) := by
  have hx := E.1
  have hb := E.2.1
  have hown := E.2.2.2.1
  have hts := E.2.2.2.2.1
  have hXs := hret.2.2.2.2.2.2.1
  have hbl := hret.2.2.2.2.2.2.2.1
  have hbA : ¬ (fun q : Nat => s.heap.size ≤ q) b := Nat.not_le.mpr hbl
  obtain ⟨hc1, hc2⟩ := id hc
  unfold w_L_law_1205 at hw
  obtain ⟨x_1, e_x_1⟩ : ∃ z : Int32, z = v3 + (6 : Int32) := ⟨_, rfl⟩
  refine lv_iinc (v := x_1) (lv' := [(3, .int x_1), (0, .ref b), (1, .ref (s.heap.size + v1)), (2, .ref (s.heap.size + v2))]) hx hb dL_law_1205 hl (k := 3) rfl (by rw [e_x_1]; rfl) (by decide) rfl (fun ls hl_2 => ?_)
  replace hw := hw x_1 e_x_1
  refine lv_goto (tgt := 18) hx hb dL_law_1208 (by decide) ?_
  exact hk_18 _ _ _ _ _ hX hI t_v1 t_v2 (lv_sub hl_2 [1, 2, 3, 0] rfl) hw
set_option maxHeartbeats 4000000 in
set_option maxRecDepth 100000 in
theorem c_L_law_1182 {p : Program} {l : Launch} {e : Env} {s : State} {m : MethodId} {below : List Frame} {meth : Method} {c : Code} {G : pm_G} {b L : Nat} {xs : Nat → Int32} {M0 : pm_M} {v1 : Nat} {v2 : Nat} {v3 : Int32} {cells slots : Nat} {M : pm_M} {k_18 : Int32 → pm_M → Prop} (E : pm_E G p s m #[Value.ref b] meth c code 4 RL) (hret : lw_At p s m meth c b L xs) (hc : cells + 4 ≤ 600000 ∧ slots + 4107 ≤ 7302250) (hk_18 : ∀ (v3 : Int32) (M : pm_M) (H : Heap) (locs : List Loc) (ls : Array Slot), pm_X M0 M → pm_I G s.heap M H locs → (pm_is M v1 8) → (pm_is M v2 9) → lv_has ls 4 [(0, .ref b), (1, .ref (s.heap.size + v1)), (2, .ref (s.heap.size + v2)), (3, .int v3)] → k_18 v3 M → W p l e room_1 s m #[Value.ref b] below meth c H locs (cells + 4) (slots + 4107) (lw_Z below #[Value.ref b] s) (F0 m 18 ls [])) {H : Heap} {locs : List Loc} {ls : Array Slot} (hX : pm_X M0 M) (hI : pm_I G s.heap M H locs) (t_v1 : pm_is M v1 8) (t_v2 : pm_is M v2 9) (hl : lv_has ls 4 [(0, .ref b), (1, .ref (s.heap.size + v1)), (2, .ref (s.heap.size + v2)), (3, .int v3)]) (hw : w_L_law_1182 L xs k_18 v1 v2 v3 M) : W p l e room_1 s m #[Value.ref b] below meth c H locs cells slots (lw_Z below #[Value.ref b] s) (F0 m 1182 ls []) := by
  have hx := E.1
  have hb := E.2.1
  have hown := E.2.2.2.1
  have hts := E.2.2.2.2.1
  have hXs := hret.2.2.2.2.2.2.1
  have hbl := hret.2.2.2.2.2.2.2.1
  have hbA : ¬ (fun q : Nat => s.heap.size ≤ q) b := Nat.not_le.mpr hbl
  refine pm_nrm (cells' := cells + 0) (slots' := slots + 0) (g2 := F0 m 1182 ls []) rfl rfl rfl ?_
  obtain ⟨hc1, hc2⟩ := id hc
  unfold w_L_law_1182 at hw
  refine lv_aload_n hx hb dL_law_1182 rfl (lv_at hl 1 rfl) ?_
  refine lv_aload_n hx hb dL_law_1183 rfl (lv_at hl 0 rfl) ?_
  refine lv_iload_n hx hb dL_law_1184 rfl (lv_at hl 3 rfl) ?_
  refine lv_iconst (v := (1 : Int32)) hx hb dL_law_1185 (by decide) ?_
  refine lv_iadd hx hb dL_law_1186 ?_
  obtain ⟨h_1, hw⟩ := hw
  refine va_sld hx hb hXs hbl hbA hI.2.2.1 h_1 dL_law_1187 ?_
  refine pm_callV (As := [.int (xs (v3 + (1 : Int32)).toNatClampNeg)]) (rest := []) 1 E hI (k_X9_count t_v1 hw) t_v1 (by decide) rfl kc_X9_count kl_L_139 km_X9_count ks_X9_count ki_X9 (by decide +kernel) ⟨by decide, by decide⟩ rfl hl.1 rfl (by first | exact Nat.le_of_ble_eq_true rfl | (simp only [List.map, pm_rf_cat]; exact Nat.le_of_ble_eq_true rfl)) dL_law_1188 ⟨by show cells + 0 + 0 ≤ 600000; omega, by show slots + 0 + 0 ≤ 7302250; omega⟩ (fun r9 M9 H locs hp hX1 hI => ?_)
  clear hw
  obtain ⟨r_2, rfl, rfl, hw⟩ := hp
  refine pm_nrm (cells' := cells + 0) (slots' := slots + 0) (g2 := F0 m 1191 ls [.int r_2]) rfl rfl rfl ?_
  refine lv_aload_n hx hb dL_law_1191 rfl (lv_at hl 2 rfl) ?_
  refine lv_aload_n hx hb dL_law_1192 rfl (lv_at hl 0 rfl) ?_
  refine lv_iload_n hx hb dL_law_1193 rfl (lv_at hl 3 rfl) ?_
  refine lv_iconst (v := (1 : Int32)) hx hb dL_law_1194 (by decide) ?_
  refine lv_iadd hx hb dL_law_1195 ?_
  obtain ⟨h_3, hw⟩ := hw
  refine va_sld hx hb hXs hbl hbA hI.2.2.1 h_3 dL_law_1196 ?_
  refine pm_callV (As := [.int (xs (v3 + (1 : Int32)).toNatClampNeg)]) (rest := [.int r_2]) 1 E hI (k_X10_count t_v2 hw) t_v2 (by decide) rfl kc_X10_count kl_L_142 km_X10_count ks_X10_count ki_X10 (by decide +kernel) ⟨by decide, by decide⟩ rfl hl.1 rfl (by first | exact Nat.le_of_ble_eq_true rfl | (simp only [List.map, pm_rf_cat]; exact Nat.le_of_ble_eq_true rfl)) dL_law_1197 ⟨by show cells + 0 + 0 ≤ 600000; omega, by show slots + 0 + 0 ≤ 7302250; omega⟩ (fun r9 M9 H locs hp hX1 hI => ?_)
  clear hw
  obtain ⟨r_4, rfl, rfl, hw⟩ := hp
  refine pm_nrm (cells' := cells + 0) (slots' := slots + 0) (g2 := F0 m 1200 ls [.int r_4, .int r_2]) rfl rfl rfl ?_
  refine lv_icmp_eq (tgt := 1205) hx hb dL_law_1200 (by decide) (fun h_5 => ?_) (fun h_5 => ?_)
  · replace hw := hw.1 h_5
    refine W.widen (k := cells + 4) (n := slots + 4107) (by omega) (by omega) ?_
    exact c_L_law_1205 E hret hc hk_18 hX hI t_v1 t_v2 (lv_sub hl [0, 1, 2, 3] rfl) hw
  · replace hw := hw.2 h_5
    refine lv_iconst (v := (0 : Int32)) hx hb dL_law_1203 (by decide) ?_
    exact hw.elim
set_option maxHeartbeats 4000000 in
set_option maxRecDepth 100000 in
theorem c_L_law_1149 {p : Program} {l : Launch} {e : Env} {s : State} {m : MethodId} {below : List Frame} {meth : Method} {c : Code} {G : pm_G} {b L : Nat} {xs : Nat → Int32} {M0 : pm_M} {v1 : Nat} {v2 : Nat} {v3 : Int32} {cells slots : Nat} {M : pm_M} {k_18 : Int32 → pm_M → Prop} (E : pm_E G p s m #[Value.ref b] meth c code 4 RL) (hret : lw_At p s m meth c b L xs) (hc : cells + 4 ≤ 600000 ∧ slots + 4107 ≤ 7302250) (hk_18 : ∀ (v3 : Int32) (M : pm_M) (H : Heap) (locs : List Loc) (ls : Array Slot), pm_X M0 M → pm_I G s.heap M H locs → (pm_is M v1 8) → (pm_is M v2 9) → lv_has ls 4 [(0, .ref b), (1, .ref (s.heap.size + v1)), (2, .ref (s.heap.size + v2)), (3, .int v3)] → k_18 v3 M → W p l e room_1 s m #[Value.ref b] below meth c H locs (cells + 4) (slots + 4107) (lw_Z below #[Value.ref b] s) (F0 m 18 ls [])) {H : Heap} {locs : List Loc} {ls : Array Slot} (hX : pm_X M0 M) (hI : pm_I G s.heap M H locs) (t_v1 : pm_is M v1 8) (t_v2 : pm_is M v2 9) (hl : lv_has ls 4 [(0, .ref b), (1, .ref (s.heap.size + v1)), (2, .ref (s.heap.size + v2)), (3, .int v3)]) (hw : w_L_law_1149 L xs k_18 v1 v2 v3 M) : W p l e room_1 s m #[Value.ref b] below meth c H locs cells slots (lw_Z below #[Value.ref b] s) (F0 m 1149 ls []) := by
  have hx := E.1
  have hb := E.2.1
  have hown := E.2.2.2.1
  have hts := E.2.2.2.2.1
  have hXs := hret.2.2.2.2.2.2.1
  have hbl := hret.2.2.2.2.2.2.2.1
  have hbA : ¬ (fun q : Nat => s.heap.size ≤ q) b := Nat.not_le.mpr hbl
  refine pm_nrm (cells' := cells + 0) (slots' := slots + 0) (g2 := F0 m 1149 ls []) rfl rfl rfl ?_
  obtain ⟨hc1, hc2⟩ := id hc
  unfold w_L_law_1149 at hw
  refine lv_aload_n hx hb dL_law_1149 rfl (lv_at hl 1 rfl) ?_
  refine lv_aload_n hx hb dL_law_1150 rfl (lv_at hl 0 rfl) ?_
  refine lv_iload_n hx hb dL_law_1151 rfl (lv_at hl 3 rfl) ?_
  refine lv_iconst (v := (1 : Int32)) hx hb dL_law_1152 (by decide) ?_
  refine lv_iadd hx hb dL_law_1153 ?_
  obtain ⟨h_1, hw⟩ := hw
  refine va_sld hx hb hXs hbl hbA hI.2.2.1 h_1 dL_law_1154 ?_
  refine lv_aload_n hx hb dL_law_1155 rfl (lv_at hl 0 rfl) ?_
  refine lv_iload_n hx hb dL_law_1156 rfl (lv_at hl 3 rfl) ?_
  refine lv_iconst (v := (2 : Int32)) hx hb dL_law_1157 (by decide) ?_
  refine lv_iadd hx hb dL_law_1158 ?_
  obtain ⟨h_2, hw⟩ := hw
  refine va_sld hx hb hXs hbl hbA hI.2.2.1 h_2 dL_law_1159 ?_
  refine pm_callV (As := [.int (xs (v3 + (1 : Int32)).toNatClampNeg), .int (xs (v3 + (2 : Int32)).toNatClampNeg)]) (rest := []) 2 E hI (k_X9_same t_v1 hw) t_v1 (by decide) rfl kc_X9_same kl_L_135 km_X9_same ks_X9_same ki_X9 (by decide +kernel) ⟨by decide, by decide⟩ rfl hl.1 rfl (by first | exact Nat.le_of_ble_eq_true rfl | (simp only [List.map, pm_rf_cat]; exact Nat.le_of_ble_eq_true rfl)) dL_law_1160 ⟨by show cells + 0 + 0 ≤ 600000; omega, by show slots + 0 + 0 ≤ 7302250; omega⟩ (fun r9 M9 H locs hp hX1 hI => ?_)
  clear hw
  obtain ⟨r_3, rfl, rfl, hw⟩ := hp
  refine pm_nrm (cells' := cells + 0) (slots' := slots + 0) (g2 := F0 m 1163 ls [.int r_3]) rfl rfl rfl ?_
  refine lv_aload_n hx hb dL_law_1163 rfl (lv_at hl 2 rfl) ?_
  refine lv_aload_n hx hb dL_law_1164 rfl (lv_at hl 0 rfl) ?_
  refine lv_iload_n hx hb dL_law_1165 rfl (lv_at hl 3 rfl) ?_
  refine lv_iconst (v := (1 : Int32)) hx hb dL_law_1166 (by decide) ?_
  refine lv_iadd hx hb dL_law_1167 ?_
  obtain ⟨h_4, hw⟩ := hw
  refine va_sld hx hb hXs hbl hbA hI.2.2.1 h_4 dL_law_1168 ?_
  refine lv_aload_n hx hb dL_law_1169 rfl (lv_at hl 0 rfl) ?_
  refine lv_iload_n hx hb dL_law_1170 rfl (lv_at hl 3 rfl) ?_
  refine lv_iconst (v := (2 : Int32)) hx hb dL_law_1171 (by decide) ?_
  refine lv_iadd hx hb dL_law_1172 ?_
  obtain ⟨h_5, hw⟩ := hw
  refine va_sld hx hb hXs hbl hbA hI.2.2.1 h_5 dL_law_1173 ?_
  refine pm_callV (As := [.int (xs (v3 + (1 : Int32)).toNatClampNeg), .int (xs (v3 + (2 : Int32)).toNatClampNeg)]) (rest := [.int r_3]) 2 E hI (k_X10_same t_v2 hw) t_v2 (by decide) rfl kc_X10_same kl_L_138 km_X10_same ks_X10_same ki_X10 (by decide +kernel) ⟨by decide, by decide⟩ rfl hl.1 rfl (by first | exact Nat.le_of_ble_eq_true rfl | (simp only [List.map, pm_rf_cat]; exact Nat.le_of_ble_eq_true rfl)) dL_law_1174 ⟨by show cells + 0 + 0 ≤ 600000; omega, by show slots + 0 + 0 ≤ 7302250; omega⟩ (fun r9 M9 H locs hp hX1 hI => ?_)
  clear hw
  obtain ⟨r_6, rfl, rfl, hw⟩ := hp
  refine pm_nrm (cells' := cells + 0) (slots' := slots + 0) (g2 := F0 m 1177 ls [.int r_6, .int r_3]) rfl rfl rfl ?_
  refine lv_icmp_eq (tgt := 1205) hx hb dL_law_1177 (by decide) (fun h_7 => ?_) (fun h_7 => ?_)
  · replace hw := hw.1 h_7
    refine W.widen (k := cells + 4) (n := slots + 4107) (by omega) (by omega) ?_
    exact c_L_law_1205 E hret hc hk_18 hX hI t_v1 t_v2 (lv_sub hl [0, 1, 2, 3] rfl) hw
  · replace hw := hw.2 h_7
    refine lv_iconst (v := (0 : Int32)) hx hb dL_law_1180 (by decide) ?_
    exact hw.elim
set_option maxHeartbeats 4000000 in
set_option maxRecDepth 100000 in
theorem c_L_law_1126 {p : Program} {l : Launch} {e : Env} {s : State} {m : MethodId} {below : List Frame} {meth : Method} {c : Code} {G : pm_G} {b L : Nat} {xs : Nat → Int32} {M0 : pm_M} {v1 : Nat} {v2 : Nat} {v3 : Int32} {cells slots : Nat} {M : pm_M} {k_18 : Int32 → pm_M → Prop} (E : pm_E G p s m #[Value.ref b] meth c code 4 RL) (hret : lw_At p s m meth c b L xs) (hc : cells + 4 ≤ 600000 ∧ slots + 4107 ≤ 7302250) (hk_18 : ∀ (v3 : Int32) (M : pm_M) (H : Heap) (locs : List Loc) (ls : Array Slot), pm_X M0 M → pm_I G s.heap M H locs → (pm_is M v1 8) → (pm_is M v2 9) → lv_has ls 4 [(0, .ref b), (1, .ref (s.heap.size + v1)), (2, .ref (s.heap.size + v2)), (3, .int v3)] → k_18 v3 M → W p l e room_1 s m #[Value.ref b] below meth c H locs (cells + 4) (slots + 4107) (lw_Z below #[Value.ref b] s) (F0 m 18 ls [])) {H : Heap} {locs : List Loc} {ls : Array Slot} (hX : pm_X M0 M) (hI : pm_I G s.heap M H locs) (t_v1 : pm_is M v1 8) (t_v2 : pm_is M v2 9) (hl : lv_has ls 4 [(0, .ref b), (1, .ref (s.heap.size + v1)), (2, .ref (s.heap.size + v2)), (3, .int v3)]) (hw : w_L_law_1126 L xs k_18 v1 v2 v3 M) : W p l e room_1 s m #[Value.ref b] below meth c H locs cells slots (lw_Z below #[Value.ref b] s) (F0 m 1126 ls []) := by
  have hx := E.1
  have hb := E.2.1
  have hown := E.2.2.2.1
  have hts := E.2.2.2.2.1
  have hXs := hret.2.2.2.2.2.2.1
  have hbl := hret.2.2.2.2.2.2.2.1
  have hbA : ¬ (fun q : Nat => s.heap.size ≤ q) b := Nat.not_le.mpr hbl
  refine pm_nrm (cells' := cells + 0) (slots' := slots + 0) (g2 := F0 m 1126 ls []) rfl rfl rfl ?_
  obtain ⟨hc1, hc2⟩ := id hc
  unfold w_L_law_1126 at hw
  refine lv_aload_n hx hb dL_law_1126 rfl (lv_at hl 1 rfl) ?_
  refine lv_aload_n hx hb dL_law_1127 rfl (lv_at hl 0 rfl) ?_
  refine lv_iload_n hx hb dL_law_1128 rfl (lv_at hl 3 rfl) ?_
  refine lv_iconst (v := (1 : Int32)) hx hb dL_law_1129 (by decide) ?_
  refine lv_iadd hx hb dL_law_1130 ?_
  obtain ⟨h_1, hw⟩ := hw
  refine va_sld hx hb hXs hbl hbA hI.2.2.1 h_1 dL_law_1131 ?_
  refine pm_callV (As := [.int (xs (v3 + (1 : Int32)).toNatClampNeg)]) (rest := []) 1 E hI (k_X9_pack t_v1 hw) t_v1 (by decide) rfl kc_X9_pack kl_L_131 km_X9_pack ks_X9_pack ki_X9 (by decide +kernel) ⟨by decide, by decide⟩ rfl hl.1 rfl (by first | exact Nat.le_of_ble_eq_true rfl | (simp only [List.map, pm_rf_cat]; exact Nat.le_of_ble_eq_true rfl)) dL_law_1132 ⟨by show cells + 0 + 0 ≤ 600000; omega, by show slots + 0 + 0 ≤ 7302250; omega⟩ (fun r9 M9 H locs hp hX1 hI => ?_)
  clear hw
  obtain ⟨r_2, rfl, rfl, hw⟩ := hp
  refine pm_nrm (cells' := cells + 0) (slots' := slots + 0) (g2 := F0 m 1135 ls [.int r_2]) rfl rfl rfl ?_
  refine lv_aload_n hx hb dL_law_1135 rfl (lv_at hl 2 rfl) ?_
  refine lv_aload_n hx hb dL_law_1136 rfl (lv_at hl 0 rfl) ?_
  refine lv_iload_n hx hb dL_law_1137 rfl (lv_at hl 3 rfl) ?_
  refine lv_iconst (v := (1 : Int32)) hx hb dL_law_1138 (by decide) ?_
  refine lv_iadd hx hb dL_law_1139 ?_
  obtain ⟨h_3, hw⟩ := hw
  refine va_sld hx hb hXs hbl hbA hI.2.2.1 h_3 dL_law_1140 ?_
  refine pm_callV (As := [.int (xs (v3 + (1 : Int32)).toNatClampNeg)]) (rest := [.int r_2]) 1 E hI (k_X10_pack t_v2 hw) t_v2 (by decide) rfl kc_X10_pack kl_L_134 km_X10_pack ks_X10_pack ki_X10 (by decide +kernel) ⟨by decide, by decide⟩ rfl hl.1 rfl (by first | exact Nat.le_of_ble_eq_true rfl | (simp only [List.map, pm_rf_cat]; exact Nat.le_of_ble_eq_true rfl)) dL_law_1141 ⟨by show cells + 0 + 0 ≤ 600000; omega, by show slots + 0 + 0 ≤ 7302250; omega⟩ (fun r9 M_4 H locs hp hX1 hI => ?_)
  clear hw
  obtain ⟨r_5, rfl, hw⟩ := hp
  replace t_v1 := t_v1.x hX1
  replace t_v2 := t_v2.x hX1
  replace hX := hX.tr hX1
  refine pm_nrm (cells' := cells + 0) (slots' := slots + 0) (g2 := F0 m 1144 ls [.int r_5, .int r_2]) rfl rfl rfl ?_
  refine lv_icmp_eq (tgt := 1205) hx hb dL_law_1144 (by decide) (fun h_6 => ?_) (fun h_6 => ?_)
  · replace hw := hw.1 h_6
    refine W.widen (k := cells + 4) (n := slots + 4107) (by omega) (by omega) ?_
    exact c_L_law_1205 E hret hc hk_18 hX hI t_v1 t_v2 (lv_sub hl [0, 1, 2, 3] rfl) hw
  · replace hw := hw.2 h_6
    refine lv_iconst (v := (0 : Int32)) hx hb dL_law_1147 (by decide) ?_
    exact hw.elim
set_option maxHeartbeats 4000000 in
set_option maxRecDepth 100000 in
theorem c_L_law_1103 {p : Program} {l : Launch} {e : Env} {s : State} {m : MethodId} {below : List Frame} {meth : Method} {c : Code} {G : pm_G} {b L : Nat} {xs : Nat → Int32} {M0 : pm_M} {v1 : Nat} {v2 : Nat} {v3 : Int32} {cells slots : Nat} {M : pm_M} {k_18 : Int32 → pm_M → Prop} (E : pm_E G p s m #[Value.ref b] meth c code 4 RL) (hret : lw_At p s m meth c b L xs) (hc : cells + 4 ≤ 600000 ∧ slots + 4107 ≤ 7302250) (hk_18 : ∀ (v3 : Int32) (M : pm_M) (H : Heap) (locs : List Loc) (ls : Array Slot), pm_X M0 M → pm_I G s.heap M H locs → (pm_is M v1 8) → (pm_is M v2 9) → lv_has ls 4 [(0, .ref b), (1, .ref (s.heap.size + v1)), (2, .ref (s.heap.size + v2)), (3, .int v3)] → k_18 v3 M → W p l e room_1 s m #[Value.ref b] below meth c H locs (cells + 4) (slots + 4107) (lw_Z below #[Value.ref b] s) (F0 m 18 ls [])) {H : Heap} {locs : List Loc} {ls : Array Slot} (hX : pm_X M0 M) (hI : pm_I G s.heap M H locs) (t_v1 : pm_is M v1 8) (t_v2 : pm_is M v2 9) (hl : lv_has ls 4 [(0, .ref b), (1, .ref (s.heap.size + v1)), (2, .ref (s.heap.size + v2)), (3, .int v3)]) (hw : w_L_law_1103 L xs k_18 v1 v2 v3 M) : W p l e room_1 s m #[Value.ref b] below meth c H locs cells slots (lw_Z below #[Value.ref b] s) (F0 m 1103 ls []) := by
  have hx := E.1
  have hb := E.2.1
  have hown := E.2.2.2.1
  have hts := E.2.2.2.2.1
  have hXs := hret.2.2.2.2.2.2.1
  have hbl := hret.2.2.2.2.2.2.2.1
  have hbA : ¬ (fun q : Nat => s.heap.size ≤ q) b := Nat.not_le.mpr hbl
  refine pm_nrm (cells' := cells + 0) (slots' := slots + 0) (g2 := F0 m 1103 ls []) rfl rfl rfl ?_
  obtain ⟨hc1, hc2⟩ := id hc
  unfold w_L_law_1103 at hw
  refine lv_aload_n hx hb dL_law_1103 rfl (lv_at hl 1 rfl) ?_
  refine lv_aload_n hx hb dL_law_1104 rfl (lv_at hl 0 rfl) ?_
  refine lv_iload_n hx hb dL_law_1105 rfl (lv_at hl 3 rfl) ?_
  refine lv_iconst (v := (1 : Int32)) hx hb dL_law_1106 (by decide) ?_
  refine lv_iadd hx hb dL_law_1107 ?_
  obtain ⟨h_1, hw⟩ := hw
  refine va_sld hx hb hXs hbl hbA hI.2.2.1 h_1 dL_law_1108 ?_
  refine pm_callV (As := [.int (xs (v3 + (1 : Int32)).toNatClampNeg)]) (rest := []) 1 E hI (k_X9_crowd t_v1 hw) t_v1 (by decide) rfl kc_X9_crowd kl_L_127 km_X9_crowd ks_X9_crowd ki_X9 (by decide +kernel) ⟨by decide, by decide⟩ rfl hl.1 rfl (by first | exact Nat.le_of_ble_eq_true rfl | (simp only [List.map, pm_rf_cat]; exact Nat.le_of_ble_eq_true rfl)) dL_law_1109 ⟨by show cells + 0 + 0 ≤ 600000; omega, by show slots + 0 + 0 ≤ 7302250; omega⟩ (fun r9 M9 H locs hp hX1 hI => ?_)
  clear hw
  obtain ⟨r_2, rfl, rfl, hw⟩ := hp
  refine pm_nrm (cells' := cells + 0) (slots' := slots + 0) (g2 := F0 m 1112 ls [.int r_2]) rfl rfl rfl ?_
  refine lv_aload_n hx hb dL_law_1112 rfl (lv_at hl 2 rfl) ?_
  refine lv_aload_n hx hb dL_law_1113 rfl (lv_at hl 0 rfl) ?_
  refine lv_iload_n hx hb dL_law_1114 rfl (lv_at hl 3 rfl) ?_
  refine lv_iconst (v := (1 : Int32)) hx hb dL_law_1115 (by decide) ?_
  refine lv_iadd hx hb dL_law_1116 ?_
  obtain ⟨h_3, hw⟩ := hw
  refine va_sld hx hb hXs hbl hbA hI.2.2.1 h_3 dL_law_1117 ?_
  refine pm_callV (As := [.int (xs (v3 + (1 : Int32)).toNatClampNeg)]) (rest := [.int r_2]) 1 E hI (k_X10_crowd t_v2 hw) t_v2 (by decide) rfl kc_X10_crowd kl_L_130 km_X10_crowd ks_X10_crowd ki_X10 (by decide +kernel) ⟨by decide, by decide⟩ rfl hl.1 rfl (by first | exact Nat.le_of_ble_eq_true rfl | (simp only [List.map, pm_rf_cat]; exact Nat.le_of_ble_eq_true rfl)) dL_law_1118 ⟨by show cells + 0 + 0 ≤ 600000; omega, by show slots + 0 + 0 ≤ 7302250; omega⟩ (fun r9 M_4 H locs hp hX1 hI => ?_)
  clear hw
  obtain ⟨r_5, rfl, hw⟩ := hp
  replace t_v1 := t_v1.x hX1
  replace t_v2 := t_v2.x hX1
  replace hX := hX.tr hX1
  refine pm_nrm (cells' := cells + 0) (slots' := slots + 0) (g2 := F0 m 1121 ls [.int r_5, .int r_2]) rfl rfl rfl ?_
  refine lv_icmp_eq (tgt := 1205) hx hb dL_law_1121 (by decide) (fun h_6 => ?_) (fun h_6 => ?_)
  · replace hw := hw.1 h_6
    refine W.widen (k := cells + 4) (n := slots + 4107) (by omega) (by omega) ?_
    exact c_L_law_1205 E hret hc hk_18 hX hI t_v1 t_v2 (lv_sub hl [0, 1, 2, 3] rfl) hw
  · replace hw := hw.2 h_6
    refine lv_iconst (v := (0 : Int32)) hx hb dL_law_1124 (by decide) ?_
    exact hw.elim
set_option maxHeartbeats 4000000 in
set_option maxRecDepth 100000 in
theorem c_L_law_1070 {p : Program} {l : Launch} {e : Env} {s : State} {m : MethodId} {below : List Frame} {meth : Method} {c : Code} {G : pm_G} {b L : Nat} {xs : Nat → Int32} {M0 : pm_M} {v1 : Nat} {v2 : Nat} {v3 : Int32} {cells slots : Nat} {M : pm_M} {k_18 : Int32 → pm_M → Prop} (E : pm_E G p s m #[Value.ref b] meth c code 4 RL) (hret : lw_At p s m meth c b L xs) (hc : cells + 4 ≤ 600000 ∧ slots + 4107 ≤ 7302250) (hk_18 : ∀ (v3 : Int32) (M : pm_M) (H : Heap) (locs : List Loc) (ls : Array Slot), pm_X M0 M → pm_I G s.heap M H locs → (pm_is M v1 8) → (pm_is M v2 9) → lv_has ls 4 [(0, .ref b), (1, .ref (s.heap.size + v1)), (2, .ref (s.heap.size + v2)), (3, .int v3)] → k_18 v3 M → W p l e room_1 s m #[Value.ref b] below meth c H locs (cells + 4) (slots + 4107) (lw_Z below #[Value.ref b] s) (F0 m 18 ls [])) {H : Heap} {locs : List Loc} {ls : Array Slot} (hX : pm_X M0 M) (hI : pm_I G s.heap M H locs) (t_v1 : pm_is M v1 8) (t_v2 : pm_is M v2 9) (hl : lv_has ls 4 [(0, .ref b), (1, .ref (s.heap.size + v1)), (2, .ref (s.heap.size + v2)), (3, .int v3)]) (hw : w_L_law_1070 L xs k_18 v1 v2 v3 M) : W p l e room_1 s m #[Value.ref b] below meth c H locs cells slots (lw_Z below #[Value.ref b] s) (F0 m 1070 ls []) := by
  have hx := E.1
  have hb := E.2.1
  have hown := E.2.2.2.1
  have hts := E.2.2.2.2.1
  have hXs := hret.2.2.2.2.2.2.1
  have hbl := hret.2.2.2.2.2.2.2.1
  have hbA : ¬ (fun q : Nat => s.heap.size ≤ q) b := Nat.not_le.mpr hbl
  refine pm_nrm (cells' := cells + 0) (slots' := slots + 0) (g2 := F0 m 1070 ls []) rfl rfl rfl ?_
  obtain ⟨hc1, hc2⟩ := id hc
  unfold w_L_law_1070 at hw
  refine lv_aload_n hx hb dL_law_1070 rfl (lv_at hl 1 rfl) ?_
  refine lv_aload_n hx hb dL_law_1071 rfl (lv_at hl 0 rfl) ?_
  refine lv_iload_n hx hb dL_law_1072 rfl (lv_at hl 3 rfl) ?_
  refine lv_iconst (v := (1 : Int32)) hx hb dL_law_1073 (by decide) ?_
  refine lv_iadd hx hb dL_law_1074 ?_
  obtain ⟨h_1, hw⟩ := hw
  refine va_sld hx hb hXs hbl hbA hI.2.2.1 h_1 dL_law_1075 ?_
  refine lv_aload_n hx hb dL_law_1076 rfl (lv_at hl 0 rfl) ?_
  refine lv_iload_n hx hb dL_law_1077 rfl (lv_at hl 3 rfl) ?_
  refine lv_iconst (v := (2 : Int32)) hx hb dL_law_1078 (by decide) ?_
  refine lv_iadd hx hb dL_law_1079 ?_
  obtain ⟨h_2, hw⟩ := hw
  refine va_sld hx hb hXs hbl hbA hI.2.2.1 h_2 dL_law_1080 ?_
  refine pm_callV (As := [.int (xs (v3 + (1 : Int32)).toNatClampNeg), .int (xs (v3 + (2 : Int32)).toNatClampNeg)]) (rest := []) 2 E hI (k_X9_dealt t_v1 hw) t_v1 (by decide) rfl kc_X9_dealt kl_L_123 km_X9_dealt ks_X9_dealt ki_X9 (by decide +kernel) ⟨by decide, by decide⟩ rfl hl.1 rfl (by first | exact Nat.le_of_ble_eq_true rfl | (simp only [List.map, pm_rf_cat]; exact Nat.le_of_ble_eq_true rfl)) dL_law_1081 ⟨by show cells + 0 + 0 ≤ 600000; omega, by show slots + 0 + 0 ≤ 7302250; omega⟩ (fun r9 M_3 H locs hp hX1 hI => ?_)
  clear hw
  obtain ⟨r_4, rfl, hw⟩ := hp
  replace t_v1 := t_v1.x hX1
  replace t_v2 := t_v2.x hX1
  replace hX := hX.tr hX1
  refine pm_nrm (cells' := cells + 0) (slots' := slots + 0) (g2 := F0 m 1084 ls [.int r_4]) rfl rfl rfl ?_
  refine lv_aload_n hx hb dL_law_1084 rfl (lv_at hl 2 rfl) ?_
  refine lv_aload_n hx hb dL_law_1085 rfl (lv_at hl 0 rfl) ?_
  refine lv_iload_n hx hb dL_law_1086 rfl (lv_at hl 3 rfl) ?_
  refine lv_iconst (v := (1 : Int32)) hx hb dL_law_1087 (by decide) ?_
  refine lv_iadd hx hb dL_law_1088 ?_
  obtain ⟨h_5, hw⟩ := hw
  refine va_sld hx hb hXs hbl hbA hI.2.2.1 h_5 dL_law_1089 ?_
  refine lv_aload_n hx hb dL_law_1090 rfl (lv_at hl 0 rfl) ?_
  refine lv_iload_n hx hb dL_law_1091 rfl (lv_at hl 3 rfl) ?_
  refine lv_iconst (v := (2 : Int32)) hx hb dL_law_1092 (by decide) ?_
  refine lv_iadd hx hb dL_law_1093 ?_
  obtain ⟨h_6, hw⟩ := hw
  refine va_sld hx hb hXs hbl hbA hI.2.2.1 h_6 dL_law_1094 ?_
  refine pm_callV (As := [.int (xs (v3 + (1 : Int32)).toNatClampNeg), .int (xs (v3 + (2 : Int32)).toNatClampNeg)]) (rest := [.int r_4]) 2 E hI (k_X10_dealt t_v2 hw) t_v2 (by decide) rfl kc_X10_dealt kl_L_126 km_X10_dealt ks_X10_dealt ki_X10 (by decide +kernel) ⟨by decide, by decide⟩ rfl hl.1 rfl (by first | exact Nat.le_of_ble_eq_true rfl | (simp only [List.map, pm_rf_cat]; exact Nat.le_of_ble_eq_true rfl)) dL_law_1095 ⟨by show cells + 0 + 0 ≤ 600000; omega, by show slots + 0 + 0 ≤ 7302250; omega⟩ (fun r9 M_7 H locs hp hX1 hI => ?_)
  clear hw
  obtain ⟨r_8, rfl, hw⟩ := hp
  replace t_v1 := t_v1.x hX1
  replace t_v2 := t_v2.x hX1
  replace hX := hX.tr hX1
  refine pm_nrm (cells' := cells + 0) (slots' := slots + 0) (g2 := F0 m 1098 ls [.int r_8, .int r_4]) rfl rfl rfl ?_
  refine lv_icmp_eq (tgt := 1205) hx hb dL_law_1098 (by decide) (fun h_9 => ?_) (fun h_9 => ?_)
  · replace hw := hw.1 h_9
    refine W.widen (k := cells + 4) (n := slots + 4107) (by omega) (by omega) ?_
    exact c_L_law_1205 E hret hc hk_18 hX hI t_v1 t_v2 (lv_sub hl [0, 1, 2, 3] rfl) hw
  · replace hw := hw.2 h_9
    refine lv_iconst (v := (0 : Int32)) hx hb dL_law_1101 (by decide) ?_
    exact hw.elim
set_option maxHeartbeats 4000000 in
set_option maxRecDepth 100000 in
theorem c_L_law_1047 {p : Program} {l : Launch} {e : Env} {s : State} {m : MethodId} {below : List Frame} {meth : Method} {c : Code} {G : pm_G} {b L : Nat} {xs : Nat → Int32} {M0 : pm_M} {v1 : Nat} {v2 : Nat} {v3 : Int32} {cells slots : Nat} {M : pm_M} {k_18 : Int32 → pm_M → Prop} (E : pm_E G p s m #[Value.ref b] meth c code 4 RL) (hret : lw_At p s m meth c b L xs) (hc : cells + 4 ≤ 600000 ∧ slots + 4107 ≤ 7302250) (hk_18 : ∀ (v3 : Int32) (M : pm_M) (H : Heap) (locs : List Loc) (ls : Array Slot), pm_X M0 M → pm_I G s.heap M H locs → (pm_is M v1 8) → (pm_is M v2 9) → lv_has ls 4 [(0, .ref b), (1, .ref (s.heap.size + v1)), (2, .ref (s.heap.size + v2)), (3, .int v3)] → k_18 v3 M → W p l e room_1 s m #[Value.ref b] below meth c H locs (cells + 4) (slots + 4107) (lw_Z below #[Value.ref b] s) (F0 m 18 ls [])) {H : Heap} {locs : List Loc} {ls : Array Slot} (hX : pm_X M0 M) (hI : pm_I G s.heap M H locs) (t_v1 : pm_is M v1 8) (t_v2 : pm_is M v2 9) (hl : lv_has ls 4 [(0, .ref b), (1, .ref (s.heap.size + v1)), (2, .ref (s.heap.size + v2)), (3, .int v3)]) (hw : w_L_law_1047 L xs k_18 v1 v2 v3 M) : W p l e room_1 s m #[Value.ref b] below meth c H locs cells slots (lw_Z below #[Value.ref b] s) (F0 m 1047 ls []) := by
  have hx := E.1
  have hb := E.2.1
  have hown := E.2.2.2.1
  have hts := E.2.2.2.2.1
  have hXs := hret.2.2.2.2.2.2.1
  have hbl := hret.2.2.2.2.2.2.2.1
  have hbA : ¬ (fun q : Nat => s.heap.size ≤ q) b := Nat.not_le.mpr hbl
  refine pm_nrm (cells' := cells + 0) (slots' := slots + 0) (g2 := F0 m 1047 ls []) rfl rfl rfl ?_
  obtain ⟨hc1, hc2⟩ := id hc
  unfold w_L_law_1047 at hw
  refine lv_aload_n hx hb dL_law_1047 rfl (lv_at hl 1 rfl) ?_
  refine lv_aload_n hx hb dL_law_1048 rfl (lv_at hl 0 rfl) ?_
  refine lv_iload_n hx hb dL_law_1049 rfl (lv_at hl 3 rfl) ?_
  refine lv_iconst (v := (1 : Int32)) hx hb dL_law_1050 (by decide) ?_
  refine lv_iadd hx hb dL_law_1051 ?_
  obtain ⟨h_1, hw⟩ := hw
  refine va_sld hx hb hXs hbl hbA hI.2.2.1 h_1 dL_law_1052 ?_
  refine pm_callV (As := [.int (xs (v3 + (1 : Int32)).toNatClampNeg)]) (rest := []) 1 E hI (k_X9_fewest t_v1 hw) t_v1 (by decide) rfl kc_X9_fewest kl_L_119 km_X9_fewest ks_X9_fewest ki_X9 (by decide +kernel) ⟨by decide, by decide⟩ rfl hl.1 rfl (by first | exact Nat.le_of_ble_eq_true rfl | (simp only [List.map, pm_rf_cat]; exact Nat.le_of_ble_eq_true rfl)) dL_law_1053 ⟨by show cells + 0 + 0 ≤ 600000; omega, by show slots + 0 + 0 ≤ 7302250; omega⟩ (fun r9 M9 H locs hp hX1 hI => ?_)
  clear hw
  obtain ⟨r_2, rfl, rfl, hw⟩ := hp
  refine pm_nrm (cells' := cells + 0) (slots' := slots + 0) (g2 := F0 m 1056 ls [.int r_2]) rfl rfl rfl ?_
  refine lv_aload_n hx hb dL_law_1056 rfl (lv_at hl 2 rfl) ?_
  refine lv_aload_n hx hb dL_law_1057 rfl (lv_at hl 0 rfl) ?_
  refine lv_iload_n hx hb dL_law_1058 rfl (lv_at hl 3 rfl) ?_
  refine lv_iconst (v := (1 : Int32)) hx hb dL_law_1059 (by decide) ?_
  refine lv_iadd hx hb dL_law_1060 ?_
  obtain ⟨h_3, hw⟩ := hw
  refine va_sld hx hb hXs hbl hbA hI.2.2.1 h_3 dL_law_1061 ?_
  refine pm_callV (As := [.int (xs (v3 + (1 : Int32)).toNatClampNeg)]) (rest := [.int r_2]) 1 E hI (k_X10_fewest t_v2 hw) t_v2 (by decide) rfl kc_X10_fewest kl_L_122 km_X10_fewest ks_X10_fewest ki_X10 (by decide +kernel) ⟨by decide, by decide⟩ rfl hl.1 rfl (by first | exact Nat.le_of_ble_eq_true rfl | (simp only [List.map, pm_rf_cat]; exact Nat.le_of_ble_eq_true rfl)) dL_law_1062 ⟨by show cells + 0 + 0 ≤ 600000; omega, by show slots + 0 + 0 ≤ 7302250; omega⟩ (fun r9 M_4 H locs hp hX1 hI => ?_)
  clear hw
  obtain ⟨r_5, rfl, hw⟩ := hp
  replace t_v1 := t_v1.x hX1
  replace t_v2 := t_v2.x hX1
  replace hX := hX.tr hX1
  refine pm_nrm (cells' := cells + 0) (slots' := slots + 0) (g2 := F0 m 1065 ls [.int r_5, .int r_2]) rfl rfl rfl ?_
  refine lv_icmp_eq (tgt := 1205) hx hb dL_law_1065 (by decide) (fun h_6 => ?_) (fun h_6 => ?_)
  · replace hw := hw.1 h_6
    refine W.widen (k := cells + 4) (n := slots + 4107) (by omega) (by omega) ?_
    exact c_L_law_1205 E hret hc hk_18 hX hI t_v1 t_v2 (lv_sub hl [0, 1, 2, 3] rfl) hw
  · replace hw := hw.2 h_6
    refine lv_iconst (v := (0 : Int32)) hx hb dL_law_1068 (by decide) ?_
    exact hw.elim
set_option maxHeartbeats 4000000 in
set_option maxRecDepth 100000 in
theorem c_L_law_1004 {p : Program} {l : Launch} {e : Env} {s : State} {m : MethodId} {below : List Frame} {meth : Method} {c : Code} {G : pm_G} {b L : Nat} {xs : Nat → Int32} {M0 : pm_M} {v1 : Nat} {v2 : Nat} {v3 : Int32} {cells slots : Nat} {M : pm_M} {k_18 : Int32 → pm_M → Prop} (E : pm_E G p s m #[Value.ref b] meth c code 4 RL) (hret : lw_At p s m meth c b L xs) (hc : cells + 4 ≤ 600000 ∧ slots + 4107 ≤ 7302250) (hk_18 : ∀ (v3 : Int32) (M : pm_M) (H : Heap) (locs : List Loc) (ls : Array Slot), pm_X M0 M → pm_I G s.heap M H locs → (pm_is M v1 8) → (pm_is M v2 9) → lv_has ls 4 [(0, .ref b), (1, .ref (s.heap.size + v1)), (2, .ref (s.heap.size + v2)), (3, .int v3)] → k_18 v3 M → W p l e room_1 s m #[Value.ref b] below meth c H locs (cells + 4) (slots + 4107) (lw_Z below #[Value.ref b] s) (F0 m 18 ls [])) {H : Heap} {locs : List Loc} {ls : Array Slot} (hX : pm_X M0 M) (hI : pm_I G s.heap M H locs) (t_v1 : pm_is M v1 8) (t_v2 : pm_is M v2 9) (hl : lv_has ls 4 [(0, .ref b), (1, .ref (s.heap.size + v1)), (2, .ref (s.heap.size + v2)), (3, .int v3)]) (hw : w_L_law_1004 L xs k_18 v1 v2 v3 M) : W p l e room_1 s m #[Value.ref b] below meth c H locs cells slots (lw_Z below #[Value.ref b] s) (F0 m 1004 ls []) := by
  have hx := E.1
  have hb := E.2.1
  have hown := E.2.2.2.1
  have hts := E.2.2.2.2.1
  have hXs := hret.2.2.2.2.2.2.1
  have hbl := hret.2.2.2.2.2.2.2.1
  have hbA : ¬ (fun q : Nat => s.heap.size ≤ q) b := Nat.not_le.mpr hbl
  refine pm_nrm (cells' := cells + 0) (slots' := slots + 0) (g2 := F0 m 1004 ls []) rfl rfl rfl ?_
  obtain ⟨hc1, hc2⟩ := id hc
  unfold w_L_law_1004 at hw
  refine lv_aload_n hx hb dL_law_1004 rfl (lv_at hl 1 rfl) ?_
  refine lv_aload_n hx hb dL_law_1005 rfl (lv_at hl 0 rfl) ?_
  refine lv_iload_n hx hb dL_law_1006 rfl (lv_at hl 3 rfl) ?_
  refine lv_iconst (v := (1 : Int32)) hx hb dL_law_1007 (by decide) ?_
  refine lv_iadd hx hb dL_law_1008 ?_
  obtain ⟨h_1, hw⟩ := hw
  refine va_sld hx hb hXs hbl hbA hI.2.2.1 h_1 dL_law_1009 ?_
  refine lv_aload_n hx hb dL_law_1010 rfl (lv_at hl 0 rfl) ?_
  refine lv_iload_n hx hb dL_law_1011 rfl (lv_at hl 3 rfl) ?_
  refine lv_iconst (v := (2 : Int32)) hx hb dL_law_1012 (by decide) ?_
  refine lv_iadd hx hb dL_law_1013 ?_
  obtain ⟨h_2, hw⟩ := hw
  refine va_sld hx hb hXs hbl hbA hI.2.2.1 h_2 dL_law_1014 ?_
  refine lv_aload_n hx hb dL_law_1015 rfl (lv_at hl 0 rfl) ?_
  refine lv_iload_n hx hb dL_law_1016 rfl (lv_at hl 3 rfl) ?_
  refine lv_iconst (v := (3 : Int32)) hx hb dL_law_1017 (by decide) ?_
  refine lv_iadd hx hb dL_law_1018 ?_
  obtain ⟨h_3, hw⟩ := hw
  refine va_sld hx hb hXs hbl hbA hI.2.2.1 h_3 dL_law_1019 ?_
  refine pm_callV (As := [.int (xs (v3 + (1 : Int32)).toNatClampNeg), .int (xs (v3 + (2 : Int32)).toNatClampNeg), .int (xs (v3 + (3 : Int32)).toNatClampNeg)]) (rest := []) 3 E hI (k_X9_three t_v1 hw) t_v1 (by decide) rfl kc_X9_three kl_L_115 km_X9_three ks_X9_three ki_X9 (by decide +kernel) ⟨by decide, by decide⟩ rfl hl.1 rfl (by first | exact Nat.le_of_ble_eq_true rfl | (simp only [List.map, pm_rf_cat]; exact Nat.le_of_ble_eq_true rfl)) dL_law_1020 ⟨by show cells + 0 + 0 ≤ 600000; omega, by show slots + 0 + 0 ≤ 7302250; omega⟩ (fun r9 M9 H locs hp hX1 hI => ?_)
  clear hw
  obtain ⟨r_4, rfl, rfl, hw⟩ := hp
  refine pm_nrm (cells' := cells + 0) (slots' := slots + 0) (g2 := F0 m 1023 ls [.int r_4]) rfl rfl rfl ?_
  refine lv_aload_n hx hb dL_law_1023 rfl (lv_at hl 2 rfl) ?_
  refine lv_aload_n hx hb dL_law_1024 rfl (lv_at hl 0 rfl) ?_
  refine lv_iload_n hx hb dL_law_1025 rfl (lv_at hl 3 rfl) ?_
  refine lv_iconst (v := (1 : Int32)) hx hb dL_law_1026 (by decide) ?_
  refine lv_iadd hx hb dL_law_1027 ?_
  obtain ⟨h_5, hw⟩ := hw
  refine va_sld hx hb hXs hbl hbA hI.2.2.1 h_5 dL_law_1028 ?_
  refine lv_aload_n hx hb dL_law_1029 rfl (lv_at hl 0 rfl) ?_
  refine lv_iload_n hx hb dL_law_1030 rfl (lv_at hl 3 rfl) ?_
  refine lv_iconst (v := (2 : Int32)) hx hb dL_law_1031 (by decide) ?_
  refine lv_iadd hx hb dL_law_1032 ?_
  obtain ⟨h_6, hw⟩ := hw
  refine va_sld hx hb hXs hbl hbA hI.2.2.1 h_6 dL_law_1033 ?_
  refine lv_aload_n hx hb dL_law_1034 rfl (lv_at hl 0 rfl) ?_
  refine lv_iload_n hx hb dL_law_1035 rfl (lv_at hl 3 rfl) ?_
  refine lv_iconst (v := (3 : Int32)) hx hb dL_law_1036 (by decide) ?_
  refine lv_iadd hx hb dL_law_1037 ?_
  obtain ⟨h_7, hw⟩ := hw
  refine va_sld hx hb hXs hbl hbA hI.2.2.1 h_7 dL_law_1038 ?_
  refine pm_callV (As := [.int (xs (v3 + (1 : Int32)).toNatClampNeg), .int (xs (v3 + (2 : Int32)).toNatClampNeg), .int (xs (v3 + (3 : Int32)).toNatClampNeg)]) (rest := [.int r_4]) 3 E hI (k_X10_three t_v2 hw) t_v2 (by decide) rfl kc_X10_three kl_L_118 km_X10_three ks_X10_three ki_X10 (by decide +kernel) ⟨by decide, by decide⟩ rfl hl.1 rfl (by first | exact Nat.le_of_ble_eq_true rfl | (simp only [List.map, pm_rf_cat]; exact Nat.le_of_ble_eq_true rfl)) dL_law_1039 ⟨by show cells + 0 + 0 ≤ 600000; omega, by show slots + 0 + 0 ≤ 7302250; omega⟩ (fun r9 M9 H locs hp hX1 hI => ?_)
  clear hw
  obtain ⟨r_8, rfl, rfl, hw⟩ := hp
  refine pm_nrm (cells' := cells + 0) (slots' := slots + 0) (g2 := F0 m 1042 ls [.int r_8, .int r_4]) rfl rfl rfl ?_
  refine lv_icmp_eq (tgt := 1205) hx hb dL_law_1042 (by decide) (fun h_9 => ?_) (fun h_9 => ?_)
  · replace hw := hw.1 h_9
    refine W.widen (k := cells + 4) (n := slots + 4107) (by omega) (by omega) ?_
    exact c_L_law_1205 E hret hc hk_18 hX hI t_v1 t_v2 (lv_sub hl [0, 1, 2, 3] rfl) hw
  · replace hw := hw.2 h_9
    refine lv_iconst (v := (0 : Int32)) hx hb dL_law_1045 (by decide) ?_
    exact hw.elim
set_option maxHeartbeats 4000000 in
set_option maxRecDepth 100000 in
theorem c_L_law_961 {p : Program} {l : Launch} {e : Env} {s : State} {m : MethodId} {below : List Frame} {meth : Method} {c : Code} {G : pm_G} {b L : Nat} {xs : Nat → Int32} {M0 : pm_M} {v1 : Nat} {v2 : Nat} {v3 : Int32} {cells slots : Nat} {M : pm_M} {k_18 : Int32 → pm_M → Prop} (E : pm_E G p s m #[Value.ref b] meth c code 4 RL) (hret : lw_At p s m meth c b L xs) (hc : cells + 4 ≤ 600000 ∧ slots + 4107 ≤ 7302250) (hk_18 : ∀ (v3 : Int32) (M : pm_M) (H : Heap) (locs : List Loc) (ls : Array Slot), pm_X M0 M → pm_I G s.heap M H locs → (pm_is M v1 8) → (pm_is M v2 9) → lv_has ls 4 [(0, .ref b), (1, .ref (s.heap.size + v1)), (2, .ref (s.heap.size + v2)), (3, .int v3)] → k_18 v3 M → W p l e room_1 s m #[Value.ref b] below meth c H locs (cells + 4) (slots + 4107) (lw_Z below #[Value.ref b] s) (F0 m 18 ls [])) {H : Heap} {locs : List Loc} {ls : Array Slot} (hX : pm_X M0 M) (hI : pm_I G s.heap M H locs) (t_v1 : pm_is M v1 8) (t_v2 : pm_is M v2 9) (hl : lv_has ls 4 [(0, .ref b), (1, .ref (s.heap.size + v1)), (2, .ref (s.heap.size + v2)), (3, .int v3)]) (hw : w_L_law_961 L xs k_18 v1 v2 v3 M) : W p l e room_1 s m #[Value.ref b] below meth c H locs cells slots (lw_Z below #[Value.ref b] s) (F0 m 961 ls []) := by
  have hx := E.1
  have hb := E.2.1
  have hown := E.2.2.2.1
  have hts := E.2.2.2.2.1
  have hXs := hret.2.2.2.2.2.2.1
  have hbl := hret.2.2.2.2.2.2.2.1
  have hbA : ¬ (fun q : Nat => s.heap.size ≤ q) b := Nat.not_le.mpr hbl
  refine pm_nrm (cells' := cells + 0) (slots' := slots + 0) (g2 := F0 m 961 ls []) rfl rfl rfl ?_
  obtain ⟨hc1, hc2⟩ := id hc
  unfold w_L_law_961 at hw
  refine lv_aload_n hx hb dL_law_961 rfl (lv_at hl 1 rfl) ?_
  refine lv_aload_n hx hb dL_law_962 rfl (lv_at hl 0 rfl) ?_
  refine lv_iload_n hx hb dL_law_963 rfl (lv_at hl 3 rfl) ?_
  refine lv_iconst (v := (1 : Int32)) hx hb dL_law_964 (by decide) ?_
  refine lv_iadd hx hb dL_law_965 ?_
  obtain ⟨h_1, hw⟩ := hw
  refine va_sld hx hb hXs hbl hbA hI.2.2.1 h_1 dL_law_966 ?_
  refine lv_aload_n hx hb dL_law_967 rfl (lv_at hl 0 rfl) ?_
  refine lv_iload_n hx hb dL_law_968 rfl (lv_at hl 3 rfl) ?_
  refine lv_iconst (v := (2 : Int32)) hx hb dL_law_969 (by decide) ?_
  refine lv_iadd hx hb dL_law_970 ?_
  obtain ⟨h_2, hw⟩ := hw
  refine va_sld hx hb hXs hbl hbA hI.2.2.1 h_2 dL_law_971 ?_
  refine lv_aload_n hx hb dL_law_972 rfl (lv_at hl 0 rfl) ?_
  refine lv_iload_n hx hb dL_law_973 rfl (lv_at hl 3 rfl) ?_
  refine lv_iconst (v := (3 : Int32)) hx hb dL_law_974 (by decide) ?_
  refine lv_iadd hx hb dL_law_975 ?_
  obtain ⟨h_3, hw⟩ := hw
  refine va_sld hx hb hXs hbl hbA hI.2.2.1 h_3 dL_law_976 ?_
  refine pm_callV (As := [.int (xs (v3 + (1 : Int32)).toNatClampNeg), .int (xs (v3 + (2 : Int32)).toNatClampNeg), .int (xs (v3 + (3 : Int32)).toNatClampNeg)]) (rest := []) 3 E hI (k_X9_most t_v1 hw) t_v1 (by decide) rfl kc_X9_most kl_L_111 km_X9_most ks_X9_most ki_X9 (by decide +kernel) ⟨by decide, by decide⟩ rfl hl.1 rfl (by first | exact Nat.le_of_ble_eq_true rfl | (simp only [List.map, pm_rf_cat]; exact Nat.le_of_ble_eq_true rfl)) dL_law_977 ⟨by show cells + 0 + 0 ≤ 600000; omega, by show slots + 0 + 0 ≤ 7302250; omega⟩ (fun r9 M9 H locs hp hX1 hI => ?_)
  clear hw
  obtain ⟨r_4, rfl, rfl, hw⟩ := hp
  refine pm_nrm (cells' := cells + 0) (slots' := slots + 0) (g2 := F0 m 980 ls [.int r_4]) rfl rfl rfl ?_
  refine lv_aload_n hx hb dL_law_980 rfl (lv_at hl 2 rfl) ?_
  refine lv_aload_n hx hb dL_law_981 rfl (lv_at hl 0 rfl) ?_
  refine lv_iload_n hx hb dL_law_982 rfl (lv_at hl 3 rfl) ?_
  refine lv_iconst (v := (1 : Int32)) hx hb dL_law_983 (by decide) ?_
  refine lv_iadd hx hb dL_law_984 ?_
  obtain ⟨h_5, hw⟩ := hw
  refine va_sld hx hb hXs hbl hbA hI.2.2.1 h_5 dL_law_985 ?_
  refine lv_aload_n hx hb dL_law_986 rfl (lv_at hl 0 rfl) ?_
  refine lv_iload_n hx hb dL_law_987 rfl (lv_at hl 3 rfl) ?_
  refine lv_iconst (v := (2 : Int32)) hx hb dL_law_988 (by decide) ?_
  refine lv_iadd hx hb dL_law_989 ?_
  obtain ⟨h_6, hw⟩ := hw
  refine va_sld hx hb hXs hbl hbA hI.2.2.1 h_6 dL_law_990 ?_
  refine lv_aload_n hx hb dL_law_991 rfl (lv_at hl 0 rfl) ?_
  refine lv_iload_n hx hb dL_law_992 rfl (lv_at hl 3 rfl) ?_
  refine lv_iconst (v := (3 : Int32)) hx hb dL_law_993 (by decide) ?_
  refine lv_iadd hx hb dL_law_994 ?_
  obtain ⟨h_7, hw⟩ := hw
  refine va_sld hx hb hXs hbl hbA hI.2.2.1 h_7 dL_law_995 ?_
  refine pm_callV (As := [.int (xs (v3 + (1 : Int32)).toNatClampNeg), .int (xs (v3 + (2 : Int32)).toNatClampNeg), .int (xs (v3 + (3 : Int32)).toNatClampNeg)]) (rest := [.int r_4]) 3 E hI (k_X10_most t_v2 hw) t_v2 (by decide) rfl kc_X10_most kl_L_114 km_X10_most ks_X10_most ki_X10 (by decide +kernel) ⟨by decide, by decide⟩ rfl hl.1 rfl (by first | exact Nat.le_of_ble_eq_true rfl | (simp only [List.map, pm_rf_cat]; exact Nat.le_of_ble_eq_true rfl)) dL_law_996 ⟨by show cells + 0 + 0 ≤ 600000; omega, by show slots + 0 + 0 ≤ 7302250; omega⟩ (fun r9 M9 H locs hp hX1 hI => ?_)
  clear hw
  obtain ⟨r_8, rfl, rfl, hw⟩ := hp
  refine pm_nrm (cells' := cells + 0) (slots' := slots + 0) (g2 := F0 m 999 ls [.int r_8, .int r_4]) rfl rfl rfl ?_
  refine lv_icmp_eq (tgt := 1205) hx hb dL_law_999 (by decide) (fun h_9 => ?_) (fun h_9 => ?_)
  · replace hw := hw.1 h_9
    refine W.widen (k := cells + 4) (n := slots + 4107) (by omega) (by omega) ?_
    exact c_L_law_1205 E hret hc hk_18 hX hI t_v1 t_v2 (lv_sub hl [0, 1, 2, 3] rfl) hw
  · replace hw := hw.2 h_9
    refine lv_iconst (v := (0 : Int32)) hx hb dL_law_1002 (by decide) ?_
    exact hw.elim
set_option maxHeartbeats 4000000 in
set_option maxRecDepth 100000 in
theorem c_L_law_928 {p : Program} {l : Launch} {e : Env} {s : State} {m : MethodId} {below : List Frame} {meth : Method} {c : Code} {G : pm_G} {b L : Nat} {xs : Nat → Int32} {M0 : pm_M} {v1 : Nat} {v2 : Nat} {v3 : Int32} {cells slots : Nat} {M : pm_M} {k_18 : Int32 → pm_M → Prop} (E : pm_E G p s m #[Value.ref b] meth c code 4 RL) (hret : lw_At p s m meth c b L xs) (hc : cells + 4 ≤ 600000 ∧ slots + 4107 ≤ 7302250) (hk_18 : ∀ (v3 : Int32) (M : pm_M) (H : Heap) (locs : List Loc) (ls : Array Slot), pm_X M0 M → pm_I G s.heap M H locs → (pm_is M v1 8) → (pm_is M v2 9) → lv_has ls 4 [(0, .ref b), (1, .ref (s.heap.size + v1)), (2, .ref (s.heap.size + v2)), (3, .int v3)] → k_18 v3 M → W p l e room_1 s m #[Value.ref b] below meth c H locs (cells + 4) (slots + 4107) (lw_Z below #[Value.ref b] s) (F0 m 18 ls [])) {H : Heap} {locs : List Loc} {ls : Array Slot} (hX : pm_X M0 M) (hI : pm_I G s.heap M H locs) (t_v1 : pm_is M v1 8) (t_v2 : pm_is M v2 9) (hl : lv_has ls 4 [(0, .ref b), (1, .ref (s.heap.size + v1)), (2, .ref (s.heap.size + v2)), (3, .int v3)]) (hw : w_L_law_928 L xs k_18 v1 v2 v3 M) : W p l e room_1 s m #[Value.ref b] below meth c H locs cells slots (lw_Z below #[Value.ref b] s) (F0 m 928 ls []) := by
  have hx := E.1
  have hb := E.2.1
  have hown := E.2.2.2.1
  have hts := E.2.2.2.2.1
  have hXs := hret.2.2.2.2.2.2.1
  have hbl := hret.2.2.2.2.2.2.2.1
  have hbA : ¬ (fun q : Nat => s.heap.size ≤ q) b := Nat.not_le.mpr hbl
  refine pm_nrm (cells' := cells + 0) (slots' := slots + 0) (g2 := F0 m 928 ls []) rfl rfl rfl ?_
  obtain ⟨hc1, hc2⟩ := id hc
  unfold w_L_law_928 at hw
  refine lv_aload_n hx hb dL_law_928 rfl (lv_at hl 1 rfl) ?_
  refine lv_aload_n hx hb dL_law_929 rfl (lv_at hl 0 rfl) ?_
  refine lv_iload_n hx hb dL_law_930 rfl (lv_at hl 3 rfl) ?_
  refine lv_iconst (v := (1 : Int32)) hx hb dL_law_931 (by decide) ?_
  refine lv_iadd hx hb dL_law_932 ?_
  obtain ⟨h_1, hw⟩ := hw
  refine va_sld hx hb hXs hbl hbA hI.2.2.1 h_1 dL_law_933 ?_
  refine lv_aload_n hx hb dL_law_934 rfl (lv_at hl 0 rfl) ?_
  refine lv_iload_n hx hb dL_law_935 rfl (lv_at hl 3 rfl) ?_
  refine lv_iconst (v := (2 : Int32)) hx hb dL_law_936 (by decide) ?_
  refine lv_iadd hx hb dL_law_937 ?_
  obtain ⟨h_2, hw⟩ := hw
  refine va_sld hx hb hXs hbl hbA hI.2.2.1 h_2 dL_law_938 ?_
  refine pm_callV (As := [.int (xs (v3 + (1 : Int32)).toNatClampNeg), .int (xs (v3 + (2 : Int32)).toNatClampNeg)]) (rest := []) 2 E hI (k_X9_split t_v1 hw) t_v1 (by decide) rfl kc_X9_split kl_L_107 km_X9_split ks_X9_split ki_X9 (by decide +kernel) ⟨by decide, by decide⟩ rfl hl.1 rfl (by first | exact Nat.le_of_ble_eq_true rfl | (simp only [List.map, pm_rf_cat]; exact Nat.le_of_ble_eq_true rfl)) dL_law_939 ⟨by show cells + 0 + 0 ≤ 600000; omega, by show slots + 0 + 0 ≤ 7302250; omega⟩ (fun r9 M9 H locs hp hX1 hI => ?_)
  clear hw
  obtain ⟨r_3, rfl, rfl, hw⟩ := hp
  refine pm_nrm (cells' := cells + 0) (slots' := slots + 0) (g2 := F0 m 942 ls [.int r_3]) rfl rfl rfl ?_
  refine lv_aload_n hx hb dL_law_942 rfl (lv_at hl 2 rfl) ?_
  refine lv_aload_n hx hb dL_law_943 rfl (lv_at hl 0 rfl) ?_
  refine lv_iload_n hx hb dL_law_944 rfl (lv_at hl 3 rfl) ?_
  refine lv_iconst (v := (1 : Int32)) hx hb dL_law_945 (by decide) ?_
  refine lv_iadd hx hb dL_law_946 ?_
  obtain ⟨h_4, hw⟩ := hw
  refine va_sld hx hb hXs hbl hbA hI.2.2.1 h_4 dL_law_947 ?_
  refine lv_aload_n hx hb dL_law_948 rfl (lv_at hl 0 rfl) ?_
  refine lv_iload_n hx hb dL_law_949 rfl (lv_at hl 3 rfl) ?_
  refine lv_iconst (v := (2 : Int32)) hx hb dL_law_950 (by decide) ?_
  refine lv_iadd hx hb dL_law_951 ?_
  obtain ⟨h_5, hw⟩ := hw
  refine va_sld hx hb hXs hbl hbA hI.2.2.1 h_5 dL_law_952 ?_
  refine pm_callV (As := [.int (xs (v3 + (1 : Int32)).toNatClampNeg), .int (xs (v3 + (2 : Int32)).toNatClampNeg)]) (rest := [.int r_3]) 2 E hI (k_X10_split t_v2 hw) t_v2 (by decide) rfl kc_X10_split kl_L_110 km_X10_split ks_X10_split ki_X10 (by decide +kernel) ⟨by decide, by decide⟩ rfl hl.1 rfl (by first | exact Nat.le_of_ble_eq_true rfl | (simp only [List.map, pm_rf_cat]; exact Nat.le_of_ble_eq_true rfl)) dL_law_953 ⟨by show cells + 0 + 0 ≤ 600000; omega, by show slots + 0 + 0 ≤ 7302250; omega⟩ (fun r9 M9 H locs hp hX1 hI => ?_)
  clear hw
  obtain ⟨r_6, rfl, rfl, hw⟩ := hp
  refine pm_nrm (cells' := cells + 0) (slots' := slots + 0) (g2 := F0 m 956 ls [.int r_6, .int r_3]) rfl rfl rfl ?_
  refine lv_icmp_eq (tgt := 1205) hx hb dL_law_956 (by decide) (fun h_7 => ?_) (fun h_7 => ?_)
  · replace hw := hw.1 h_7
    refine W.widen (k := cells + 4) (n := slots + 4107) (by omega) (by omega) ?_
    exact c_L_law_1205 E hret hc hk_18 hX hI t_v1 t_v2 (lv_sub hl [0, 1, 2, 3] rfl) hw
  · replace hw := hw.2 h_7
    refine lv_iconst (v := (0 : Int32)) hx hb dL_law_959 (by decide) ?_
    exact hw.elim
set_option maxHeartbeats 4000000 in
set_option maxRecDepth 100000 in
theorem c_L_law_895 {p : Program} {l : Launch} {e : Env} {s : State} {m : MethodId} {below : List Frame} {meth : Method} {c : Code} {G : pm_G} {b L : Nat} {xs : Nat → Int32} {M0 : pm_M} {v1 : Nat} {v2 : Nat} {v3 : Int32} {cells slots : Nat} {M : pm_M} {k_18 : Int32 → pm_M → Prop} (E : pm_E G p s m #[Value.ref b] meth c code 4 RL) (hret : lw_At p s m meth c b L xs) (hc : cells + 4 ≤ 600000 ∧ slots + 4107 ≤ 7302250) (hk_18 : ∀ (v3 : Int32) (M : pm_M) (H : Heap) (locs : List Loc) (ls : Array Slot), pm_X M0 M → pm_I G s.heap M H locs → (pm_is M v1 8) → (pm_is M v2 9) → lv_has ls 4 [(0, .ref b), (1, .ref (s.heap.size + v1)), (2, .ref (s.heap.size + v2)), (3, .int v3)] → k_18 v3 M → W p l e room_1 s m #[Value.ref b] below meth c H locs (cells + 4) (slots + 4107) (lw_Z below #[Value.ref b] s) (F0 m 18 ls [])) {H : Heap} {locs : List Loc} {ls : Array Slot} (hX : pm_X M0 M) (hI : pm_I G s.heap M H locs) (t_v1 : pm_is M v1 8) (t_v2 : pm_is M v2 9) (hl : lv_has ls 4 [(0, .ref b), (1, .ref (s.heap.size + v1)), (2, .ref (s.heap.size + v2)), (3, .int v3)]) (hw : w_L_law_895 L xs k_18 v1 v2 v3 M) : W p l e room_1 s m #[Value.ref b] below meth c H locs cells slots (lw_Z below #[Value.ref b] s) (F0 m 895 ls []) := by
  have hx := E.1
  have hb := E.2.1
  have hown := E.2.2.2.1
  have hts := E.2.2.2.2.1
  have hXs := hret.2.2.2.2.2.2.1
  have hbl := hret.2.2.2.2.2.2.2.1
  have hbA : ¬ (fun q : Nat => s.heap.size ≤ q) b := Nat.not_le.mpr hbl
  refine pm_nrm (cells' := cells + 0) (slots' := slots + 0) (g2 := F0 m 895 ls []) rfl rfl rfl ?_
  obtain ⟨hc1, hc2⟩ := id hc
  unfold w_L_law_895 at hw
  refine lv_aload_n hx hb dL_law_895 rfl (lv_at hl 1 rfl) ?_
  refine lv_aload_n hx hb dL_law_896 rfl (lv_at hl 0 rfl) ?_
  refine lv_iload_n hx hb dL_law_897 rfl (lv_at hl 3 rfl) ?_
  refine lv_iconst (v := (1 : Int32)) hx hb dL_law_898 (by decide) ?_
  refine lv_iadd hx hb dL_law_899 ?_
  obtain ⟨h_1, hw⟩ := hw
  refine va_sld hx hb hXs hbl hbA hI.2.2.1 h_1 dL_law_900 ?_
  refine lv_aload_n hx hb dL_law_901 rfl (lv_at hl 0 rfl) ?_
  refine lv_iload_n hx hb dL_law_902 rfl (lv_at hl 3 rfl) ?_
  refine lv_iconst (v := (2 : Int32)) hx hb dL_law_903 (by decide) ?_
  refine lv_iadd hx hb dL_law_904 ?_
  obtain ⟨h_2, hw⟩ := hw
  refine va_sld hx hb hXs hbl hbA hI.2.2.1 h_2 dL_law_905 ?_
  refine pm_callV (As := [.int (xs (v3 + (1 : Int32)).toNatClampNeg), .int (xs (v3 + (2 : Int32)).toNatClampNeg)]) (rest := []) 2 E hI (k_X9_both t_v1 hw) t_v1 (by decide) rfl kc_X9_both kl_L_103 km_X9_both ks_X9_both ki_X9 (by decide +kernel) ⟨by decide, by decide⟩ rfl hl.1 rfl (by first | exact Nat.le_of_ble_eq_true rfl | (simp only [List.map, pm_rf_cat]; exact Nat.le_of_ble_eq_true rfl)) dL_law_906 ⟨by show cells + 0 + 0 ≤ 600000; omega, by show slots + 0 + 0 ≤ 7302250; omega⟩ (fun r9 M9 H locs hp hX1 hI => ?_)
  clear hw
  obtain ⟨r_3, rfl, rfl, hw⟩ := hp
  refine pm_nrm (cells' := cells + 0) (slots' := slots + 0) (g2 := F0 m 909 ls [.int r_3]) rfl rfl rfl ?_
  refine lv_aload_n hx hb dL_law_909 rfl (lv_at hl 2 rfl) ?_
  refine lv_aload_n hx hb dL_law_910 rfl (lv_at hl 0 rfl) ?_
  refine lv_iload_n hx hb dL_law_911 rfl (lv_at hl 3 rfl) ?_
  refine lv_iconst (v := (1 : Int32)) hx hb dL_law_912 (by decide) ?_
  refine lv_iadd hx hb dL_law_913 ?_
  obtain ⟨h_4, hw⟩ := hw
  refine va_sld hx hb hXs hbl hbA hI.2.2.1 h_4 dL_law_914 ?_
  refine lv_aload_n hx hb dL_law_915 rfl (lv_at hl 0 rfl) ?_
  refine lv_iload_n hx hb dL_law_916 rfl (lv_at hl 3 rfl) ?_
  refine lv_iconst (v := (2 : Int32)) hx hb dL_law_917 (by decide) ?_
  refine lv_iadd hx hb dL_law_918 ?_
  obtain ⟨h_5, hw⟩ := hw
  refine va_sld hx hb hXs hbl hbA hI.2.2.1 h_5 dL_law_919 ?_
  refine pm_callV (As := [.int (xs (v3 + (1 : Int32)).toNatClampNeg), .int (xs (v3 + (2 : Int32)).toNatClampNeg)]) (rest := [.int r_3]) 2 E hI (k_X10_both t_v2 hw) t_v2 (by decide) rfl kc_X10_both kl_L_106 km_X10_both ks_X10_both ki_X10 (by decide +kernel) ⟨by decide, by decide⟩ rfl hl.1 rfl (by first | exact Nat.le_of_ble_eq_true rfl | (simp only [List.map, pm_rf_cat]; exact Nat.le_of_ble_eq_true rfl)) dL_law_920 ⟨by show cells + 0 + 0 ≤ 600000; omega, by show slots + 0 + 0 ≤ 7302250; omega⟩ (fun r9 M9 H locs hp hX1 hI => ?_)
  clear hw
  obtain ⟨r_6, rfl, rfl, hw⟩ := hp
  refine pm_nrm (cells' := cells + 0) (slots' := slots + 0) (g2 := F0 m 923 ls [.int r_6, .int r_3]) rfl rfl rfl ?_
  refine lv_icmp_eq (tgt := 1205) hx hb dL_law_923 (by decide) (fun h_7 => ?_) (fun h_7 => ?_)
  · replace hw := hw.1 h_7
    refine W.widen (k := cells + 4) (n := slots + 4107) (by omega) (by omega) ?_
    exact c_L_law_1205 E hret hc hk_18 hX hI t_v1 t_v2 (lv_sub hl [0, 1, 2, 3] rfl) hw
  · replace hw := hw.2 h_7
    refine lv_iconst (v := (0 : Int32)) hx hb dL_law_926 (by decide) ?_
    exact hw.elim
set_option maxHeartbeats 4000000 in
set_option maxRecDepth 100000 in
theorem c_L_law_887 {p : Program} {l : Launch} {e : Env} {s : State} {m : MethodId} {below : List Frame} {meth : Method} {c : Code} {G : pm_G} {b L : Nat} {xs : Nat → Int32} {M0 : pm_M} {v1 : Nat} {v2 : Nat} {v3 : Int32} {s0 : Int32} {s1 : Nat} {s2 : Int32} {s3 : Int32} {cells slots : Nat} {M : pm_M} {k_18 : Int32 → pm_M → Prop} (E : pm_E G p s m #[Value.ref b] meth c code 4 RL) (hret : lw_At p s m meth c b L xs) (hc : cells + 4 ≤ 600000 ∧ slots + 4107 ≤ 7302250) (hk_18 : ∀ (v3 : Int32) (M : pm_M) (H : Heap) (locs : List Loc) (ls : Array Slot), pm_X M0 M → pm_I G s.heap M H locs → (pm_is M v1 8) → (pm_is M v2 9) → lv_has ls 4 [(0, .ref b), (1, .ref (s.heap.size + v1)), (2, .ref (s.heap.size + v2)), (3, .int v3)] → k_18 v3 M → W p l e room_1 s m #[Value.ref b] below meth c H locs (cells + 4) (slots + 4107) (lw_Z below #[Value.ref b] s) (F0 m 18 ls [])) {H : Heap} {locs : List Loc} {ls : Array Slot} (hX : pm_X M0 M) (hI : pm_I G s.heap M H locs) (t_v1 : pm_is M v1 8) (t_v2 : pm_is M v2 9) (t_s1 : pm_is M s1 9) (hl : lv_has ls 4 [(0, .ref b), (1, .ref (s.heap.size + v1)), (2, .ref (s.heap.size + v2)), (3, .int v3)]) (hw : w_L_law_887 L xs k_18 v1 v2 v3 s0 s1 s2 s3 M) : W p l e room_1 s m #[Value.ref b] below meth c H locs cells slots (lw_Z below #[Value.ref b] s) (F0 m 887 ls [.int s3, .int s2, .ref (s.heap.size + s1), .int s0]) := by
  have hx := E.1
  have hb := E.2.1
  have hown := E.2.2.2.1
  have hts := E.2.2.2.2.1
  have hXs := hret.2.2.2.2.2.2.1
  have hbl := hret.2.2.2.2.2.2.2.1
  have hbA : ¬ (fun q : Nat => s.heap.size ≤ q) b := Nat.not_le.mpr hbl
  refine pm_nrm (cells' := cells + 0) (slots' := slots + 0) (g2 := F0 m 887 ls [.int s3, .int s2, .ref (s.heap.size + s1), .int s0]) rfl rfl rfl ?_
  obtain ⟨hc1, hc2⟩ := id hc
  unfold w_L_law_887 at hw
  refine pm_callV (As := [.int s2, .int s3]) (rest := [.int s0]) 2 E hI (k_X10_full t_s1 hw) t_s1 (by decide) rfl kc_X10_full kl_L_102 km_X10_full ks_X10_full ki_X10 (by decide +kernel) ⟨by decide, by decide⟩ rfl hl.1 rfl (by first | exact Nat.le_of_ble_eq_true rfl | (simp only [List.map, pm_rf_cat]; exact Nat.le_of_ble_eq_true rfl)) dL_law_887 ⟨by show cells + 0 + 0 ≤ 600000; omega, by show slots + 0 + 0 ≤ 7302250; omega⟩ (fun r9 M9 H locs hp hX1 hI => ?_)
  clear hw
  obtain ⟨r_1, rfl, rfl, hw⟩ := hp
  refine pm_nrm (cells' := cells + 0) (slots' := slots + 0) (g2 := F0 m 890 ls [.int r_1, .int s0]) rfl rfl rfl ?_
  refine lv_icmp_eq (tgt := 1205) hx hb dL_law_890 (by decide) (fun h_2 => ?_) (fun h_2 => ?_)
  · replace hw := hw.1 h_2
    refine W.widen (k := cells + 4) (n := slots + 4107) (by omega) (by omega) ?_
    exact c_L_law_1205 E hret hc hk_18 hX hI t_v1 t_v2 (lv_sub hl [0, 1, 2, 3] rfl) hw
  · replace hw := hw.2 h_2
    refine lv_iconst (v := (0 : Int32)) hx hb dL_law_893 (by decide) ?_
    exact hw.elim
set_option maxHeartbeats 4000000 in
set_option maxRecDepth 100000 in
theorem c_L_law_865 {p : Program} {l : Launch} {e : Env} {s : State} {m : MethodId} {below : List Frame} {meth : Method} {c : Code} {G : pm_G} {b L : Nat} {xs : Nat → Int32} {M0 : pm_M} {v1 : Nat} {v2 : Nat} {v3 : Int32} {s0 : Nat} {s1 : Int32} {s2 : Int32} {cells slots : Nat} {M : pm_M} {k_18 : Int32 → pm_M → Prop} (E : pm_E G p s m #[Value.ref b] meth c code 4 RL) (hret : lw_At p s m meth c b L xs) (hc : cells + 4 ≤ 600000 ∧ slots + 4107 ≤ 7302250) (hk_18 : ∀ (v3 : Int32) (M : pm_M) (H : Heap) (locs : List Loc) (ls : Array Slot), pm_X M0 M → pm_I G s.heap M H locs → (pm_is M v1 8) → (pm_is M v2 9) → lv_has ls 4 [(0, .ref b), (1, .ref (s.heap.size + v1)), (2, .ref (s.heap.size + v2)), (3, .int v3)] → k_18 v3 M → W p l e room_1 s m #[Value.ref b] below meth c H locs (cells + 4) (slots + 4107) (lw_Z below #[Value.ref b] s) (F0 m 18 ls [])) {H : Heap} {locs : List Loc} {ls : Array Slot} (hX : pm_X M0 M) (hI : pm_I G s.heap M H locs) (t_v1 : pm_is M v1 8) (t_v2 : pm_is M v2 9) (t_s0 : pm_is M s0 8) (hl : lv_has ls 4 [(0, .ref b), (1, .ref (s.heap.size + v1)), (2, .ref (s.heap.size + v2)), (3, .int v3)]) (hw : w_L_law_865 L xs k_18 v1 v2 v3 s0 s1 s2 M) : W p l e room_1 s m #[Value.ref b] below meth c H locs cells slots (lw_Z below #[Value.ref b] s) (F0 m 865 ls [.int s2, .int s1, .ref (s.heap.size + s0)]) := by
  have hx := E.1
  have hb := E.2.1
  have hown := E.2.2.2.1
  have hts := E.2.2.2.2.1
  have hXs := hret.2.2.2.2.2.2.1
  have hbl := hret.2.2.2.2.2.2.2.1
  have hbA : ¬ (fun q : Nat => s.heap.size ≤ q) b := Nat.not_le.mpr hbl
  refine pm_nrm (cells' := cells + 0) (slots' := slots + 0) (g2 := F0 m 865 ls [.int s2, .int s1, .ref (s.heap.size + s0)]) rfl rfl rfl ?_
  obtain ⟨hc1, hc2⟩ := id hc
  unfold w_L_law_865 at hw
  refine pm_callV (As := [.int s1, .int s2]) (rest := []) 2 E hI (k_X9_full t_s0 hw) t_s0 (by decide) rfl kc_X9_full kl_L_98 km_X9_full ks_X9_full ki_X9 (by decide +kernel) ⟨by decide, by decide⟩ rfl hl.1 rfl (by first | exact Nat.le_of_ble_eq_true rfl | (simp only [List.map, pm_rf_cat]; exact Nat.le_of_ble_eq_true rfl)) dL_law_865 ⟨by show cells + 0 + 0 ≤ 600000; omega, by show slots + 0 + 0 ≤ 7302250; omega⟩ (fun r9 M9 H locs hp hX1 hI => ?_)
  clear hw
  obtain ⟨r_1, rfl, rfl, hw⟩ := hp
  refine pm_nrm (cells' := cells + 0) (slots' := slots + 0) (g2 := F0 m 868 ls [.int r_1]) rfl rfl rfl ?_
  refine lv_aload_n hx hb dL_law_868 rfl (lv_at hl 2 rfl) ?_
  refine lv_aload_n hx hb dL_law_869 rfl (lv_at hl 0 rfl) ?_
  refine lv_iload_n hx hb dL_law_870 rfl (lv_at hl 3 rfl) ?_
  refine lv_iconst (v := (1 : Int32)) hx hb dL_law_871 (by decide) ?_
  refine lv_iadd hx hb dL_law_872 ?_
  obtain ⟨h_2, hw⟩ := hw
  refine va_sld hx hb hXs hbl hbA hI.2.2.1 h_2 dL_law_873 ?_
  refine lv_aload_n hx hb dL_law_874 rfl (lv_at hl 0 rfl) ?_
  refine lv_iload_n hx hb dL_law_875 rfl (lv_at hl 3 rfl) ?_
  refine lv_iconst (v := (2 : Int32)) hx hb dL_law_876 (by decide) ?_
  refine lv_iadd hx hb dL_law_877 ?_
  obtain ⟨h_3, hw⟩ := hw
  refine va_sld hx hb hXs hbl hbA hI.2.2.1 h_3 dL_law_878 ?_
  refine lv_if_eq (tgt := 886) hx hb dL_law_879 (by decide) (fun h_4 => ?_) (fun h_4 => ?_)
  · replace hw := hw.1 h_4
    refine lv_iconst (v := (0 : Int32)) hx hb dL_law_886 (by decide) ?_
    refine pm_nrm (cells' := cells) (slots' := slots) (g2 := F0 m 887 ls [.int (0 : Int32), .int (xs (v3 + (1 : Int32)).toNatClampNeg), .ref (s.heap.size + v2), .int r_1]) rfl rfl rfl ?_
    exact c_L_law_887 E hret hc hk_18 hX hI t_v1 t_v2 t_v2 (lv_sub hl [0, 1, 2, 3] rfl) hw
  · replace hw := hw.2 h_4
    refine lv_iconst (v := (1 : Int32)) hx hb dL_law_882 (by decide) ?_
    refine lv_goto (tgt := 887) hx hb dL_law_883 (by decide) ?_
    refine pm_nrm (cells' := cells) (slots' := slots) (g2 := F0 m 887 ls [.int (1 : Int32), .int (xs (v3 + (1 : Int32)).toNatClampNeg), .ref (s.heap.size + v2), .int r_1]) rfl rfl rfl ?_
    exact c_L_law_887 E hret hc hk_18 hX hI t_v1 t_v2 t_v2 (lv_sub hl [0, 1, 2, 3] rfl) hw
set_option maxHeartbeats 4000000 in
set_option maxRecDepth 100000 in
theorem c_L_law_846 {p : Program} {l : Launch} {e : Env} {s : State} {m : MethodId} {below : List Frame} {meth : Method} {c : Code} {G : pm_G} {b L : Nat} {xs : Nat → Int32} {M0 : pm_M} {v1 : Nat} {v2 : Nat} {v3 : Int32} {cells slots : Nat} {M : pm_M} {k_18 : Int32 → pm_M → Prop} (E : pm_E G p s m #[Value.ref b] meth c code 4 RL) (hret : lw_At p s m meth c b L xs) (hc : cells + 4 ≤ 600000 ∧ slots + 4107 ≤ 7302250) (hk_18 : ∀ (v3 : Int32) (M : pm_M) (H : Heap) (locs : List Loc) (ls : Array Slot), pm_X M0 M → pm_I G s.heap M H locs → (pm_is M v1 8) → (pm_is M v2 9) → lv_has ls 4 [(0, .ref b), (1, .ref (s.heap.size + v1)), (2, .ref (s.heap.size + v2)), (3, .int v3)] → k_18 v3 M → W p l e room_1 s m #[Value.ref b] below meth c H locs (cells + 4) (slots + 4107) (lw_Z below #[Value.ref b] s) (F0 m 18 ls [])) {H : Heap} {locs : List Loc} {ls : Array Slot} (hX : pm_X M0 M) (hI : pm_I G s.heap M H locs) (t_v1 : pm_is M v1 8) (t_v2 : pm_is M v2 9) (hl : lv_has ls 4 [(0, .ref b), (1, .ref (s.heap.size + v1)), (2, .ref (s.heap.size + v2)), (3, .int v3)]) (hw : w_L_law_846 L xs k_18 v1 v2 v3 M) : W p l e room_1 s m #[Value.ref b] below meth c H locs cells slots (lw_Z below #[Value.ref b] s) (F0 m 846 ls []) := by
  have hx := E.1
  have hb := E.2.1
  have hown := E.2.2.2.1
  have hts := E.2.2.2.2.1
  have hXs := hret.2.2.2.2.2.2.1
  have hbl := hret.2.2.2.2.2.2.2.1
  have hbA : ¬ (fun q : Nat => s.heap.size ≤ q) b := Nat.not_le.mpr hbl
  refine pm_nrm (cells' := cells + 0) (slots' := slots + 0) (g2 := F0 m 846 ls []) rfl rfl rfl ?_
  obtain ⟨hc1, hc2⟩ := id hc
  unfold w_L_law_846 at hw
  refine lv_aload_n hx hb dL_law_846 rfl (lv_at hl 1 rfl) ?_
  refine lv_aload_n hx hb dL_law_847 rfl (lv_at hl 0 rfl) ?_
  refine lv_iload_n hx hb dL_law_848 rfl (lv_at hl 3 rfl) ?_
  refine lv_iconst (v := (1 : Int32)) hx hb dL_law_849 (by decide) ?_
  refine lv_iadd hx hb dL_law_850 ?_
  obtain ⟨h_1, hw⟩ := hw
  refine va_sld hx hb hXs hbl hbA hI.2.2.1 h_1 dL_law_851 ?_
  refine lv_aload_n hx hb dL_law_852 rfl (lv_at hl 0 rfl) ?_
  refine lv_iload_n hx hb dL_law_853 rfl (lv_at hl 3 rfl) ?_
  refine lv_iconst (v := (2 : Int32)) hx hb dL_law_854 (by decide) ?_
  refine lv_iadd hx hb dL_law_855 ?_
  obtain ⟨h_2, hw⟩ := hw
  refine va_sld hx hb hXs hbl hbA hI.2.2.1 h_2 dL_law_856 ?_
  refine lv_if_eq (tgt := 864) hx hb dL_law_857 (by decide) (fun h_3 => ?_) (fun h_3 => ?_)
  · replace hw := hw.1 h_3
    refine lv_iconst (v := (0 : Int32)) hx hb dL_law_864 (by decide) ?_
    refine pm_nrm (cells' := cells) (slots' := slots) (g2 := F0 m 865 ls [.int (0 : Int32), .int (xs (v3 + (1 : Int32)).toNatClampNeg), .ref (s.heap.size + v1)]) rfl rfl rfl ?_
    exact c_L_law_865 E hret hc hk_18 hX hI t_v1 t_v2 t_v1 (lv_sub hl [0, 1, 2, 3] rfl) hw
  · replace hw := hw.2 h_3
    refine lv_iconst (v := (1 : Int32)) hx hb dL_law_860 (by decide) ?_
    refine lv_goto (tgt := 865) hx hb dL_law_861 (by decide) ?_
    refine pm_nrm (cells' := cells) (slots' := slots) (g2 := F0 m 865 ls [.int (1 : Int32), .int (xs (v3 + (1 : Int32)).toNatClampNeg), .ref (s.heap.size + v1)]) rfl rfl rfl ?_
    exact c_L_law_865 E hret hc hk_18 hX hI t_v1 t_v2 t_v1 (lv_sub hl [0, 1, 2, 3] rfl) hw
set_option maxHeartbeats 4000000 in
set_option maxRecDepth 100000 in
theorem c_L_law_803 {p : Program} {l : Launch} {e : Env} {s : State} {m : MethodId} {below : List Frame} {meth : Method} {c : Code} {G : pm_G} {b L : Nat} {xs : Nat → Int32} {M0 : pm_M} {v1 : Nat} {v2 : Nat} {v3 : Int32} {cells slots : Nat} {M : pm_M} {k_18 : Int32 → pm_M → Prop} (E : pm_E G p s m #[Value.ref b] meth c code 4 RL) (hret : lw_At p s m meth c b L xs) (hc : cells + 4 ≤ 600000 ∧ slots + 4107 ≤ 7302250) (hk_18 : ∀ (v3 : Int32) (M : pm_M) (H : Heap) (locs : List Loc) (ls : Array Slot), pm_X M0 M → pm_I G s.heap M H locs → (pm_is M v1 8) → (pm_is M v2 9) → lv_has ls 4 [(0, .ref b), (1, .ref (s.heap.size + v1)), (2, .ref (s.heap.size + v2)), (3, .int v3)] → k_18 v3 M → W p l e room_1 s m #[Value.ref b] below meth c H locs (cells + 4) (slots + 4107) (lw_Z below #[Value.ref b] s) (F0 m 18 ls [])) {H : Heap} {locs : List Loc} {ls : Array Slot} (hX : pm_X M0 M) (hI : pm_I G s.heap M H locs) (t_v1 : pm_is M v1 8) (t_v2 : pm_is M v2 9) (hl : lv_has ls 4 [(0, .ref b), (1, .ref (s.heap.size + v1)), (2, .ref (s.heap.size + v2)), (3, .int v3)]) (hw : w_L_law_803 L xs k_18 v1 v2 v3 M) : W p l e room_1 s m #[Value.ref b] below meth c H locs cells slots (lw_Z below #[Value.ref b] s) (F0 m 803 ls []) := by
  have hx := E.1
  have hb := E.2.1
  have hown := E.2.2.2.1
  have hts := E.2.2.2.2.1
  have hXs := hret.2.2.2.2.2.2.1
  have hbl := hret.2.2.2.2.2.2.2.1
  have hbA : ¬ (fun q : Nat => s.heap.size ≤ q) b := Nat.not_le.mpr hbl
  refine pm_nrm (cells' := cells + 0) (slots' := slots + 0) (g2 := F0 m 803 ls []) rfl rfl rfl ?_
  obtain ⟨hc1, hc2⟩ := id hc
  unfold w_L_law_803 at hw
  refine lv_aload_n hx hb dL_law_803 rfl (lv_at hl 1 rfl) ?_
  refine lv_aload_n hx hb dL_law_804 rfl (lv_at hl 0 rfl) ?_
  refine lv_iload_n hx hb dL_law_805 rfl (lv_at hl 3 rfl) ?_
  refine lv_iconst (v := (1 : Int32)) hx hb dL_law_806 (by decide) ?_
  refine lv_iadd hx hb dL_law_807 ?_
  obtain ⟨h_1, hw⟩ := hw
  refine va_sld hx hb hXs hbl hbA hI.2.2.1 h_1 dL_law_808 ?_
  refine lv_aload_n hx hb dL_law_809 rfl (lv_at hl 0 rfl) ?_
  refine lv_iload_n hx hb dL_law_810 rfl (lv_at hl 3 rfl) ?_
  refine lv_iconst (v := (2 : Int32)) hx hb dL_law_811 (by decide) ?_
  refine lv_iadd hx hb dL_law_812 ?_
  obtain ⟨h_2, hw⟩ := hw
  refine va_sld hx hb hXs hbl hbA hI.2.2.1 h_2 dL_law_813 ?_
  refine lv_aload_n hx hb dL_law_814 rfl (lv_at hl 0 rfl) ?_
  refine lv_iload_n hx hb dL_law_815 rfl (lv_at hl 3 rfl) ?_
  refine lv_iconst (v := (3 : Int32)) hx hb dL_law_816 (by decide) ?_
  refine lv_iadd hx hb dL_law_817 ?_
  obtain ⟨h_3, hw⟩ := hw
  refine va_sld hx hb hXs hbl hbA hI.2.2.1 h_3 dL_law_818 ?_
  refine pm_callV (As := [.int (xs (v3 + (1 : Int32)).toNatClampNeg), .int (xs (v3 + (2 : Int32)).toNatClampNeg), .int (xs (v3 + (3 : Int32)).toNatClampNeg)]) (rest := []) 3 E hI (k_X9_exchange t_v1 hw) t_v1 (by decide) rfl kc_X9_exchange kl_L_94 km_X9_exchange ks_X9_exchange ki_X9 (by decide +kernel) ⟨by decide, by decide⟩ rfl hl.1 rfl (by first | exact Nat.le_of_ble_eq_true rfl | (simp only [List.map, pm_rf_cat]; exact Nat.le_of_ble_eq_true rfl)) dL_law_819 ⟨by show cells + 0 + 0 ≤ 600000; omega, by show slots + 0 + 0 ≤ 7302250; omega⟩ (fun r9 M9 H locs hp hX1 hI => ?_)
  clear hw
  obtain ⟨r_4, rfl, rfl, hw⟩ := hp
  refine pm_nrm (cells' := cells + 0) (slots' := slots + 0) (g2 := F0 m 822 ls [.int r_4]) rfl rfl rfl ?_
  refine lv_aload_n hx hb dL_law_822 rfl (lv_at hl 2 rfl) ?_
  refine lv_aload_n hx hb dL_law_823 rfl (lv_at hl 0 rfl) ?_
  refine lv_iload_n hx hb dL_law_824 rfl (lv_at hl 3 rfl) ?_
  refine lv_iconst (v := (1 : Int32)) hx hb dL_law_825 (by decide) ?_
  refine lv_iadd hx hb dL_law_826 ?_
  obtain ⟨h_5, hw⟩ := hw
  refine va_sld hx hb hXs hbl hbA hI.2.2.1 h_5 dL_law_827 ?_
  refine lv_aload_n hx hb dL_law_828 rfl (lv_at hl 0 rfl) ?_
  refine lv_iload_n hx hb dL_law_829 rfl (lv_at hl 3 rfl) ?_
  refine lv_iconst (v := (2 : Int32)) hx hb dL_law_830 (by decide) ?_
  refine lv_iadd hx hb dL_law_831 ?_
  obtain ⟨h_6, hw⟩ := hw
  refine va_sld hx hb hXs hbl hbA hI.2.2.1 h_6 dL_law_832 ?_
  refine lv_aload_n hx hb dL_law_833 rfl (lv_at hl 0 rfl) ?_
  refine lv_iload_n hx hb dL_law_834 rfl (lv_at hl 3 rfl) ?_
  refine lv_iconst (v := (3 : Int32)) hx hb dL_law_835 (by decide) ?_
  refine lv_iadd hx hb dL_law_836 ?_
  obtain ⟨h_7, hw⟩ := hw
  refine va_sld hx hb hXs hbl hbA hI.2.2.1 h_7 dL_law_837 ?_
  refine pm_callV (As := [.int (xs (v3 + (1 : Int32)).toNatClampNeg), .int (xs (v3 + (2 : Int32)).toNatClampNeg), .int (xs (v3 + (3 : Int32)).toNatClampNeg)]) (rest := [.int r_4]) 3 E hI (k_X10_exchange t_v2 hw) t_v2 (by decide) rfl kc_X10_exchange kl_L_97 km_X10_exchange ks_X10_exchange ki_X10 (by decide +kernel) ⟨by decide, by decide⟩ rfl hl.1 rfl (by first | exact Nat.le_of_ble_eq_true rfl | (simp only [List.map, pm_rf_cat]; exact Nat.le_of_ble_eq_true rfl)) dL_law_838 ⟨by show cells + 0 + 0 ≤ 600000; omega, by show slots + 0 + 0 ≤ 7302250; omega⟩ (fun r9 M9 H locs hp hX1 hI => ?_)
  clear hw
  obtain ⟨r_8, rfl, rfl, hw⟩ := hp
  refine pm_nrm (cells' := cells + 0) (slots' := slots + 0) (g2 := F0 m 841 ls [.int r_8, .int r_4]) rfl rfl rfl ?_
  refine lv_icmp_eq (tgt := 1205) hx hb dL_law_841 (by decide) (fun h_9 => ?_) (fun h_9 => ?_)
  · replace hw := hw.1 h_9
    refine W.widen (k := cells + 4) (n := slots + 4107) (by omega) (by omega) ?_
    exact c_L_law_1205 E hret hc hk_18 hX hI t_v1 t_v2 (lv_sub hl [0, 1, 2, 3] rfl) hw
  · replace hw := hw.2 h_9
    refine lv_iconst (v := (0 : Int32)) hx hb dL_law_844 (by decide) ?_
    exact hw.elim
set_option maxHeartbeats 4000000 in
set_option maxRecDepth 100000 in
theorem c_L_law_770 {p : Program} {l : Launch} {e : Env} {s : State} {m : MethodId} {below : List Frame} {meth : Method} {c : Code} {G : pm_G} {b L : Nat} {xs : Nat → Int32} {M0 : pm_M} {v1 : Nat} {v2 : Nat} {v3 : Int32} {cells slots : Nat} {M : pm_M} {k_18 : Int32 → pm_M → Prop} (E : pm_E G p s m #[Value.ref b] meth c code 4 RL) (hret : lw_At p s m meth c b L xs) (hc : cells + 4 ≤ 600000 ∧ slots + 4107 ≤ 7302250) (hk_18 : ∀ (v3 : Int32) (M : pm_M) (H : Heap) (locs : List Loc) (ls : Array Slot), pm_X M0 M → pm_I G s.heap M H locs → (pm_is M v1 8) → (pm_is M v2 9) → lv_has ls 4 [(0, .ref b), (1, .ref (s.heap.size + v1)), (2, .ref (s.heap.size + v2)), (3, .int v3)] → k_18 v3 M → W p l e room_1 s m #[Value.ref b] below meth c H locs (cells + 4) (slots + 4107) (lw_Z below #[Value.ref b] s) (F0 m 18 ls [])) {H : Heap} {locs : List Loc} {ls : Array Slot} (hX : pm_X M0 M) (hI : pm_I G s.heap M H locs) (t_v1 : pm_is M v1 8) (t_v2 : pm_is M v2 9) (hl : lv_has ls 4 [(0, .ref b), (1, .ref (s.heap.size + v1)), (2, .ref (s.heap.size + v2)), (3, .int v3)]) (hw : w_L_law_770 L xs k_18 v1 v2 v3 M) : W p l e room_1 s m #[Value.ref b] below meth c H locs cells slots (lw_Z below #[Value.ref b] s) (F0 m 770 ls []) := by
  have hx := E.1
  have hb := E.2.1
  have hown := E.2.2.2.1
  have hts := E.2.2.2.2.1
  have hXs := hret.2.2.2.2.2.2.1
  have hbl := hret.2.2.2.2.2.2.2.1
  have hbA : ¬ (fun q : Nat => s.heap.size ≤ q) b := Nat.not_le.mpr hbl
  refine pm_nrm (cells' := cells + 0) (slots' := slots + 0) (g2 := F0 m 770 ls []) rfl rfl rfl ?_
  obtain ⟨hc1, hc2⟩ := id hc
  unfold w_L_law_770 at hw
  refine lv_aload_n hx hb dL_law_770 rfl (lv_at hl 1 rfl) ?_
  refine lv_aload_n hx hb dL_law_771 rfl (lv_at hl 0 rfl) ?_
  refine lv_iload_n hx hb dL_law_772 rfl (lv_at hl 3 rfl) ?_
  refine lv_iconst (v := (1 : Int32)) hx hb dL_law_773 (by decide) ?_
  refine lv_iadd hx hb dL_law_774 ?_
  obtain ⟨h_1, hw⟩ := hw
  refine va_sld hx hb hXs hbl hbA hI.2.2.1 h_1 dL_law_775 ?_
  refine lv_aload_n hx hb dL_law_776 rfl (lv_at hl 0 rfl) ?_
  refine lv_iload_n hx hb dL_law_777 rfl (lv_at hl 3 rfl) ?_
  refine lv_iconst (v := (2 : Int32)) hx hb dL_law_778 (by decide) ?_
  refine lv_iadd hx hb dL_law_779 ?_
  obtain ⟨h_2, hw⟩ := hw
  refine va_sld hx hb hXs hbl hbA hI.2.2.1 h_2 dL_law_780 ?_
  refine pm_callV (As := [.int (xs (v3 + (1 : Int32)).toNatClampNeg), .int (xs (v3 + (2 : Int32)).toNatClampNeg)]) (rest := []) 2 E hI (k_X9_ring t_v1 hw) t_v1 (by decide) rfl kc_X9_ring kl_L_90 km_X9_ring ks_X9_ring ki_X9 (by decide +kernel) ⟨by decide, by decide⟩ rfl hl.1 rfl (by first | exact Nat.le_of_ble_eq_true rfl | (simp only [List.map, pm_rf_cat]; exact Nat.le_of_ble_eq_true rfl)) dL_law_781 ⟨by show cells + 0 + 0 ≤ 600000; omega, by show slots + 0 + 0 ≤ 7302250; omega⟩ (fun r9 M9 H locs hp hX1 hI => ?_)
  clear hw
  obtain ⟨r_3, rfl, rfl, hw⟩ := hp
  refine pm_nrm (cells' := cells + 0) (slots' := slots + 0) (g2 := F0 m 784 ls [.int r_3]) rfl rfl rfl ?_
  refine lv_aload_n hx hb dL_law_784 rfl (lv_at hl 2 rfl) ?_
  refine lv_aload_n hx hb dL_law_785 rfl (lv_at hl 0 rfl) ?_
  refine lv_iload_n hx hb dL_law_786 rfl (lv_at hl 3 rfl) ?_
  refine lv_iconst (v := (1 : Int32)) hx hb dL_law_787 (by decide) ?_
  refine lv_iadd hx hb dL_law_788 ?_
  obtain ⟨h_4, hw⟩ := hw
  refine va_sld hx hb hXs hbl hbA hI.2.2.1 h_4 dL_law_789 ?_
  refine lv_aload_n hx hb dL_law_790 rfl (lv_at hl 0 rfl) ?_
  refine lv_iload_n hx hb dL_law_791 rfl (lv_at hl 3 rfl) ?_
  refine lv_iconst (v := (2 : Int32)) hx hb dL_law_792 (by decide) ?_
  refine lv_iadd hx hb dL_law_793 ?_
  obtain ⟨h_5, hw⟩ := hw
  refine va_sld hx hb hXs hbl hbA hI.2.2.1 h_5 dL_law_794 ?_
  refine pm_callV (As := [.int (xs (v3 + (1 : Int32)).toNatClampNeg), .int (xs (v3 + (2 : Int32)).toNatClampNeg)]) (rest := [.int r_3]) 2 E hI (k_X10_ring t_v2 hw) t_v2 (by decide) rfl kc_X10_ring kl_L_93 km_X10_ring ks_X10_ring ki_X10 (by decide +kernel) ⟨by decide, by decide⟩ rfl hl.1 rfl (by first | exact Nat.le_of_ble_eq_true rfl | (simp only [List.map, pm_rf_cat]; exact Nat.le_of_ble_eq_true rfl)) dL_law_795 ⟨by show cells + 0 + 0 ≤ 600000; omega, by show slots + 0 + 0 ≤ 7302250; omega⟩ (fun r9 M9 H locs hp hX1 hI => ?_)
  clear hw
  obtain ⟨r_6, rfl, rfl, hw⟩ := hp
  refine pm_nrm (cells' := cells + 0) (slots' := slots + 0) (g2 := F0 m 798 ls [.int r_6, .int r_3]) rfl rfl rfl ?_
  refine lv_icmp_eq (tgt := 1205) hx hb dL_law_798 (by decide) (fun h_7 => ?_) (fun h_7 => ?_)
  · replace hw := hw.1 h_7
    refine W.widen (k := cells + 4) (n := slots + 4107) (by omega) (by omega) ?_
    exact c_L_law_1205 E hret hc hk_18 hX hI t_v1 t_v2 (lv_sub hl [0, 1, 2, 3] rfl) hw
  · replace hw := hw.2 h_7
    refine lv_iconst (v := (0 : Int32)) hx hb dL_law_801 (by decide) ?_
    exact hw.elim
set_option maxHeartbeats 4000000 in
set_option maxRecDepth 100000 in
theorem c_L_law_737 {p : Program} {l : Launch} {e : Env} {s : State} {m : MethodId} {below : List Frame} {meth : Method} {c : Code} {G : pm_G} {b L : Nat} {xs : Nat → Int32} {M0 : pm_M} {v1 : Nat} {v2 : Nat} {v3 : Int32} {cells slots : Nat} {M : pm_M} {k_18 : Int32 → pm_M → Prop} (E : pm_E G p s m #[Value.ref b] meth c code 4 RL) (hret : lw_At p s m meth c b L xs) (hc : cells + 4 ≤ 600000 ∧ slots + 4107 ≤ 7302250) (hk_18 : ∀ (v3 : Int32) (M : pm_M) (H : Heap) (locs : List Loc) (ls : Array Slot), pm_X M0 M → pm_I G s.heap M H locs → (pm_is M v1 8) → (pm_is M v2 9) → lv_has ls 4 [(0, .ref b), (1, .ref (s.heap.size + v1)), (2, .ref (s.heap.size + v2)), (3, .int v3)] → k_18 v3 M → W p l e room_1 s m #[Value.ref b] below meth c H locs (cells + 4) (slots + 4107) (lw_Z below #[Value.ref b] s) (F0 m 18 ls [])) {H : Heap} {locs : List Loc} {ls : Array Slot} (hX : pm_X M0 M) (hI : pm_I G s.heap M H locs) (t_v1 : pm_is M v1 8) (t_v2 : pm_is M v2 9) (hl : lv_has ls 4 [(0, .ref b), (1, .ref (s.heap.size + v1)), (2, .ref (s.heap.size + v2)), (3, .int v3)]) (hw : w_L_law_737 L xs k_18 v1 v2 v3 M) : W p l e room_1 s m #[Value.ref b] below meth c H locs cells slots (lw_Z below #[Value.ref b] s) (F0 m 737 ls []) := by
  have hx := E.1
  have hb := E.2.1
  have hown := E.2.2.2.1
  have hts := E.2.2.2.2.1
  have hXs := hret.2.2.2.2.2.2.1
  have hbl := hret.2.2.2.2.2.2.2.1
  have hbA : ¬ (fun q : Nat => s.heap.size ≤ q) b := Nat.not_le.mpr hbl
  refine pm_nrm (cells' := cells + 0) (slots' := slots + 0) (g2 := F0 m 737 ls []) rfl rfl rfl ?_
  obtain ⟨hc1, hc2⟩ := id hc
  unfold w_L_law_737 at hw
  refine lv_aload_n hx hb dL_law_737 rfl (lv_at hl 1 rfl) ?_
  refine lv_aload_n hx hb dL_law_738 rfl (lv_at hl 0 rfl) ?_
  refine lv_iload_n hx hb dL_law_739 rfl (lv_at hl 3 rfl) ?_
  refine lv_iconst (v := (1 : Int32)) hx hb dL_law_740 (by decide) ?_
  refine lv_iadd hx hb dL_law_741 ?_
  obtain ⟨h_1, hw⟩ := hw
  refine va_sld hx hb hXs hbl hbA hI.2.2.1 h_1 dL_law_742 ?_
  refine lv_aload_n hx hb dL_law_743 rfl (lv_at hl 0 rfl) ?_
  refine lv_iload_n hx hb dL_law_744 rfl (lv_at hl 3 rfl) ?_
  refine lv_iconst (v := (2 : Int32)) hx hb dL_law_745 (by decide) ?_
  refine lv_iadd hx hb dL_law_746 ?_
  obtain ⟨h_2, hw⟩ := hw
  refine va_sld hx hb hXs hbl hbA hI.2.2.1 h_2 dL_law_747 ?_
  refine pm_callV (As := [.int (xs (v3 + (1 : Int32)).toNatClampNeg), .int (xs (v3 + (2 : Int32)).toNatClampNeg)]) (rest := []) 2 E hI (k_X9_span t_v1 hw) t_v1 (by decide) rfl kc_X9_span kl_L_86 km_X9_span ks_X9_span ki_X9 (by decide +kernel) ⟨by decide, by decide⟩ rfl hl.1 rfl (by first | exact Nat.le_of_ble_eq_true rfl | (simp only [List.map, pm_rf_cat]; exact Nat.le_of_ble_eq_true rfl)) dL_law_748 ⟨by show cells + 0 + 0 ≤ 600000; omega, by show slots + 0 + 0 ≤ 7302250; omega⟩ (fun r9 M9 H locs hp hX1 hI => ?_)
  clear hw
  obtain ⟨r_3, rfl, rfl, hw⟩ := hp
  refine pm_nrm (cells' := cells + 0) (slots' := slots + 0) (g2 := F0 m 751 ls [.int r_3]) rfl rfl rfl ?_
  refine lv_aload_n hx hb dL_law_751 rfl (lv_at hl 2 rfl) ?_
  refine lv_aload_n hx hb dL_law_752 rfl (lv_at hl 0 rfl) ?_
  refine lv_iload_n hx hb dL_law_753 rfl (lv_at hl 3 rfl) ?_
  refine lv_iconst (v := (1 : Int32)) hx hb dL_law_754 (by decide) ?_
  refine lv_iadd hx hb dL_law_755 ?_
  obtain ⟨h_4, hw⟩ := hw
  refine va_sld hx hb hXs hbl hbA hI.2.2.1 h_4 dL_law_756 ?_
  refine lv_aload_n hx hb dL_law_757 rfl (lv_at hl 0 rfl) ?_
  refine lv_iload_n hx hb dL_law_758 rfl (lv_at hl 3 rfl) ?_
  refine lv_iconst (v := (2 : Int32)) hx hb dL_law_759 (by decide) ?_
  refine lv_iadd hx hb dL_law_760 ?_
  obtain ⟨h_5, hw⟩ := hw
  refine va_sld hx hb hXs hbl hbA hI.2.2.1 h_5 dL_law_761 ?_
  refine pm_callV (As := [.int (xs (v3 + (1 : Int32)).toNatClampNeg), .int (xs (v3 + (2 : Int32)).toNatClampNeg)]) (rest := [.int r_3]) 2 E hI (k_X10_span t_v2 hw) t_v2 (by decide) rfl kc_X10_span kl_L_89 km_X10_span ks_X10_span ki_X10 (by decide +kernel) ⟨by decide, by decide⟩ rfl hl.1 rfl (by first | exact Nat.le_of_ble_eq_true rfl | (simp only [List.map, pm_rf_cat]; exact Nat.le_of_ble_eq_true rfl)) dL_law_762 ⟨by show cells + 0 + 0 ≤ 600000; omega, by show slots + 0 + 0 ≤ 7302250; omega⟩ (fun r9 M9 H locs hp hX1 hI => ?_)
  clear hw
  obtain ⟨r_6, rfl, rfl, hw⟩ := hp
  refine pm_nrm (cells' := cells + 0) (slots' := slots + 0) (g2 := F0 m 765 ls [.int r_6, .int r_3]) rfl rfl rfl ?_
  refine lv_icmp_eq (tgt := 1205) hx hb dL_law_765 (by decide) (fun h_7 => ?_) (fun h_7 => ?_)
  · replace hw := hw.1 h_7
    refine W.widen (k := cells + 4) (n := slots + 4107) (by omega) (by omega) ?_
    exact c_L_law_1205 E hret hc hk_18 hX hI t_v1 t_v2 (lv_sub hl [0, 1, 2, 3] rfl) hw
  · replace hw := hw.2 h_7
    refine lv_iconst (v := (0 : Int32)) hx hb dL_law_768 (by decide) ?_
    exact hw.elim
set_option maxHeartbeats 4000000 in
set_option maxRecDepth 100000 in
theorem c_L_law_704 {p : Program} {l : Launch} {e : Env} {s : State} {m : MethodId} {below : List Frame} {meth : Method} {c : Code} {G : pm_G} {b L : Nat} {xs : Nat → Int32} {M0 : pm_M} {v1 : Nat} {v2 : Nat} {v3 : Int32} {cells slots : Nat} {M : pm_M} {k_18 : Int32 → pm_M → Prop} (E : pm_E G p s m #[Value.ref b] meth c code 4 RL) (hret : lw_At p s m meth c b L xs) (hc : cells + 4 ≤ 600000 ∧ slots + 4107 ≤ 7302250) (hk_18 : ∀ (v3 : Int32) (M : pm_M) (H : Heap) (locs : List Loc) (ls : Array Slot), pm_X M0 M → pm_I G s.heap M H locs → (pm_is M v1 8) → (pm_is M v2 9) → lv_has ls 4 [(0, .ref b), (1, .ref (s.heap.size + v1)), (2, .ref (s.heap.size + v2)), (3, .int v3)] → k_18 v3 M → W p l e room_1 s m #[Value.ref b] below meth c H locs (cells + 4) (slots + 4107) (lw_Z below #[Value.ref b] s) (F0 m 18 ls [])) {H : Heap} {locs : List Loc} {ls : Array Slot} (hX : pm_X M0 M) (hI : pm_I G s.heap M H locs) (t_v1 : pm_is M v1 8) (t_v2 : pm_is M v2 9) (hl : lv_has ls 4 [(0, .ref b), (1, .ref (s.heap.size + v1)), (2, .ref (s.heap.size + v2)), (3, .int v3)]) (hw : w_L_law_704 L xs k_18 v1 v2 v3 M) : W p l e room_1 s m #[Value.ref b] below meth c H locs cells slots (lw_Z below #[Value.ref b] s) (F0 m 704 ls []) := by
  have hx := E.1
  have hb := E.2.1
  have hown := E.2.2.2.1
  have hts := E.2.2.2.2.1
  have hXs := hret.2.2.2.2.2.2.1
  have hbl := hret.2.2.2.2.2.2.2.1
  have hbA : ¬ (fun q : Nat => s.heap.size ≤ q) b := Nat.not_le.mpr hbl
  refine pm_nrm (cells' := cells + 0) (slots' := slots + 0) (g2 := F0 m 704 ls []) rfl rfl rfl ?_
  obtain ⟨hc1, hc2⟩ := id hc
  unfold w_L_law_704 at hw
  refine lv_aload_n hx hb dL_law_704 rfl (lv_at hl 1 rfl) ?_
  refine lv_aload_n hx hb dL_law_705 rfl (lv_at hl 0 rfl) ?_
  refine lv_iload_n hx hb dL_law_706 rfl (lv_at hl 3 rfl) ?_
  refine lv_iconst (v := (1 : Int32)) hx hb dL_law_707 (by decide) ?_
  refine lv_iadd hx hb dL_law_708 ?_
  obtain ⟨h_1, hw⟩ := hw
  refine va_sld hx hb hXs hbl hbA hI.2.2.1 h_1 dL_law_709 ?_
  refine lv_aload_n hx hb dL_law_710 rfl (lv_at hl 0 rfl) ?_
  refine lv_iload_n hx hb dL_law_711 rfl (lv_at hl 3 rfl) ?_
  refine lv_iconst (v := (2 : Int32)) hx hb dL_law_712 (by decide) ?_
  refine lv_iadd hx hb dL_law_713 ?_
  obtain ⟨h_2, hw⟩ := hw
  refine va_sld hx hb hXs hbl hbA hI.2.2.1 h_2 dL_law_714 ?_
  refine pm_callV (As := [.int (xs (v3 + (1 : Int32)).toNatClampNeg), .int (xs (v3 + (2 : Int32)).toNatClampNeg)]) (rest := []) 2 E hI (k_X9_rank t_v1 hw) t_v1 (by decide) rfl kc_X9_rank kl_L_82 km_X9_rank ks_X9_rank ki_X9 (by decide +kernel) ⟨by decide, by decide⟩ rfl hl.1 rfl (by first | exact Nat.le_of_ble_eq_true rfl | (simp only [List.map, pm_rf_cat]; exact Nat.le_of_ble_eq_true rfl)) dL_law_715 ⟨by show cells + 0 + 0 ≤ 600000; omega, by show slots + 0 + 0 ≤ 7302250; omega⟩ (fun r9 M9 H locs hp hX1 hI => ?_)
  clear hw
  obtain ⟨r_3, rfl, rfl, hw⟩ := hp
  refine pm_nrm (cells' := cells + 0) (slots' := slots + 0) (g2 := F0 m 718 ls [.int r_3]) rfl rfl rfl ?_
  refine lv_aload_n hx hb dL_law_718 rfl (lv_at hl 2 rfl) ?_
  refine lv_aload_n hx hb dL_law_719 rfl (lv_at hl 0 rfl) ?_
  refine lv_iload_n hx hb dL_law_720 rfl (lv_at hl 3 rfl) ?_
  refine lv_iconst (v := (1 : Int32)) hx hb dL_law_721 (by decide) ?_
  refine lv_iadd hx hb dL_law_722 ?_
  obtain ⟨h_4, hw⟩ := hw
  refine va_sld hx hb hXs hbl hbA hI.2.2.1 h_4 dL_law_723 ?_
  refine lv_aload_n hx hb dL_law_724 rfl (lv_at hl 0 rfl) ?_
  refine lv_iload_n hx hb dL_law_725 rfl (lv_at hl 3 rfl) ?_
  refine lv_iconst (v := (2 : Int32)) hx hb dL_law_726 (by decide) ?_
  refine lv_iadd hx hb dL_law_727 ?_
  obtain ⟨h_5, hw⟩ := hw
  refine va_sld hx hb hXs hbl hbA hI.2.2.1 h_5 dL_law_728 ?_
  refine pm_callV (As := [.int (xs (v3 + (1 : Int32)).toNatClampNeg), .int (xs (v3 + (2 : Int32)).toNatClampNeg)]) (rest := [.int r_3]) 2 E hI (k_X10_rank t_v2 hw) t_v2 (by decide) rfl kc_X10_rank kl_L_85 km_X10_rank ks_X10_rank ki_X10 (by decide +kernel) ⟨by decide, by decide⟩ rfl hl.1 rfl (by first | exact Nat.le_of_ble_eq_true rfl | (simp only [List.map, pm_rf_cat]; exact Nat.le_of_ble_eq_true rfl)) dL_law_729 ⟨by show cells + 0 + 0 ≤ 600000; omega, by show slots + 0 + 0 ≤ 7302250; omega⟩ (fun r9 M9 H locs hp hX1 hI => ?_)
  clear hw
  obtain ⟨r_6, rfl, rfl, hw⟩ := hp
  refine pm_nrm (cells' := cells + 0) (slots' := slots + 0) (g2 := F0 m 732 ls [.int r_6, .int r_3]) rfl rfl rfl ?_
  refine lv_icmp_eq (tgt := 1205) hx hb dL_law_732 (by decide) (fun h_7 => ?_) (fun h_7 => ?_)
  · replace hw := hw.1 h_7
    refine W.widen (k := cells + 4) (n := slots + 4107) (by omega) (by omega) ?_
    exact c_L_law_1205 E hret hc hk_18 hX hI t_v1 t_v2 (lv_sub hl [0, 1, 2, 3] rfl) hw
  · replace hw := hw.2 h_7
    refine lv_iconst (v := (0 : Int32)) hx hb dL_law_735 (by decide) ?_
    exact hw.elim
set_option maxHeartbeats 4000000 in
set_option maxRecDepth 100000 in
theorem c_L_law_671 {p : Program} {l : Launch} {e : Env} {s : State} {m : MethodId} {below : List Frame} {meth : Method} {c : Code} {G : pm_G} {b L : Nat} {xs : Nat → Int32} {M0 : pm_M} {v1 : Nat} {v2 : Nat} {v3 : Int32} {cells slots : Nat} {M : pm_M} {k_18 : Int32 → pm_M → Prop} (E : pm_E G p s m #[Value.ref b] meth c code 4 RL) (hret : lw_At p s m meth c b L xs) (hc : cells + 4 ≤ 600000 ∧ slots + 4107 ≤ 7302250) (hk_18 : ∀ (v3 : Int32) (M : pm_M) (H : Heap) (locs : List Loc) (ls : Array Slot), pm_X M0 M → pm_I G s.heap M H locs → (pm_is M v1 8) → (pm_is M v2 9) → lv_has ls 4 [(0, .ref b), (1, .ref (s.heap.size + v1)), (2, .ref (s.heap.size + v2)), (3, .int v3)] → k_18 v3 M → W p l e room_1 s m #[Value.ref b] below meth c H locs (cells + 4) (slots + 4107) (lw_Z below #[Value.ref b] s) (F0 m 18 ls [])) {H : Heap} {locs : List Loc} {ls : Array Slot} (hX : pm_X M0 M) (hI : pm_I G s.heap M H locs) (t_v1 : pm_is M v1 8) (t_v2 : pm_is M v2 9) (hl : lv_has ls 4 [(0, .ref b), (1, .ref (s.heap.size + v1)), (2, .ref (s.heap.size + v2)), (3, .int v3)]) (hw : w_L_law_671 L xs k_18 v1 v2 v3 M) : W p l e room_1 s m #[Value.ref b] below meth c H locs cells slots (lw_Z below #[Value.ref b] s) (F0 m 671 ls []) := by
  have hx := E.1
  have hb := E.2.1
  have hown := E.2.2.2.1
  have hts := E.2.2.2.2.1
  have hXs := hret.2.2.2.2.2.2.1
  have hbl := hret.2.2.2.2.2.2.2.1
  have hbA : ¬ (fun q : Nat => s.heap.size ≤ q) b := Nat.not_le.mpr hbl
  refine pm_nrm (cells' := cells + 0) (slots' := slots + 0) (g2 := F0 m 671 ls []) rfl rfl rfl ?_
  obtain ⟨hc1, hc2⟩ := id hc
  unfold w_L_law_671 at hw
  refine lv_aload_n hx hb dL_law_671 rfl (lv_at hl 1 rfl) ?_
  refine lv_aload_n hx hb dL_law_672 rfl (lv_at hl 0 rfl) ?_
  refine lv_iload_n hx hb dL_law_673 rfl (lv_at hl 3 rfl) ?_
  refine lv_iconst (v := (1 : Int32)) hx hb dL_law_674 (by decide) ?_
  refine lv_iadd hx hb dL_law_675 ?_
  obtain ⟨h_1, hw⟩ := hw
  refine va_sld hx hb hXs hbl hbA hI.2.2.1 h_1 dL_law_676 ?_
  refine lv_aload_n hx hb dL_law_677 rfl (lv_at hl 0 rfl) ?_
  refine lv_iload_n hx hb dL_law_678 rfl (lv_at hl 3 rfl) ?_
  refine lv_iconst (v := (2 : Int32)) hx hb dL_law_679 (by decide) ?_
  refine lv_iadd hx hb dL_law_680 ?_
  obtain ⟨h_2, hw⟩ := hw
  refine va_sld hx hb hXs hbl hbA hI.2.2.1 h_2 dL_law_681 ?_
  refine pm_callV (As := [.int (xs (v3 + (1 : Int32)).toNatClampNeg), .int (xs (v3 + (2 : Int32)).toNatClampNeg)]) (rest := []) 2 E hI (k_X9_allows t_v1 hw) t_v1 (by decide) rfl kc_X9_allows kl_L_78 km_X9_allows ks_X9_allows ki_X9 (by decide +kernel) ⟨by decide, by decide⟩ rfl hl.1 rfl (by first | exact Nat.le_of_ble_eq_true rfl | (simp only [List.map, pm_rf_cat]; exact Nat.le_of_ble_eq_true rfl)) dL_law_682 ⟨by show cells + 0 + 0 ≤ 600000; omega, by show slots + 0 + 0 ≤ 7302250; omega⟩ (fun r9 M9 H locs hp hX1 hI => ?_)
  clear hw
  obtain ⟨r_3, rfl, rfl, hw⟩ := hp
  refine pm_nrm (cells' := cells + 0) (slots' := slots + 0) (g2 := F0 m 685 ls [.int r_3]) rfl rfl rfl ?_
  refine lv_aload_n hx hb dL_law_685 rfl (lv_at hl 2 rfl) ?_
  refine lv_aload_n hx hb dL_law_686 rfl (lv_at hl 0 rfl) ?_
  refine lv_iload_n hx hb dL_law_687 rfl (lv_at hl 3 rfl) ?_
  refine lv_iconst (v := (1 : Int32)) hx hb dL_law_688 (by decide) ?_
  refine lv_iadd hx hb dL_law_689 ?_
  obtain ⟨h_4, hw⟩ := hw
  refine va_sld hx hb hXs hbl hbA hI.2.2.1 h_4 dL_law_690 ?_
  refine lv_aload_n hx hb dL_law_691 rfl (lv_at hl 0 rfl) ?_
  refine lv_iload_n hx hb dL_law_692 rfl (lv_at hl 3 rfl) ?_
  refine lv_iconst (v := (2 : Int32)) hx hb dL_law_693 (by decide) ?_
  refine lv_iadd hx hb dL_law_694 ?_
  obtain ⟨h_5, hw⟩ := hw
  refine va_sld hx hb hXs hbl hbA hI.2.2.1 h_5 dL_law_695 ?_
  refine pm_callV (As := [.int (xs (v3 + (1 : Int32)).toNatClampNeg), .int (xs (v3 + (2 : Int32)).toNatClampNeg)]) (rest := [.int r_3]) 2 E hI (k_X10_allows t_v2 hw) t_v2 (by decide) rfl kc_X10_allows kl_L_81 km_X10_allows ks_X10_allows ki_X10 (by decide +kernel) ⟨by decide, by decide⟩ rfl hl.1 rfl (by first | exact Nat.le_of_ble_eq_true rfl | (simp only [List.map, pm_rf_cat]; exact Nat.le_of_ble_eq_true rfl)) dL_law_696 ⟨by show cells + 0 + 0 ≤ 600000; omega, by show slots + 0 + 0 ≤ 7302250; omega⟩ (fun r9 M9 H locs hp hX1 hI => ?_)
  clear hw
  obtain ⟨r_6, rfl, rfl, hw⟩ := hp
  refine pm_nrm (cells' := cells + 0) (slots' := slots + 0) (g2 := F0 m 699 ls [.int r_6, .int r_3]) rfl rfl rfl ?_
  refine lv_icmp_eq (tgt := 1205) hx hb dL_law_699 (by decide) (fun h_7 => ?_) (fun h_7 => ?_)
  · replace hw := hw.1 h_7
    refine W.widen (k := cells + 4) (n := slots + 4107) (by omega) (by omega) ?_
    exact c_L_law_1205 E hret hc hk_18 hX hI t_v1 t_v2 (lv_sub hl [0, 1, 2, 3] rfl) hw
  · replace hw := hw.2 h_7
    refine lv_iconst (v := (0 : Int32)) hx hb dL_law_702 (by decide) ?_
    exact hw.elim
set_option maxHeartbeats 4000000 in
set_option maxRecDepth 100000 in
theorem c_L_law_638 {p : Program} {l : Launch} {e : Env} {s : State} {m : MethodId} {below : List Frame} {meth : Method} {c : Code} {G : pm_G} {b L : Nat} {xs : Nat → Int32} {M0 : pm_M} {v1 : Nat} {v2 : Nat} {v3 : Int32} {cells slots : Nat} {M : pm_M} {k_18 : Int32 → pm_M → Prop} (E : pm_E G p s m #[Value.ref b] meth c code 4 RL) (hret : lw_At p s m meth c b L xs) (hc : cells + 4 ≤ 600000 ∧ slots + 4107 ≤ 7302250) (hk_18 : ∀ (v3 : Int32) (M : pm_M) (H : Heap) (locs : List Loc) (ls : Array Slot), pm_X M0 M → pm_I G s.heap M H locs → (pm_is M v1 8) → (pm_is M v2 9) → lv_has ls 4 [(0, .ref b), (1, .ref (s.heap.size + v1)), (2, .ref (s.heap.size + v2)), (3, .int v3)] → k_18 v3 M → W p l e room_1 s m #[Value.ref b] below meth c H locs (cells + 4) (slots + 4107) (lw_Z below #[Value.ref b] s) (F0 m 18 ls [])) {H : Heap} {locs : List Loc} {ls : Array Slot} (hX : pm_X M0 M) (hI : pm_I G s.heap M H locs) (t_v1 : pm_is M v1 8) (t_v2 : pm_is M v2 9) (hl : lv_has ls 4 [(0, .ref b), (1, .ref (s.heap.size + v1)), (2, .ref (s.heap.size + v2)), (3, .int v3)]) (hw : w_L_law_638 L xs k_18 v1 v2 v3 M) : W p l e room_1 s m #[Value.ref b] below meth c H locs cells slots (lw_Z below #[Value.ref b] s) (F0 m 638 ls []) := by
  have hx := E.1
  have hb := E.2.1
  have hown := E.2.2.2.1
  have hts := E.2.2.2.2.1
  have hXs := hret.2.2.2.2.2.2.1
  have hbl := hret.2.2.2.2.2.2.2.1
  have hbA : ¬ (fun q : Nat => s.heap.size ≤ q) b := Nat.not_le.mpr hbl
  refine pm_nrm (cells' := cells + 0) (slots' := slots + 0) (g2 := F0 m 638 ls []) rfl rfl rfl ?_
  obtain ⟨hc1, hc2⟩ := id hc
  unfold w_L_law_638 at hw
  refine lv_aload_n hx hb dL_law_638 rfl (lv_at hl 1 rfl) ?_
  refine lv_aload_n hx hb dL_law_639 rfl (lv_at hl 0 rfl) ?_
  refine lv_iload_n hx hb dL_law_640 rfl (lv_at hl 3 rfl) ?_
  refine lv_iconst (v := (1 : Int32)) hx hb dL_law_641 (by decide) ?_
  refine lv_iadd hx hb dL_law_642 ?_
  obtain ⟨h_1, hw⟩ := hw
  refine va_sld hx hb hXs hbl hbA hI.2.2.1 h_1 dL_law_643 ?_
  refine lv_aload_n hx hb dL_law_644 rfl (lv_at hl 0 rfl) ?_
  refine lv_iload_n hx hb dL_law_645 rfl (lv_at hl 3 rfl) ?_
  refine lv_iconst (v := (2 : Int32)) hx hb dL_law_646 (by decide) ?_
  refine lv_iadd hx hb dL_law_647 ?_
  obtain ⟨h_2, hw⟩ := hw
  refine va_sld hx hb hXs hbl hbA hI.2.2.1 h_2 dL_law_648 ?_
  refine pm_callV (As := [.int (xs (v3 + (1 : Int32)).toNatClampNeg), .int (xs (v3 + (2 : Int32)).toNatClampNeg)]) (rest := []) 2 E hI (k_X9_look t_v1 hw) t_v1 (by decide) rfl kc_X9_look kl_L_74 km_X9_look ks_X9_look ki_X9 (by decide +kernel) ⟨by decide, by decide⟩ rfl hl.1 rfl (by first | exact Nat.le_of_ble_eq_true rfl | (simp only [List.map, pm_rf_cat]; exact Nat.le_of_ble_eq_true rfl)) dL_law_649 ⟨by show cells + 0 + 0 ≤ 600000; omega, by show slots + 0 + 0 ≤ 7302250; omega⟩ (fun r9 M9 H locs hp hX1 hI => ?_)
  clear hw
  obtain ⟨r_3, rfl, rfl, hw⟩ := hp
  refine pm_nrm (cells' := cells + 0) (slots' := slots + 0) (g2 := F0 m 652 ls [.int r_3]) rfl rfl rfl ?_
  refine lv_aload_n hx hb dL_law_652 rfl (lv_at hl 2 rfl) ?_
  refine lv_aload_n hx hb dL_law_653 rfl (lv_at hl 0 rfl) ?_
  refine lv_iload_n hx hb dL_law_654 rfl (lv_at hl 3 rfl) ?_
  refine lv_iconst (v := (1 : Int32)) hx hb dL_law_655 (by decide) ?_
  refine lv_iadd hx hb dL_law_656 ?_
  obtain ⟨h_4, hw⟩ := hw
  refine va_sld hx hb hXs hbl hbA hI.2.2.1 h_4 dL_law_657 ?_
  refine lv_aload_n hx hb dL_law_658 rfl (lv_at hl 0 rfl) ?_
  refine lv_iload_n hx hb dL_law_659 rfl (lv_at hl 3 rfl) ?_
  refine lv_iconst (v := (2 : Int32)) hx hb dL_law_660 (by decide) ?_
  refine lv_iadd hx hb dL_law_661 ?_
  obtain ⟨h_5, hw⟩ := hw
  refine va_sld hx hb hXs hbl hbA hI.2.2.1 h_5 dL_law_662 ?_
  refine pm_callV (As := [.int (xs (v3 + (1 : Int32)).toNatClampNeg), .int (xs (v3 + (2 : Int32)).toNatClampNeg)]) (rest := [.int r_3]) 2 E hI (k_X10_look t_v2 hw) t_v2 (by decide) rfl kc_X10_look kl_L_77 km_X10_look ks_X10_look ki_X10 (by decide +kernel) ⟨by decide, by decide⟩ rfl hl.1 rfl (by first | exact Nat.le_of_ble_eq_true rfl | (simp only [List.map, pm_rf_cat]; exact Nat.le_of_ble_eq_true rfl)) dL_law_663 ⟨by show cells + 0 + 0 ≤ 600000; omega, by show slots + 0 + 0 ≤ 7302250; omega⟩ (fun r9 M9 H locs hp hX1 hI => ?_)
  clear hw
  obtain ⟨r_6, rfl, rfl, hw⟩ := hp
  refine pm_nrm (cells' := cells + 0) (slots' := slots + 0) (g2 := F0 m 666 ls [.int r_6, .int r_3]) rfl rfl rfl ?_
  refine lv_icmp_eq (tgt := 1205) hx hb dL_law_666 (by decide) (fun h_7 => ?_) (fun h_7 => ?_)
  · replace hw := hw.1 h_7
    refine W.widen (k := cells + 4) (n := slots + 4107) (by omega) (by omega) ?_
    exact c_L_law_1205 E hret hc hk_18 hX hI t_v1 t_v2 (lv_sub hl [0, 1, 2, 3] rfl) hw
  · replace hw := hw.2 h_7
    refine lv_iconst (v := (0 : Int32)) hx hb dL_law_669 (by decide) ?_
    exact hw.elim
set_option maxHeartbeats 4000000 in
set_option maxRecDepth 100000 in
theorem c_L_law_615 {p : Program} {l : Launch} {e : Env} {s : State} {m : MethodId} {below : List Frame} {meth : Method} {c : Code} {G : pm_G} {b L : Nat} {xs : Nat → Int32} {M0 : pm_M} {v1 : Nat} {v2 : Nat} {v3 : Int32} {cells slots : Nat} {M : pm_M} {k_18 : Int32 → pm_M → Prop} (E : pm_E G p s m #[Value.ref b] meth c code 4 RL) (hret : lw_At p s m meth c b L xs) (hc : cells + 4 ≤ 600000 ∧ slots + 4107 ≤ 7302250) (hk_18 : ∀ (v3 : Int32) (M : pm_M) (H : Heap) (locs : List Loc) (ls : Array Slot), pm_X M0 M → pm_I G s.heap M H locs → (pm_is M v1 8) → (pm_is M v2 9) → lv_has ls 4 [(0, .ref b), (1, .ref (s.heap.size + v1)), (2, .ref (s.heap.size + v2)), (3, .int v3)] → k_18 v3 M → W p l e room_1 s m #[Value.ref b] below meth c H locs (cells + 4) (slots + 4107) (lw_Z below #[Value.ref b] s) (F0 m 18 ls [])) {H : Heap} {locs : List Loc} {ls : Array Slot} (hX : pm_X M0 M) (hI : pm_I G s.heap M H locs) (t_v1 : pm_is M v1 8) (t_v2 : pm_is M v2 9) (hl : lv_has ls 4 [(0, .ref b), (1, .ref (s.heap.size + v1)), (2, .ref (s.heap.size + v2)), (3, .int v3)]) (hw : w_L_law_615 L xs k_18 v1 v2 v3 M) : W p l e room_1 s m #[Value.ref b] below meth c H locs cells slots (lw_Z below #[Value.ref b] s) (F0 m 615 ls []) := by
  have hx := E.1
  have hb := E.2.1
  have hown := E.2.2.2.1
  have hts := E.2.2.2.2.1
  have hXs := hret.2.2.2.2.2.2.1
  have hbl := hret.2.2.2.2.2.2.2.1
  have hbA : ¬ (fun q : Nat => s.heap.size ≤ q) b := Nat.not_le.mpr hbl
  refine pm_nrm (cells' := cells + 0) (slots' := slots + 0) (g2 := F0 m 615 ls []) rfl rfl rfl ?_
  obtain ⟨hc1, hc2⟩ := id hc
  unfold w_L_law_615 at hw
  refine lv_aload_n hx hb dL_law_615 rfl (lv_at hl 1 rfl) ?_
  refine lv_aload_n hx hb dL_law_616 rfl (lv_at hl 0 rfl) ?_
  refine lv_iload_n hx hb dL_law_617 rfl (lv_at hl 3 rfl) ?_
  refine lv_iconst (v := (1 : Int32)) hx hb dL_law_618 (by decide) ?_
  refine lv_iadd hx hb dL_law_619 ?_
  obtain ⟨h_1, hw⟩ := hw
  refine va_sld hx hb hXs hbl hbA hI.2.2.1 h_1 dL_law_620 ?_
  refine pm_callV (As := [.int (xs (v3 + (1 : Int32)).toNatClampNeg)]) (rest := []) 1 E hI (k_X9_broken t_v1 hw) t_v1 (by decide) rfl kc_X9_broken kl_L_70 km_X9_broken ks_X9_broken ki_X9 (by decide +kernel) ⟨by decide, by decide⟩ rfl hl.1 rfl (by first | exact Nat.le_of_ble_eq_true rfl | (simp only [List.map, pm_rf_cat]; exact Nat.le_of_ble_eq_true rfl)) dL_law_621 ⟨by show cells + 0 + 0 ≤ 600000; omega, by show slots + 0 + 0 ≤ 7302250; omega⟩ (fun r9 M9 H locs hp hX1 hI => ?_)
  clear hw
  obtain ⟨r_2, rfl, rfl, hw⟩ := hp
  refine pm_nrm (cells' := cells + 0) (slots' := slots + 0) (g2 := F0 m 624 ls [.int r_2]) rfl rfl rfl ?_
  refine lv_aload_n hx hb dL_law_624 rfl (lv_at hl 2 rfl) ?_
  refine lv_aload_n hx hb dL_law_625 rfl (lv_at hl 0 rfl) ?_
  refine lv_iload_n hx hb dL_law_626 rfl (lv_at hl 3 rfl) ?_
  refine lv_iconst (v := (1 : Int32)) hx hb dL_law_627 (by decide) ?_
  refine lv_iadd hx hb dL_law_628 ?_
  obtain ⟨h_3, hw⟩ := hw
  refine va_sld hx hb hXs hbl hbA hI.2.2.1 h_3 dL_law_629 ?_
  refine pm_callV (As := [.int (xs (v3 + (1 : Int32)).toNatClampNeg)]) (rest := [.int r_2]) 1 E hI (k_X10_broken t_v2 hw) t_v2 (by decide) rfl kc_X10_broken kl_L_73 km_X10_broken ks_X10_broken ki_X10 (by decide +kernel) ⟨by decide, by decide⟩ rfl hl.1 rfl (by first | exact Nat.le_of_ble_eq_true rfl | (simp only [List.map, pm_rf_cat]; exact Nat.le_of_ble_eq_true rfl)) dL_law_630 ⟨by show cells + 0 + 0 ≤ 600000; omega, by show slots + 0 + 0 ≤ 7302250; omega⟩ (fun r9 M9 H locs hp hX1 hI => ?_)
  clear hw
  obtain ⟨r_4, rfl, rfl, hw⟩ := hp
  refine pm_nrm (cells' := cells + 0) (slots' := slots + 0) (g2 := F0 m 633 ls [.int r_4, .int r_2]) rfl rfl rfl ?_
  refine lv_icmp_eq (tgt := 1205) hx hb dL_law_633 (by decide) (fun h_5 => ?_) (fun h_5 => ?_)
  · replace hw := hw.1 h_5
    refine W.widen (k := cells + 4) (n := slots + 4107) (by omega) (by omega) ?_
    exact c_L_law_1205 E hret hc hk_18 hX hI t_v1 t_v2 (lv_sub hl [0, 1, 2, 3] rfl) hw
  · replace hw := hw.2 h_5
    refine lv_iconst (v := (0 : Int32)) hx hb dL_law_636 (by decide) ?_
    exact hw.elim
set_option maxHeartbeats 4000000 in
set_option maxRecDepth 100000 in
theorem c_L_law_582 {p : Program} {l : Launch} {e : Env} {s : State} {m : MethodId} {below : List Frame} {meth : Method} {c : Code} {G : pm_G} {b L : Nat} {xs : Nat → Int32} {M0 : pm_M} {v1 : Nat} {v2 : Nat} {v3 : Int32} {cells slots : Nat} {M : pm_M} {k_18 : Int32 → pm_M → Prop} (E : pm_E G p s m #[Value.ref b] meth c code 4 RL) (hret : lw_At p s m meth c b L xs) (hc : cells + 4 ≤ 600000 ∧ slots + 4107 ≤ 7302250) (hk_18 : ∀ (v3 : Int32) (M : pm_M) (H : Heap) (locs : List Loc) (ls : Array Slot), pm_X M0 M → pm_I G s.heap M H locs → (pm_is M v1 8) → (pm_is M v2 9) → lv_has ls 4 [(0, .ref b), (1, .ref (s.heap.size + v1)), (2, .ref (s.heap.size + v2)), (3, .int v3)] → k_18 v3 M → W p l e room_1 s m #[Value.ref b] below meth c H locs (cells + 4) (slots + 4107) (lw_Z below #[Value.ref b] s) (F0 m 18 ls [])) {H : Heap} {locs : List Loc} {ls : Array Slot} (hX : pm_X M0 M) (hI : pm_I G s.heap M H locs) (t_v1 : pm_is M v1 8) (t_v2 : pm_is M v2 9) (hl : lv_has ls 4 [(0, .ref b), (1, .ref (s.heap.size + v1)), (2, .ref (s.heap.size + v2)), (3, .int v3)]) (hw : w_L_law_582 L xs k_18 v1 v2 v3 M) : W p l e room_1 s m #[Value.ref b] below meth c H locs cells slots (lw_Z below #[Value.ref b] s) (F0 m 582 ls []) := by
  have hx := E.1
  have hb := E.2.1
  have hown := E.2.2.2.1
  have hts := E.2.2.2.2.1
  have hXs := hret.2.2.2.2.2.2.1
  have hbl := hret.2.2.2.2.2.2.2.1
  have hbA : ¬ (fun q : Nat => s.heap.size ≤ q) b := Nat.not_le.mpr hbl
  refine pm_nrm (cells' := cells + 0) (slots' := slots + 0) (g2 := F0 m 582 ls []) rfl rfl rfl ?_
  obtain ⟨hc1, hc2⟩ := id hc
  unfold w_L_law_582 at hw
  refine lv_aload_n hx hb dL_law_582 rfl (lv_at hl 1 rfl) ?_
  refine lv_aload_n hx hb dL_law_583 rfl (lv_at hl 0 rfl) ?_
  refine lv_iload_n hx hb dL_law_584 rfl (lv_at hl 3 rfl) ?_
  refine lv_iconst (v := (1 : Int32)) hx hb dL_law_585 (by decide) ?_
  refine lv_iadd hx hb dL_law_586 ?_
  obtain ⟨h_1, hw⟩ := hw
  refine va_sld hx hb hXs hbl hbA hI.2.2.1 h_1 dL_law_587 ?_
  refine lv_aload_n hx hb dL_law_588 rfl (lv_at hl 0 rfl) ?_
  refine lv_iload_n hx hb dL_law_589 rfl (lv_at hl 3 rfl) ?_
  refine lv_iconst (v := (2 : Int32)) hx hb dL_law_590 (by decide) ?_
  refine lv_iadd hx hb dL_law_591 ?_
  obtain ⟨h_2, hw⟩ := hw
  refine va_sld hx hb hXs hbl hbA hI.2.2.1 h_2 dL_law_592 ?_
  refine pm_callV (As := [.int (xs (v3 + (1 : Int32)).toNatClampNeg), .int (xs (v3 + (2 : Int32)).toNatClampNeg)]) (rest := []) 2 E hI (k_X9_join t_v1 hw) t_v1 (by decide) rfl kc_X9_join kl_L_66 km_X9_join ks_X9_join ki_X9 (by decide +kernel) ⟨by decide, by decide⟩ rfl hl.1 rfl (by first | exact Nat.le_of_ble_eq_true rfl | (simp only [List.map, pm_rf_cat]; exact Nat.le_of_ble_eq_true rfl)) dL_law_593 ⟨by show cells + 0 + 4 ≤ 600000; omega, by show slots + 0 + 4107 ≤ 7302250; omega⟩ (fun r9 M_3 H locs hp hX1 hI => ?_)
  clear hw
  obtain ⟨r_4, rfl, hw⟩ := hp
  replace t_v1 := t_v1.x hX1
  replace t_v2 := t_v2.x hX1
  replace hX := hX.tr hX1
  refine pm_nrm (cells' := cells + 4) (slots' := slots + 4107) (g2 := F0 m 596 ls [.int r_4]) rfl rfl rfl ?_
  refine lv_aload_n hx hb dL_law_596 rfl (lv_at hl 2 rfl) ?_
  refine lv_aload_n hx hb dL_law_597 rfl (lv_at hl 0 rfl) ?_
  refine lv_iload_n hx hb dL_law_598 rfl (lv_at hl 3 rfl) ?_
  refine lv_iconst (v := (1 : Int32)) hx hb dL_law_599 (by decide) ?_
  refine lv_iadd hx hb dL_law_600 ?_
  obtain ⟨h_5, hw⟩ := hw
  refine va_sld hx hb hXs hbl hbA hI.2.2.1 h_5 dL_law_601 ?_
  refine lv_aload_n hx hb dL_law_602 rfl (lv_at hl 0 rfl) ?_
  refine lv_iload_n hx hb dL_law_603 rfl (lv_at hl 3 rfl) ?_
  refine lv_iconst (v := (2 : Int32)) hx hb dL_law_604 (by decide) ?_
  refine lv_iadd hx hb dL_law_605 ?_
  obtain ⟨h_6, hw⟩ := hw
  refine va_sld hx hb hXs hbl hbA hI.2.2.1 h_6 dL_law_606 ?_
  refine pm_callV (As := [.int (xs (v3 + (1 : Int32)).toNatClampNeg), .int (xs (v3 + (2 : Int32)).toNatClampNeg)]) (rest := [.int r_4]) 2 E hI (k_X10_join t_v2 hw) t_v2 (by decide) rfl kc_X10_join kl_L_69 km_X10_join ks_X10_join ki_X10 (by decide +kernel) ⟨by decide, by decide⟩ rfl hl.1 rfl (by first | exact Nat.le_of_ble_eq_true rfl | (simp only [List.map, pm_rf_cat]; exact Nat.le_of_ble_eq_true rfl)) dL_law_607 ⟨by show cells + 4 + 0 ≤ 600000; omega, by show slots + 4107 + 0 ≤ 7302250; omega⟩ (fun r9 M_7 H locs hp hX1 hI => ?_)
  clear hw
  obtain ⟨r_8, rfl, hw⟩ := hp
  replace t_v1 := t_v1.x hX1
  replace t_v2 := t_v2.x hX1
  replace hX := hX.tr hX1
  refine pm_nrm (cells' := cells + 4) (slots' := slots + 4107) (g2 := F0 m 610 ls [.int r_8, .int r_4]) rfl rfl rfl ?_
  refine lv_icmp_eq (tgt := 1205) hx hb dL_law_610 (by decide) (fun h_9 => ?_) (fun h_9 => ?_)
  · replace hw := hw.1 h_9
    refine W.widen (k := cells + 4) (n := slots + 4107) (by omega) (by omega) ?_
    exact c_L_law_1205 E hret hc hk_18 hX hI t_v1 t_v2 (lv_sub hl [0, 1, 2, 3] rfl) hw
  · replace hw := hw.2 h_9
    refine lv_iconst (v := (0 : Int32)) hx hb dL_law_613 (by decide) ?_
    exact hw.elim
set_option maxHeartbeats 4000000 in
set_option maxRecDepth 100000 in
theorem c_L_law_559 {p : Program} {l : Launch} {e : Env} {s : State} {m : MethodId} {below : List Frame} {meth : Method} {c : Code} {G : pm_G} {b L : Nat} {xs : Nat → Int32} {M0 : pm_M} {v1 : Nat} {v2 : Nat} {v3 : Int32} {cells slots : Nat} {M : pm_M} {k_18 : Int32 → pm_M → Prop} (E : pm_E G p s m #[Value.ref b] meth c code 4 RL) (hret : lw_At p s m meth c b L xs) (hc : cells + 4 ≤ 600000 ∧ slots + 4107 ≤ 7302250) (hk_18 : ∀ (v3 : Int32) (M : pm_M) (H : Heap) (locs : List Loc) (ls : Array Slot), pm_X M0 M → pm_I G s.heap M H locs → (pm_is M v1 8) → (pm_is M v2 9) → lv_has ls 4 [(0, .ref b), (1, .ref (s.heap.size + v1)), (2, .ref (s.heap.size + v2)), (3, .int v3)] → k_18 v3 M → W p l e room_1 s m #[Value.ref b] below meth c H locs (cells + 4) (slots + 4107) (lw_Z below #[Value.ref b] s) (F0 m 18 ls [])) {H : Heap} {locs : List Loc} {ls : Array Slot} (hX : pm_X M0 M) (hI : pm_I G s.heap M H locs) (t_v1 : pm_is M v1 8) (t_v2 : pm_is M v2 9) (hl : lv_has ls 4 [(0, .ref b), (1, .ref (s.heap.size + v1)), (2, .ref (s.heap.size + v2)), (3, .int v3)]) (hw : w_L_law_559 L xs k_18 v1 v2 v3 M) : W p l e room_1 s m #[Value.ref b] below meth c H locs cells slots (lw_Z below #[Value.ref b] s) (F0 m 559 ls []) := by
  have hx := E.1
  have hb := E.2.1
  have hown := E.2.2.2.1
  have hts := E.2.2.2.2.1
  have hXs := hret.2.2.2.2.2.2.1
  have hbl := hret.2.2.2.2.2.2.2.1
  have hbA : ¬ (fun q : Nat => s.heap.size ≤ q) b := Nat.not_le.mpr hbl
  refine pm_nrm (cells' := cells + 0) (slots' := slots + 0) (g2 := F0 m 559 ls []) rfl rfl rfl ?_
  obtain ⟨hc1, hc2⟩ := id hc
  unfold w_L_law_559 at hw
  refine lv_aload_n hx hb dL_law_559 rfl (lv_at hl 1 rfl) ?_
  refine lv_aload_n hx hb dL_law_560 rfl (lv_at hl 0 rfl) ?_
  refine lv_iload_n hx hb dL_law_561 rfl (lv_at hl 3 rfl) ?_
  refine lv_iconst (v := (1 : Int32)) hx hb dL_law_562 (by decide) ?_
  refine lv_iadd hx hb dL_law_563 ?_
  obtain ⟨h_1, hw⟩ := hw
  refine va_sld hx hb hXs hbl hbA hI.2.2.1 h_1 dL_law_564 ?_
  refine pm_callV (As := [.int (xs (v3 + (1 : Int32)).toNatClampNeg)]) (rest := []) 1 E hI (k_X9_turn t_v1 hw) t_v1 (by decide) rfl kc_X9_turn kl_L_61 km_X9_turn ks_X9_turn ki_X9 (by decide +kernel) ⟨by decide, by decide⟩ rfl hl.1 rfl (by first | exact Nat.le_of_ble_eq_true rfl | (simp only [List.map, pm_rf_cat]; exact Nat.le_of_ble_eq_true rfl)) dL_law_565 ⟨by show cells + 0 + 4 ≤ 600000; omega, by show slots + 0 + 4107 ≤ 7302250; omega⟩ (fun r9 M_2 H locs hp hX1 hI => ?_)
  clear hw
  obtain ⟨r_3, rfl, hw⟩ := hp
  replace t_v1 := t_v1.x hX1
  replace t_v2 := t_v2.x hX1
  replace hX := hX.tr hX1
  refine pm_nrm (cells' := cells + 4) (slots' := slots + 4107) (g2 := F0 m 568 ls [.int r_3]) rfl rfl rfl ?_
  refine lv_aload_n hx hb dL_law_568 rfl (lv_at hl 2 rfl) ?_
  refine lv_aload_n hx hb dL_law_569 rfl (lv_at hl 0 rfl) ?_
  refine lv_iload_n hx hb dL_law_570 rfl (lv_at hl 3 rfl) ?_
  refine lv_iconst (v := (1 : Int32)) hx hb dL_law_571 (by decide) ?_
  refine lv_iadd hx hb dL_law_572 ?_
  obtain ⟨h_4, hw⟩ := hw
  refine va_sld hx hb hXs hbl hbA hI.2.2.1 h_4 dL_law_573 ?_
  refine pm_callV (As := [.int (xs (v3 + (1 : Int32)).toNatClampNeg)]) (rest := [.int r_3]) 1 E hI (k_X10_turn t_v2 hw) t_v2 (by decide) rfl kc_X10_turn kl_L_65 km_X10_turn ks_X10_turn ki_X10 (by decide +kernel) ⟨by decide, by decide⟩ rfl hl.1 rfl (by first | exact Nat.le_of_ble_eq_true rfl | (simp only [List.map, pm_rf_cat]; exact Nat.le_of_ble_eq_true rfl)) dL_law_574 ⟨by show cells + 4 + 0 ≤ 600000; omega, by show slots + 4107 + 0 ≤ 7302250; omega⟩ (fun r9 M_5 H locs hp hX1 hI => ?_)
  clear hw
  obtain ⟨r_6, rfl, hw⟩ := hp
  replace t_v1 := t_v1.x hX1
  replace t_v2 := t_v2.x hX1
  replace hX := hX.tr hX1
  refine pm_nrm (cells' := cells + 4) (slots' := slots + 4107) (g2 := F0 m 577 ls [.int r_6, .int r_3]) rfl rfl rfl ?_
  refine lv_icmp_eq (tgt := 1205) hx hb dL_law_577 (by decide) (fun h_7 => ?_) (fun h_7 => ?_)
  · replace hw := hw.1 h_7
    refine W.widen (k := cells + 4) (n := slots + 4107) (by omega) (by omega) ?_
    exact c_L_law_1205 E hret hc hk_18 hX hI t_v1 t_v2 (lv_sub hl [0, 1, 2, 3] rfl) hw
  · replace hw := hw.2 h_7
    refine lv_iconst (v := (0 : Int32)) hx hb dL_law_580 (by decide) ?_
    exact hw.elim
set_option maxHeartbeats 4000000 in
set_option maxRecDepth 100000 in
theorem c_L_law_526 {p : Program} {l : Launch} {e : Env} {s : State} {m : MethodId} {below : List Frame} {meth : Method} {c : Code} {G : pm_G} {b L : Nat} {xs : Nat → Int32} {M0 : pm_M} {v1 : Nat} {v2 : Nat} {v3 : Int32} {cells slots : Nat} {M : pm_M} {k_18 : Int32 → pm_M → Prop} (E : pm_E G p s m #[Value.ref b] meth c code 4 RL) (hret : lw_At p s m meth c b L xs) (hc : cells + 4 ≤ 600000 ∧ slots + 4107 ≤ 7302250) (hk_18 : ∀ (v3 : Int32) (M : pm_M) (H : Heap) (locs : List Loc) (ls : Array Slot), pm_X M0 M → pm_I G s.heap M H locs → (pm_is M v1 8) → (pm_is M v2 9) → lv_has ls 4 [(0, .ref b), (1, .ref (s.heap.size + v1)), (2, .ref (s.heap.size + v2)), (3, .int v3)] → k_18 v3 M → W p l e room_1 s m #[Value.ref b] below meth c H locs (cells + 4) (slots + 4107) (lw_Z below #[Value.ref b] s) (F0 m 18 ls [])) {H : Heap} {locs : List Loc} {ls : Array Slot} (hX : pm_X M0 M) (hI : pm_I G s.heap M H locs) (t_v1 : pm_is M v1 8) (t_v2 : pm_is M v2 9) (hl : lv_has ls 4 [(0, .ref b), (1, .ref (s.heap.size + v1)), (2, .ref (s.heap.size + v2)), (3, .int v3)]) (hw : w_L_law_526 L xs k_18 v1 v2 v3 M) : W p l e room_1 s m #[Value.ref b] below meth c H locs cells slots (lw_Z below #[Value.ref b] s) (F0 m 526 ls []) := by
  have hx := E.1
  have hb := E.2.1
  have hown := E.2.2.2.1
  have hts := E.2.2.2.2.1
  have hXs := hret.2.2.2.2.2.2.1
  have hbl := hret.2.2.2.2.2.2.2.1
  have hbA : ¬ (fun q : Nat => s.heap.size ≤ q) b := Nat.not_le.mpr hbl
  refine pm_nrm (cells' := cells + 0) (slots' := slots + 0) (g2 := F0 m 526 ls []) rfl rfl rfl ?_
  obtain ⟨hc1, hc2⟩ := id hc
  unfold w_L_law_526 at hw
  refine lv_aload_n hx hb dL_law_526 rfl (lv_at hl 1 rfl) ?_
  refine lv_aload_n hx hb dL_law_527 rfl (lv_at hl 0 rfl) ?_
  refine lv_iload_n hx hb dL_law_528 rfl (lv_at hl 3 rfl) ?_
  refine lv_iconst (v := (1 : Int32)) hx hb dL_law_529 (by decide) ?_
  refine lv_iadd hx hb dL_law_530 ?_
  obtain ⟨h_1, hw⟩ := hw
  refine va_sld hx hb hXs hbl hbA hI.2.2.1 h_1 dL_law_531 ?_
  refine lv_aload_n hx hb dL_law_532 rfl (lv_at hl 0 rfl) ?_
  refine lv_iload_n hx hb dL_law_533 rfl (lv_at hl 3 rfl) ?_
  refine lv_iconst (v := (2 : Int32)) hx hb dL_law_534 (by decide) ?_
  refine lv_iadd hx hb dL_law_535 ?_
  obtain ⟨h_2, hw⟩ := hw
  refine va_sld hx hb hXs hbl hbA hI.2.2.1 h_2 dL_law_536 ?_
  refine pm_callV (As := [.int (xs (v3 + (1 : Int32)).toNatClampNeg), .int (xs (v3 + (2 : Int32)).toNatClampNeg)]) (rest := []) 2 E hI (k_X9_take t_v1 hw) t_v1 (by decide) rfl kc_X9_take kl_L_57 km_X9_take ks_X9_take ki_X9 (by decide +kernel) ⟨by decide, by decide⟩ rfl hl.1 rfl (by first | exact Nat.le_of_ble_eq_true rfl | (simp only [List.map, pm_rf_cat]; exact Nat.le_of_ble_eq_true rfl)) dL_law_537 ⟨by show cells + 0 + 4 ≤ 600000; omega, by show slots + 0 + 4107 ≤ 7302250; omega⟩ (fun r9 M_3 H locs hp hX1 hI => ?_)
  clear hw
  obtain ⟨r_4, rfl, hw⟩ := hp
  replace t_v1 := t_v1.x hX1
  replace t_v2 := t_v2.x hX1
  replace hX := hX.tr hX1
  refine pm_nrm (cells' := cells + 4) (slots' := slots + 4107) (g2 := F0 m 540 ls [.int r_4]) rfl rfl rfl ?_
  refine lv_aload_n hx hb dL_law_540 rfl (lv_at hl 2 rfl) ?_
  refine lv_aload_n hx hb dL_law_541 rfl (lv_at hl 0 rfl) ?_
  refine lv_iload_n hx hb dL_law_542 rfl (lv_at hl 3 rfl) ?_
  refine lv_iconst (v := (1 : Int32)) hx hb dL_law_543 (by decide) ?_
  refine lv_iadd hx hb dL_law_544 ?_
  obtain ⟨h_5, hw⟩ := hw
  refine va_sld hx hb hXs hbl hbA hI.2.2.1 h_5 dL_law_545 ?_
  refine lv_aload_n hx hb dL_law_546 rfl (lv_at hl 0 rfl) ?_
  refine lv_iload_n hx hb dL_law_547 rfl (lv_at hl 3 rfl) ?_
  refine lv_iconst (v := (2 : Int32)) hx hb dL_law_548 (by decide) ?_
  refine lv_iadd hx hb dL_law_549 ?_
  obtain ⟨h_6, hw⟩ := hw
  refine va_sld hx hb hXs hbl hbA hI.2.2.1 h_6 dL_law_550 ?_
  refine pm_callV (As := [.int (xs (v3 + (1 : Int32)).toNatClampNeg), .int (xs (v3 + (2 : Int32)).toNatClampNeg)]) (rest := [.int r_4]) 2 E hI (k_X10_take t_v2 hw) t_v2 (by decide) rfl kc_X10_take kl_L_60 km_X10_take ks_X10_take ki_X10 (by decide +kernel) ⟨by decide, by decide⟩ rfl hl.1 rfl (by first | exact Nat.le_of_ble_eq_true rfl | (simp only [List.map, pm_rf_cat]; exact Nat.le_of_ble_eq_true rfl)) dL_law_551 ⟨by show cells + 4 + 0 ≤ 600000; omega, by show slots + 4107 + 0 ≤ 7302250; omega⟩ (fun r9 M_7 H locs hp hX1 hI => ?_)
  clear hw
  obtain ⟨r_8, rfl, hw⟩ := hp
  replace t_v1 := t_v1.x hX1
  replace t_v2 := t_v2.x hX1
  replace hX := hX.tr hX1
  refine pm_nrm (cells' := cells + 4) (slots' := slots + 4107) (g2 := F0 m 554 ls [.int r_8, .int r_4]) rfl rfl rfl ?_
  refine lv_icmp_eq (tgt := 1205) hx hb dL_law_554 (by decide) (fun h_9 => ?_) (fun h_9 => ?_)
  · replace hw := hw.1 h_9
    refine W.widen (k := cells + 4) (n := slots + 4107) (by omega) (by omega) ?_
    exact c_L_law_1205 E hret hc hk_18 hX hI t_v1 t_v2 (lv_sub hl [0, 1, 2, 3] rfl) hw
  · replace hw := hw.2 h_9
    refine lv_iconst (v := (0 : Int32)) hx hb dL_law_557 (by decide) ?_
    exact hw.elim
set_option maxHeartbeats 4000000 in
set_option maxRecDepth 100000 in
theorem c_L_law_493 {p : Program} {l : Launch} {e : Env} {s : State} {m : MethodId} {below : List Frame} {meth : Method} {c : Code} {G : pm_G} {b L : Nat} {xs : Nat → Int32} {M0 : pm_M} {v1 : Nat} {v2 : Nat} {v3 : Int32} {cells slots : Nat} {M : pm_M} {k_18 : Int32 → pm_M → Prop} (E : pm_E G p s m #[Value.ref b] meth c code 4 RL) (hret : lw_At p s m meth c b L xs) (hc : cells + 4 ≤ 600000 ∧ slots + 4107 ≤ 7302250) (hk_18 : ∀ (v3 : Int32) (M : pm_M) (H : Heap) (locs : List Loc) (ls : Array Slot), pm_X M0 M → pm_I G s.heap M H locs → (pm_is M v1 8) → (pm_is M v2 9) → lv_has ls 4 [(0, .ref b), (1, .ref (s.heap.size + v1)), (2, .ref (s.heap.size + v2)), (3, .int v3)] → k_18 v3 M → W p l e room_1 s m #[Value.ref b] below meth c H locs (cells + 4) (slots + 4107) (lw_Z below #[Value.ref b] s) (F0 m 18 ls [])) {H : Heap} {locs : List Loc} {ls : Array Slot} (hX : pm_X M0 M) (hI : pm_I G s.heap M H locs) (t_v1 : pm_is M v1 8) (t_v2 : pm_is M v2 9) (hl : lv_has ls 4 [(0, .ref b), (1, .ref (s.heap.size + v1)), (2, .ref (s.heap.size + v2)), (3, .int v3)]) (hw : w_L_law_493 L xs k_18 v1 v2 v3 M) : W p l e room_1 s m #[Value.ref b] below meth c H locs cells slots (lw_Z below #[Value.ref b] s) (F0 m 493 ls []) := by
  have hx := E.1
  have hb := E.2.1
  have hown := E.2.2.2.1
  have hts := E.2.2.2.2.1
  have hXs := hret.2.2.2.2.2.2.1
  have hbl := hret.2.2.2.2.2.2.2.1
  have hbA : ¬ (fun q : Nat => s.heap.size ≤ q) b := Nat.not_le.mpr hbl
  refine pm_nrm (cells' := cells + 0) (slots' := slots + 0) (g2 := F0 m 493 ls []) rfl rfl rfl ?_
  obtain ⟨hc1, hc2⟩ := id hc
  unfold w_L_law_493 at hw
  refine lv_aload_n hx hb dL_law_493 rfl (lv_at hl 1 rfl) ?_
  refine lv_aload_n hx hb dL_law_494 rfl (lv_at hl 0 rfl) ?_
  refine lv_iload_n hx hb dL_law_495 rfl (lv_at hl 3 rfl) ?_
  refine lv_iconst (v := (1 : Int32)) hx hb dL_law_496 (by decide) ?_
  refine lv_iadd hx hb dL_law_497 ?_
  obtain ⟨h_1, hw⟩ := hw
  refine va_sld hx hb hXs hbl hbA hI.2.2.1 h_1 dL_law_498 ?_
  refine lv_aload_n hx hb dL_law_499 rfl (lv_at hl 0 rfl) ?_
  refine lv_iload_n hx hb dL_law_500 rfl (lv_at hl 3 rfl) ?_
  refine lv_iconst (v := (2 : Int32)) hx hb dL_law_501 (by decide) ?_
  refine lv_iadd hx hb dL_law_502 ?_
  obtain ⟨h_2, hw⟩ := hw
  refine va_sld hx hb hXs hbl hbA hI.2.2.1 h_2 dL_law_503 ?_
  refine pm_callV (As := [.int (xs (v3 + (1 : Int32)).toNatClampNeg), .int (xs (v3 + (2 : Int32)).toNatClampNeg)]) (rest := []) 2 E hI (k_X9_less t_v1 hw) t_v1 (by decide) rfl kc_X9_less kl_L_53 km_X9_less ks_X9_less ki_X9 (by decide +kernel) ⟨by decide, by decide⟩ rfl hl.1 rfl (by first | exact Nat.le_of_ble_eq_true rfl | (simp only [List.map, pm_rf_cat]; exact Nat.le_of_ble_eq_true rfl)) dL_law_504 ⟨by show cells + 0 + 4 ≤ 600000; omega, by show slots + 0 + 4107 ≤ 7302250; omega⟩ (fun r9 M_3 H locs hp hX1 hI => ?_)
  clear hw
  obtain ⟨r_4, rfl, hw⟩ := hp
  replace t_v1 := t_v1.x hX1
  replace t_v2 := t_v2.x hX1
  replace hX := hX.tr hX1
  refine pm_nrm (cells' := cells + 4) (slots' := slots + 4107) (g2 := F0 m 507 ls [.int r_4]) rfl rfl rfl ?_
  refine lv_aload_n hx hb dL_law_507 rfl (lv_at hl 2 rfl) ?_
  refine lv_aload_n hx hb dL_law_508 rfl (lv_at hl 0 rfl) ?_
  refine lv_iload_n hx hb dL_law_509 rfl (lv_at hl 3 rfl) ?_
  refine lv_iconst (v := (1 : Int32)) hx hb dL_law_510 (by decide) ?_
  refine lv_iadd hx hb dL_law_511 ?_
  obtain ⟨h_5, hw⟩ := hw
  refine va_sld hx hb hXs hbl hbA hI.2.2.1 h_5 dL_law_512 ?_
  refine lv_aload_n hx hb dL_law_513 rfl (lv_at hl 0 rfl) ?_
  refine lv_iload_n hx hb dL_law_514 rfl (lv_at hl 3 rfl) ?_
  refine lv_iconst (v := (2 : Int32)) hx hb dL_law_515 (by decide) ?_
  refine lv_iadd hx hb dL_law_516 ?_
  obtain ⟨h_6, hw⟩ := hw
  refine va_sld hx hb hXs hbl hbA hI.2.2.1 h_6 dL_law_517 ?_
  refine pm_callV (As := [.int (xs (v3 + (1 : Int32)).toNatClampNeg), .int (xs (v3 + (2 : Int32)).toNatClampNeg)]) (rest := [.int r_4]) 2 E hI (k_X10_less t_v2 hw) t_v2 (by decide) rfl kc_X10_less kl_L_56 km_X10_less ks_X10_less ki_X10 (by decide +kernel) ⟨by decide, by decide⟩ rfl hl.1 rfl (by first | exact Nat.le_of_ble_eq_true rfl | (simp only [List.map, pm_rf_cat]; exact Nat.le_of_ble_eq_true rfl)) dL_law_518 ⟨by show cells + 4 + 0 ≤ 600000; omega, by show slots + 4107 + 0 ≤ 7302250; omega⟩ (fun r9 M_7 H locs hp hX1 hI => ?_)
  clear hw
  obtain ⟨r_8, rfl, hw⟩ := hp
  replace t_v1 := t_v1.x hX1
  replace t_v2 := t_v2.x hX1
  replace hX := hX.tr hX1
  refine pm_nrm (cells' := cells + 4) (slots' := slots + 4107) (g2 := F0 m 521 ls [.int r_8, .int r_4]) rfl rfl rfl ?_
  refine lv_icmp_eq (tgt := 1205) hx hb dL_law_521 (by decide) (fun h_9 => ?_) (fun h_9 => ?_)
  · replace hw := hw.1 h_9
    refine W.widen (k := cells + 4) (n := slots + 4107) (by omega) (by omega) ?_
    exact c_L_law_1205 E hret hc hk_18 hX hI t_v1 t_v2 (lv_sub hl [0, 1, 2, 3] rfl) hw
  · replace hw := hw.2 h_9
    refine lv_iconst (v := (0 : Int32)) hx hb dL_law_524 (by decide) ?_
    exact hw.elim
set_option maxHeartbeats 4000000 in
set_option maxRecDepth 100000 in
theorem c_L_law_460 {p : Program} {l : Launch} {e : Env} {s : State} {m : MethodId} {below : List Frame} {meth : Method} {c : Code} {G : pm_G} {b L : Nat} {xs : Nat → Int32} {M0 : pm_M} {v1 : Nat} {v2 : Nat} {v3 : Int32} {cells slots : Nat} {M : pm_M} {k_18 : Int32 → pm_M → Prop} (E : pm_E G p s m #[Value.ref b] meth c code 4 RL) (hret : lw_At p s m meth c b L xs) (hc : cells + 4 ≤ 600000 ∧ slots + 4107 ≤ 7302250) (hk_18 : ∀ (v3 : Int32) (M : pm_M) (H : Heap) (locs : List Loc) (ls : Array Slot), pm_X M0 M → pm_I G s.heap M H locs → (pm_is M v1 8) → (pm_is M v2 9) → lv_has ls 4 [(0, .ref b), (1, .ref (s.heap.size + v1)), (2, .ref (s.heap.size + v2)), (3, .int v3)] → k_18 v3 M → W p l e room_1 s m #[Value.ref b] below meth c H locs (cells + 4) (slots + 4107) (lw_Z below #[Value.ref b] s) (F0 m 18 ls [])) {H : Heap} {locs : List Loc} {ls : Array Slot} (hX : pm_X M0 M) (hI : pm_I G s.heap M H locs) (t_v1 : pm_is M v1 8) (t_v2 : pm_is M v2 9) (hl : lv_has ls 4 [(0, .ref b), (1, .ref (s.heap.size + v1)), (2, .ref (s.heap.size + v2)), (3, .int v3)]) (hw : w_L_law_460 L xs k_18 v1 v2 v3 M) : W p l e room_1 s m #[Value.ref b] below meth c H locs cells slots (lw_Z below #[Value.ref b] s) (F0 m 460 ls []) := by
  have hx := E.1
  have hb := E.2.1
  have hown := E.2.2.2.1
  have hts := E.2.2.2.2.1
  have hXs := hret.2.2.2.2.2.2.1
  have hbl := hret.2.2.2.2.2.2.2.1
  have hbA : ¬ (fun q : Nat => s.heap.size ≤ q) b := Nat.not_le.mpr hbl
  refine pm_nrm (cells' := cells + 0) (slots' := slots + 0) (g2 := F0 m 460 ls []) rfl rfl rfl ?_
  obtain ⟨hc1, hc2⟩ := id hc
  unfold w_L_law_460 at hw
  refine lv_aload_n hx hb dL_law_460 rfl (lv_at hl 1 rfl) ?_
  refine lv_aload_n hx hb dL_law_461 rfl (lv_at hl 0 rfl) ?_
  refine lv_iload_n hx hb dL_law_462 rfl (lv_at hl 3 rfl) ?_
  refine lv_iconst (v := (1 : Int32)) hx hb dL_law_463 (by decide) ?_
  refine lv_iadd hx hb dL_law_464 ?_
  obtain ⟨h_1, hw⟩ := hw
  refine va_sld hx hb hXs hbl hbA hI.2.2.1 h_1 dL_law_465 ?_
  refine lv_aload_n hx hb dL_law_466 rfl (lv_at hl 0 rfl) ?_
  refine lv_iload_n hx hb dL_law_467 rfl (lv_at hl 3 rfl) ?_
  refine lv_iconst (v := (2 : Int32)) hx hb dL_law_468 (by decide) ?_
  refine lv_iadd hx hb dL_law_469 ?_
  obtain ⟨h_2, hw⟩ := hw
  refine va_sld hx hb hXs hbl hbA hI.2.2.1 h_2 dL_law_470 ?_
  refine pm_callV (As := [.int (xs (v3 + (1 : Int32)).toNatClampNeg), .int (xs (v3 + (2 : Int32)).toNatClampNeg)]) (rest := []) 2 E hI (k_X9_rule t_v1 hw) t_v1 (by decide) rfl kc_X9_rule kl_L_49 km_X9_rule ks_X9_rule ki_X9 (by decide +kernel) ⟨by decide, by decide⟩ rfl hl.1 rfl (by first | exact Nat.le_of_ble_eq_true rfl | (simp only [List.map, pm_rf_cat]; exact Nat.le_of_ble_eq_true rfl)) dL_law_471 ⟨by show cells + 0 + 3 ≤ 600000; omega, by show slots + 0 + 4102 ≤ 7302250; omega⟩ (fun r9 M_3 H locs hp hX1 hI => ?_)
  clear hw
  obtain ⟨r_4, rfl, hw⟩ := hp
  replace t_v1 := t_v1.x hX1
  replace t_v2 := t_v2.x hX1
  replace hX := hX.tr hX1
  refine pm_nrm (cells' := cells + 3) (slots' := slots + 4102) (g2 := F0 m 474 ls [.int r_4]) rfl rfl rfl ?_
  refine lv_aload_n hx hb dL_law_474 rfl (lv_at hl 2 rfl) ?_
  refine lv_aload_n hx hb dL_law_475 rfl (lv_at hl 0 rfl) ?_
  refine lv_iload_n hx hb dL_law_476 rfl (lv_at hl 3 rfl) ?_
  refine lv_iconst (v := (1 : Int32)) hx hb dL_law_477 (by decide) ?_
  refine lv_iadd hx hb dL_law_478 ?_
  obtain ⟨h_5, hw⟩ := hw
  refine va_sld hx hb hXs hbl hbA hI.2.2.1 h_5 dL_law_479 ?_
  refine lv_aload_n hx hb dL_law_480 rfl (lv_at hl 0 rfl) ?_
  refine lv_iload_n hx hb dL_law_481 rfl (lv_at hl 3 rfl) ?_
  refine lv_iconst (v := (2 : Int32)) hx hb dL_law_482 (by decide) ?_
  refine lv_iadd hx hb dL_law_483 ?_
  obtain ⟨h_6, hw⟩ := hw
  refine va_sld hx hb hXs hbl hbA hI.2.2.1 h_6 dL_law_484 ?_
  refine pm_callV (As := [.int (xs (v3 + (1 : Int32)).toNatClampNeg), .int (xs (v3 + (2 : Int32)).toNatClampNeg)]) (rest := [.int r_4]) 2 E hI (k_X10_rule t_v2 hw) t_v2 (by decide) rfl kc_X10_rule kl_L_52 km_X10_rule ks_X10_rule ki_X10 (by decide +kernel) ⟨by decide, by decide⟩ rfl hl.1 rfl (by first | exact Nat.le_of_ble_eq_true rfl | (simp only [List.map, pm_rf_cat]; exact Nat.le_of_ble_eq_true rfl)) dL_law_485 ⟨by show cells + 3 + 0 ≤ 600000; omega, by show slots + 4102 + 0 ≤ 7302250; omega⟩ (fun r9 M_7 H locs hp hX1 hI => ?_)
  clear hw
  obtain ⟨r_8, rfl, hw⟩ := hp
  replace t_v1 := t_v1.x hX1
  replace t_v2 := t_v2.x hX1
  replace hX := hX.tr hX1
  refine pm_nrm (cells' := cells + 3) (slots' := slots + 4102) (g2 := F0 m 488 ls [.int r_8, .int r_4]) rfl rfl rfl ?_
  refine lv_icmp_eq (tgt := 1205) hx hb dL_law_488 (by decide) (fun h_9 => ?_) (fun h_9 => ?_)
  · replace hw := hw.1 h_9
    refine W.widen (k := cells + 4) (n := slots + 4107) (by omega) (by omega) ?_
    exact c_L_law_1205 E hret hc hk_18 hX hI t_v1 t_v2 (lv_sub hl [0, 1, 2, 3] rfl) hw
  · replace hw := hw.2 h_9
    refine lv_iconst (v := (0 : Int32)) hx hb dL_law_491 (by decide) ?_
    exact hw.elim
set_option maxHeartbeats 4000000 in
set_option maxRecDepth 100000 in
theorem c_L_law_397 {p : Program} {l : Launch} {e : Env} {s : State} {m : MethodId} {below : List Frame} {meth : Method} {c : Code} {G : pm_G} {b L : Nat} {xs : Nat → Int32} {M0 : pm_M} {v1 : Nat} {v2 : Nat} {v3 : Int32} {cells slots : Nat} {M : pm_M} {k_18 : Int32 → pm_M → Prop} (E : pm_E G p s m #[Value.ref b] meth c code 4 RL) (hret : lw_At p s m meth c b L xs) (hc : cells + 4 ≤ 600000 ∧ slots + 4107 ≤ 7302250) (hk_18 : ∀ (v3 : Int32) (M : pm_M) (H : Heap) (locs : List Loc) (ls : Array Slot), pm_X M0 M → pm_I G s.heap M H locs → (pm_is M v1 8) → (pm_is M v2 9) → lv_has ls 4 [(0, .ref b), (1, .ref (s.heap.size + v1)), (2, .ref (s.heap.size + v2)), (3, .int v3)] → k_18 v3 M → W p l e room_1 s m #[Value.ref b] below meth c H locs (cells + 4) (slots + 4107) (lw_Z below #[Value.ref b] s) (F0 m 18 ls [])) {H : Heap} {locs : List Loc} {ls : Array Slot} (hX : pm_X M0 M) (hI : pm_I G s.heap M H locs) (t_v1 : pm_is M v1 8) (t_v2 : pm_is M v2 9) (hl : lv_has ls 4 [(0, .ref b), (1, .ref (s.heap.size + v1)), (2, .ref (s.heap.size + v2)), (3, .int v3)]) (hw : w_L_law_397 L xs k_18 v1 v2 v3 M) : W p l e room_1 s m #[Value.ref b] below meth c H locs cells slots (lw_Z below #[Value.ref b] s) (F0 m 397 ls []) := by
  have hx := E.1
  have hb := E.2.1
  have hown := E.2.2.2.1
  have hts := E.2.2.2.2.1
  have hXs := hret.2.2.2.2.2.2.1
  have hbl := hret.2.2.2.2.2.2.2.1
  have hbA : ¬ (fun q : Nat => s.heap.size ≤ q) b := Nat.not_le.mpr hbl
  refine pm_nrm (cells' := cells + 0) (slots' := slots + 0) (g2 := F0 m 397 ls []) rfl rfl rfl ?_
  obtain ⟨hc1, hc2⟩ := id hc
  unfold w_L_law_397 at hw
  refine lv_aload_n hx hb dL_law_397 rfl (lv_at hl 1 rfl) ?_
  refine lv_aload_n hx hb dL_law_398 rfl (lv_at hl 0 rfl) ?_
  refine lv_iload_n hx hb dL_law_399 rfl (lv_at hl 3 rfl) ?_
  refine lv_iconst (v := (1 : Int32)) hx hb dL_law_400 (by decide) ?_
  refine lv_iadd hx hb dL_law_401 ?_
  obtain ⟨h_1, hw⟩ := hw
  refine va_sld hx hb hXs hbl hbA hI.2.2.1 h_1 dL_law_402 ?_
  refine lv_aload_n hx hb dL_law_403 rfl (lv_at hl 0 rfl) ?_
  refine lv_iload_n hx hb dL_law_404 rfl (lv_at hl 3 rfl) ?_
  refine lv_iconst (v := (2 : Int32)) hx hb dL_law_405 (by decide) ?_
  refine lv_iadd hx hb dL_law_406 ?_
  obtain ⟨h_2, hw⟩ := hw
  refine va_sld hx hb hXs hbl hbA hI.2.2.1 h_2 dL_law_407 ?_
  refine lv_aload_n hx hb dL_law_408 rfl (lv_at hl 0 rfl) ?_
  refine lv_iload_n hx hb dL_law_409 rfl (lv_at hl 3 rfl) ?_
  refine lv_iconst (v := (3 : Int32)) hx hb dL_law_410 (by decide) ?_
  refine lv_iadd hx hb dL_law_411 ?_
  obtain ⟨h_3, hw⟩ := hw
  refine va_sld hx hb hXs hbl hbA hI.2.2.1 h_3 dL_law_412 ?_
  refine lv_aload_n hx hb dL_law_413 rfl (lv_at hl 0 rfl) ?_
  refine lv_iload_n hx hb dL_law_414 rfl (lv_at hl 3 rfl) ?_
  refine lv_iconst (v := (4 : Int32)) hx hb dL_law_415 (by decide) ?_
  refine lv_iadd hx hb dL_law_416 ?_
  obtain ⟨h_4, hw⟩ := hw
  refine va_sld hx hb hXs hbl hbA hI.2.2.1 h_4 dL_law_417 ?_
  refine lv_aload_n hx hb dL_law_418 rfl (lv_at hl 0 rfl) ?_
  refine lv_iload_n hx hb dL_law_419 rfl (lv_at hl 3 rfl) ?_
  refine lv_iconst (v := (5 : Int32)) hx hb dL_law_420 (by decide) ?_
  refine lv_iadd hx hb dL_law_421 ?_
  obtain ⟨h_5, hw⟩ := hw
  refine va_sld hx hb hXs hbl hbA hI.2.2.1 h_5 dL_law_422 ?_
  refine pm_callV (As := [.int (xs (v3 + (1 : Int32)).toNatClampNeg), .int (xs (v3 + (2 : Int32)).toNatClampNeg), .int (xs (v3 + (3 : Int32)).toNatClampNeg), .int (xs (v3 + (4 : Int32)).toNatClampNeg), .int (xs (v3 + (5 : Int32)).toNatClampNeg)]) (rest := []) 5 E hI (k_X9_copy t_v1 hw) t_v1 (by decide) rfl kc_X9_copy kl_L_44 km_X9_copy ks_X9_copy ki_X9 (by decide +kernel) ⟨by decide, by decide⟩ rfl hl.1 rfl (by first | exact Nat.le_of_ble_eq_true rfl | (simp only [List.map, pm_rf_cat]; exact Nat.le_of_ble_eq_true rfl)) dL_law_423 ⟨by show cells + 0 + 0 ≤ 600000; omega, by show slots + 0 + 0 ≤ 7302250; omega⟩ (fun r9 M_6 H locs hp hX1 hI => ?_)
  clear hw
  obtain ⟨r_7, rfl, hw⟩ := hp
  replace t_v1 := t_v1.x hX1
  replace t_v2 := t_v2.x hX1
  replace hX := hX.tr hX1
  refine pm_nrm (cells' := cells + 0) (slots' := slots + 0) (g2 := F0 m 426 ls [.int r_7]) rfl rfl rfl ?_
  refine lv_aload_n hx hb dL_law_426 rfl (lv_at hl 2 rfl) ?_
  refine lv_aload_n hx hb dL_law_427 rfl (lv_at hl 0 rfl) ?_
  refine lv_iload_n hx hb dL_law_428 rfl (lv_at hl 3 rfl) ?_
  refine lv_iconst (v := (1 : Int32)) hx hb dL_law_429 (by decide) ?_
  refine lv_iadd hx hb dL_law_430 ?_
  obtain ⟨h_8, hw⟩ := hw
  refine va_sld hx hb hXs hbl hbA hI.2.2.1 h_8 dL_law_431 ?_
  refine lv_aload_n hx hb dL_law_432 rfl (lv_at hl 0 rfl) ?_
  refine lv_iload_n hx hb dL_law_433 rfl (lv_at hl 3 rfl) ?_
  refine lv_iconst (v := (2 : Int32)) hx hb dL_law_434 (by decide) ?_
  refine lv_iadd hx hb dL_law_435 ?_
  obtain ⟨h_9, hw⟩ := hw
  refine va_sld hx hb hXs hbl hbA hI.2.2.1 h_9 dL_law_436 ?_
  refine lv_aload_n hx hb dL_law_437 rfl (lv_at hl 0 rfl) ?_
  refine lv_iload_n hx hb dL_law_438 rfl (lv_at hl 3 rfl) ?_
  refine lv_iconst (v := (3 : Int32)) hx hb dL_law_439 (by decide) ?_
  refine lv_iadd hx hb dL_law_440 ?_
  obtain ⟨h_10, hw⟩ := hw
  refine va_sld hx hb hXs hbl hbA hI.2.2.1 h_10 dL_law_441 ?_
  refine lv_aload_n hx hb dL_law_442 rfl (lv_at hl 0 rfl) ?_
  refine lv_iload_n hx hb dL_law_443 rfl (lv_at hl 3 rfl) ?_
  refine lv_iconst (v := (4 : Int32)) hx hb dL_law_444 (by decide) ?_
  refine lv_iadd hx hb dL_law_445 ?_
  obtain ⟨h_11, hw⟩ := hw
  refine va_sld hx hb hXs hbl hbA hI.2.2.1 h_11 dL_law_446 ?_
  refine lv_aload_n hx hb dL_law_447 rfl (lv_at hl 0 rfl) ?_
  refine lv_iload_n hx hb dL_law_448 rfl (lv_at hl 3 rfl) ?_
  refine lv_iconst (v := (5 : Int32)) hx hb dL_law_449 (by decide) ?_
  refine lv_iadd hx hb dL_law_450 ?_
  obtain ⟨h_12, hw⟩ := hw
  refine va_sld hx hb hXs hbl hbA hI.2.2.1 h_12 dL_law_451 ?_
  refine pm_callV (As := [.int (xs (v3 + (1 : Int32)).toNatClampNeg), .int (xs (v3 + (2 : Int32)).toNatClampNeg), .int (xs (v3 + (3 : Int32)).toNatClampNeg), .int (xs (v3 + (4 : Int32)).toNatClampNeg), .int (xs (v3 + (5 : Int32)).toNatClampNeg)]) (rest := [.int r_7]) 5 E hI (k_X10_copy t_v2 hw) t_v2 (by decide) rfl kc_X10_copy kl_L_48 km_X10_copy ks_X10_copy ki_X10 (by decide +kernel) ⟨by decide, by decide⟩ rfl hl.1 rfl (by first | exact Nat.le_of_ble_eq_true rfl | (simp only [List.map, pm_rf_cat]; exact Nat.le_of_ble_eq_true rfl)) dL_law_452 ⟨by show cells + 0 + 0 ≤ 600000; omega, by show slots + 0 + 0 ≤ 7302250; omega⟩ (fun r9 M_13 H locs hp hX1 hI => ?_)
  clear hw
  obtain ⟨r_14, rfl, hw⟩ := hp
  replace t_v1 := t_v1.x hX1
  replace t_v2 := t_v2.x hX1
  replace hX := hX.tr hX1
  refine pm_nrm (cells' := cells + 0) (slots' := slots + 0) (g2 := F0 m 455 ls [.int r_14, .int r_7]) rfl rfl rfl ?_
  refine lv_icmp_eq (tgt := 1205) hx hb dL_law_455 (by decide) (fun h_15 => ?_) (fun h_15 => ?_)
  · replace hw := hw.1 h_15
    refine W.widen (k := cells + 4) (n := slots + 4107) (by omega) (by omega) ?_
    exact c_L_law_1205 E hret hc hk_18 hX hI t_v1 t_v2 (lv_sub hl [0, 1, 2, 3] rfl) hw
  · replace hw := hw.2 h_15
    refine lv_iconst (v := (0 : Int32)) hx hb dL_law_458 (by decide) ?_
    exact hw.elim
set_option maxHeartbeats 4000000 in
set_option maxRecDepth 100000 in
theorem c_L_law_363 {p : Program} {l : Launch} {e : Env} {s : State} {m : MethodId} {below : List Frame} {meth : Method} {c : Code} {G : pm_G} {b L : Nat} {xs : Nat → Int32} {M0 : pm_M} {v1 : Nat} {v2 : Nat} {v3 : Int32} {cells slots : Nat} {M : pm_M} {k_18 : Int32 → pm_M → Prop} (E : pm_E G p s m #[Value.ref b] meth c code 4 RL) (hret : lw_At p s m meth c b L xs) (hc : cells + 4 ≤ 600000 ∧ slots + 4107 ≤ 7302250) (hk_18 : ∀ (v3 : Int32) (M : pm_M) (H : Heap) (locs : List Loc) (ls : Array Slot), pm_X M0 M → pm_I G s.heap M H locs → (pm_is M v1 8) → (pm_is M v2 9) → lv_has ls 4 [(0, .ref b), (1, .ref (s.heap.size + v1)), (2, .ref (s.heap.size + v2)), (3, .int v3)] → k_18 v3 M → W p l e room_1 s m #[Value.ref b] below meth c H locs (cells + 4) (slots + 4107) (lw_Z below #[Value.ref b] s) (F0 m 18 ls [])) {H : Heap} {locs : List Loc} {ls : Array Slot} (hX : pm_X M0 M) (hI : pm_I G s.heap M H locs) (t_v1 : pm_is M v1 8) (t_v2 : pm_is M v2 9) (hl : lv_has ls 4 [(0, .ref b), (1, .ref (s.heap.size + v1)), (2, .ref (s.heap.size + v2)), (3, .int v3)]) (hw : w_L_law_363 L xs k_18 v1 v2 v3 M) : W p l e room_1 s m #[Value.ref b] below meth c H locs cells slots (lw_Z below #[Value.ref b] s) (F0 m 363 ls []) := by
  have hx := E.1
  have hb := E.2.1
  have hown := E.2.2.2.1
  have hts := E.2.2.2.2.1
  have hXs := hret.2.2.2.2.2.2.1
  have hbl := hret.2.2.2.2.2.2.2.1
  have hbA : ¬ (fun q : Nat => s.heap.size ≤ q) b := Nat.not_le.mpr hbl
  refine pm_nrm (cells' := cells + 0) (slots' := slots + 0) (g2 := F0 m 363 ls []) rfl rfl rfl ?_
  obtain ⟨hc1, hc2⟩ := id hc
  unfold w_L_law_363 at hw
  refine lv_aload_n hx hb dL_law_363 rfl (lv_at hl 1 rfl) ?_
  refine lv_aload_n hx hb dL_law_364 rfl (lv_at hl 0 rfl) ?_
  refine lv_iload_n hx hb dL_law_365 rfl (lv_at hl 3 rfl) ?_
  refine lv_iconst (v := (1 : Int32)) hx hb dL_law_366 (by decide) ?_
  refine lv_iadd hx hb dL_law_367 ?_
  obtain ⟨h_1, hw⟩ := hw
  refine va_sld hx hb hXs hbl hbA hI.2.2.1 h_1 dL_law_368 ?_
  refine lv_aload_n hx hb dL_law_369 rfl (lv_at hl 0 rfl) ?_
  refine lv_iload_n hx hb dL_law_370 rfl (lv_at hl 3 rfl) ?_
  refine lv_iconst (v := (2 : Int32)) hx hb dL_law_371 (by decide) ?_
  refine lv_iadd hx hb dL_law_372 ?_
  obtain ⟨h_2, hw⟩ := hw
  refine va_sld hx hb hXs hbl hbA hI.2.2.1 h_2 dL_law_373 ?_
  refine pm_callV (As := [.int (xs (v3 + (1 : Int32)).toNatClampNeg), .int (xs (v3 + (2 : Int32)).toNatClampNeg)]) (rest := []) 2 E hI (k_X9_read t_v1 hw) t_v1 (by decide) rfl kc_X9_read kl_L_39 km_X9_read ks_X9_read ki_X9 (by decide +kernel) ⟨by decide, by decide⟩ rfl hl.1 rfl (by first | exact Nat.le_of_ble_eq_true rfl | (simp only [List.map, pm_rf_cat]; exact Nat.le_of_ble_eq_true rfl)) dL_law_374 ⟨by show cells + 0 + 0 ≤ 600000; omega, by show slots + 0 + 0 ≤ 7302250; omega⟩ (fun r9 M9 H locs hp hX1 hI => ?_)
  clear hw
  obtain ⟨r_3, rfl, rfl, hw⟩ := hp
  refine pm_nrm (cells' := cells + 0) (slots' := slots + 0) (g2 := F0 m 377 ls [.long r_3]) rfl rfl rfl ?_
  refine lv_aload_n hx hb dL_law_377 rfl (lv_at hl 2 rfl) ?_
  refine lv_aload_n hx hb dL_law_378 rfl (lv_at hl 0 rfl) ?_
  refine lv_iload_n hx hb dL_law_379 rfl (lv_at hl 3 rfl) ?_
  refine lv_iconst (v := (1 : Int32)) hx hb dL_law_380 (by decide) ?_
  refine lv_iadd hx hb dL_law_381 ?_
  obtain ⟨h_4, hw⟩ := hw
  refine va_sld hx hb hXs hbl hbA hI.2.2.1 h_4 dL_law_382 ?_
  refine lv_aload_n hx hb dL_law_383 rfl (lv_at hl 0 rfl) ?_
  refine lv_iload_n hx hb dL_law_384 rfl (lv_at hl 3 rfl) ?_
  refine lv_iconst (v := (2 : Int32)) hx hb dL_law_385 (by decide) ?_
  refine lv_iadd hx hb dL_law_386 ?_
  obtain ⟨h_5, hw⟩ := hw
  refine va_sld hx hb hXs hbl hbA hI.2.2.1 h_5 dL_law_387 ?_
  refine pm_callV (As := [.int (xs (v3 + (1 : Int32)).toNatClampNeg), .int (xs (v3 + (2 : Int32)).toNatClampNeg)]) (rest := [.long r_3]) 2 E hI (k_X10_read t_v2 hw) t_v2 (by decide) rfl kc_X10_read kl_L_43 km_X10_read ks_X10_read ki_X10 (by decide +kernel) ⟨by decide, by decide⟩ rfl hl.1 rfl (by first | exact Nat.le_of_ble_eq_true rfl | (simp only [List.map, pm_rf_cat]; exact Nat.le_of_ble_eq_true rfl)) dL_law_388 ⟨by show cells + 0 + 0 ≤ 600000; omega, by show slots + 0 + 0 ≤ 7302250; omega⟩ (fun r9 M9 H locs hp hX1 hI => ?_)
  clear hw
  obtain ⟨r_6, rfl, rfl, hw⟩ := hp
  refine pm_nrm (cells' := cells + 0) (slots' := slots + 0) (g2 := F0 m 391 ls [.long r_6, .long r_3]) rfl rfl rfl ?_
  refine W.lcmp hx hb dL_law_391 ?_
  refine lv_if_eq (tgt := 1205) hx hb dL_law_392 (by decide) (fun h_7 => ?_) (fun h_7 => ?_)
  · replace hw := hw.1 h_7
    refine W.widen (k := cells + 4) (n := slots + 4107) (by omega) (by omega) ?_
    exact c_L_law_1205 E hret hc hk_18 hX hI t_v1 t_v2 (lv_sub hl [0, 1, 2, 3] rfl) hw
  · replace hw := hw.2 h_7
    refine lv_iconst (v := (0 : Int32)) hx hb dL_law_395 (by decide) ?_
    exact hw.elim
set_option maxHeartbeats 4000000 in
set_option maxRecDepth 100000 in
theorem c_L_law_290 {p : Program} {l : Launch} {e : Env} {s : State} {m : MethodId} {below : List Frame} {meth : Method} {c : Code} {G : pm_G} {b L : Nat} {xs : Nat → Int32} {M0 : pm_M} {v1 : Nat} {v2 : Nat} {v3 : Int32} {cells slots : Nat} {M : pm_M} {k_18 : Int32 → pm_M → Prop} (E : pm_E G p s m #[Value.ref b] meth c code 4 RL) (hret : lw_At p s m meth c b L xs) (hc : cells + 4 ≤ 600000 ∧ slots + 4107 ≤ 7302250) (hk_18 : ∀ (v3 : Int32) (M : pm_M) (H : Heap) (locs : List Loc) (ls : Array Slot), pm_X M0 M → pm_I G s.heap M H locs → (pm_is M v1 8) → (pm_is M v2 9) → lv_has ls 4 [(0, .ref b), (1, .ref (s.heap.size + v1)), (2, .ref (s.heap.size + v2)), (3, .int v3)] → k_18 v3 M → W p l e room_1 s m #[Value.ref b] below meth c H locs (cells + 4) (slots + 4107) (lw_Z below #[Value.ref b] s) (F0 m 18 ls [])) {H : Heap} {locs : List Loc} {ls : Array Slot} (hX : pm_X M0 M) (hI : pm_I G s.heap M H locs) (t_v1 : pm_is M v1 8) (t_v2 : pm_is M v2 9) (hl : lv_has ls 4 [(0, .ref b), (1, .ref (s.heap.size + v1)), (2, .ref (s.heap.size + v2)), (3, .int v3)]) (hw : w_L_law_290 L xs k_18 v1 v2 v3 M) : W p l e room_1 s m #[Value.ref b] below meth c H locs cells slots (lw_Z below #[Value.ref b] s) (F0 m 290 ls []) := by
  have hx := E.1
  have hb := E.2.1
  have hown := E.2.2.2.1
  have hts := E.2.2.2.2.1
  have hXs := hret.2.2.2.2.2.2.1
  have hbl := hret.2.2.2.2.2.2.2.1
  have hbA : ¬ (fun q : Nat => s.heap.size ≤ q) b := Nat.not_le.mpr hbl
  refine pm_nrm (cells' := cells + 0) (slots' := slots + 0) (g2 := F0 m 290 ls []) rfl rfl rfl ?_
  obtain ⟨hc1, hc2⟩ := id hc
  unfold w_L_law_290 at hw
  refine lv_aload_n hx hb dL_law_290 rfl (lv_at hl 1 rfl) ?_
  refine lv_aload_n hx hb dL_law_291 rfl (lv_at hl 0 rfl) ?_
  refine lv_iload_n hx hb dL_law_292 rfl (lv_at hl 3 rfl) ?_
  refine lv_iconst (v := (1 : Int32)) hx hb dL_law_293 (by decide) ?_
  refine lv_iadd hx hb dL_law_294 ?_
  obtain ⟨h_1, hw⟩ := hw
  refine va_sld hx hb hXs hbl hbA hI.2.2.1 h_1 dL_law_295 ?_
  refine lv_aload_n hx hb dL_law_296 rfl (lv_at hl 0 rfl) ?_
  refine lv_iload_n hx hb dL_law_297 rfl (lv_at hl 3 rfl) ?_
  refine lv_iconst (v := (2 : Int32)) hx hb dL_law_298 (by decide) ?_
  refine lv_iadd hx hb dL_law_299 ?_
  obtain ⟨h_2, hw⟩ := hw
  refine va_sld hx hb hXs hbl hbA hI.2.2.1 h_2 dL_law_300 ?_
  refine lv_aload_n hx hb dL_law_301 rfl (lv_at hl 0 rfl) ?_
  refine lv_iload_n hx hb dL_law_302 rfl (lv_at hl 3 rfl) ?_
  refine lv_iconst (v := (3 : Int32)) hx hb dL_law_303 (by decide) ?_
  refine lv_iadd hx hb dL_law_304 ?_
  obtain ⟨h_3, hw⟩ := hw
  refine va_sld hx hb hXs hbl hbA hI.2.2.1 h_3 dL_law_305 ?_
  refine lv_i2l hx hb dL_law_306 rfl ?_
  refine lv_bipush (v := (32 : Int32)) hx hb dL_law_307 (by decide) ?_
  refine lv_lshl hx hb dL_law_309 rfl ?_
  refine lv_aload_n hx hb dL_law_310 rfl (lv_at hl 0 rfl) ?_
  refine lv_iload_n hx hb dL_law_311 rfl (lv_at hl 3 rfl) ?_
  refine lv_iconst (v := (4 : Int32)) hx hb dL_law_312 (by decide) ?_
  refine lv_iadd hx hb dL_law_313 ?_
  obtain ⟨h_4, hw⟩ := hw
  refine va_sld hx hb hXs hbl hbA hI.2.2.1 h_4 dL_law_314 ?_
  refine lv_i2l hx hb dL_law_315 rfl ?_
  refine lv_ldc2 (v := (4294967295 : Int64)) hx hb hown (hts _ kl_L_32) dL_law_316 ?_
  refine lv_land hx hb dL_law_319 ?_
  refine lv_lor hx hb dL_law_320 ?_
  refine pm_callV (As := [.int (xs (v3 + (1 : Int32)).toNatClampNeg), .int (xs (v3 + (2 : Int32)).toNatClampNeg), .long (((xs (v3 + (3 : Int32)).toNatClampNeg).toInt64 <<< ((32 : Int32).toInt64 &&& 63)) ||| ((xs (v3 + (4 : Int32)).toNatClampNeg).toInt64 &&& (4294967295 : Int64)))]) (rest := []) 3 E hI (k_X9_write t_v1 hw) t_v1 (by decide) rfl kc_X9_write kl_L_34 km_X9_write ks_X9_write ki_X9 (by decide +kernel) ⟨by decide, by decide⟩ rfl hl.1 rfl (by first | exact Nat.le_of_ble_eq_true rfl | (simp only [List.map, pm_rf_cat]; exact Nat.le_of_ble_eq_true rfl)) dL_law_321 ⟨by show cells + 0 + 0 ≤ 600000; omega, by show slots + 0 + 0 ≤ 7302250; omega⟩ (fun r9 M_5 H locs hp hX1 hI => ?_)
  clear hw
  obtain ⟨r_6, rfl, hw⟩ := hp
  replace t_v1 := t_v1.x hX1
  replace t_v2 := t_v2.x hX1
  replace hX := hX.tr hX1
  refine pm_nrm (cells' := cells + 0) (slots' := slots + 0) (g2 := F0 m 324 ls [.int r_6]) rfl rfl rfl ?_
  refine lv_aload_n hx hb dL_law_324 rfl (lv_at hl 2 rfl) ?_
  refine lv_aload_n hx hb dL_law_325 rfl (lv_at hl 0 rfl) ?_
  refine lv_iload_n hx hb dL_law_326 rfl (lv_at hl 3 rfl) ?_
  refine lv_iconst (v := (1 : Int32)) hx hb dL_law_327 (by decide) ?_
  refine lv_iadd hx hb dL_law_328 ?_
  obtain ⟨h_7, hw⟩ := hw
  refine va_sld hx hb hXs hbl hbA hI.2.2.1 h_7 dL_law_329 ?_
  refine lv_aload_n hx hb dL_law_330 rfl (lv_at hl 0 rfl) ?_
  refine lv_iload_n hx hb dL_law_331 rfl (lv_at hl 3 rfl) ?_
  refine lv_iconst (v := (2 : Int32)) hx hb dL_law_332 (by decide) ?_
  refine lv_iadd hx hb dL_law_333 ?_
  obtain ⟨h_8, hw⟩ := hw
  refine va_sld hx hb hXs hbl hbA hI.2.2.1 h_8 dL_law_334 ?_
  refine lv_aload_n hx hb dL_law_335 rfl (lv_at hl 0 rfl) ?_
  refine lv_iload_n hx hb dL_law_336 rfl (lv_at hl 3 rfl) ?_
  refine lv_iconst (v := (3 : Int32)) hx hb dL_law_337 (by decide) ?_
  refine lv_iadd hx hb dL_law_338 ?_
  obtain ⟨h_9, hw⟩ := hw
  refine va_sld hx hb hXs hbl hbA hI.2.2.1 h_9 dL_law_339 ?_
  refine lv_i2l hx hb dL_law_340 rfl ?_
  refine lv_bipush (v := (32 : Int32)) hx hb dL_law_341 (by decide) ?_
  refine lv_lshl hx hb dL_law_343 rfl ?_
  refine lv_aload_n hx hb dL_law_344 rfl (lv_at hl 0 rfl) ?_
  refine lv_iload_n hx hb dL_law_345 rfl (lv_at hl 3 rfl) ?_
  refine lv_iconst (v := (4 : Int32)) hx hb dL_law_346 (by decide) ?_
  refine lv_iadd hx hb dL_law_347 ?_
  obtain ⟨h_10, hw⟩ := hw
  refine va_sld hx hb hXs hbl hbA hI.2.2.1 h_10 dL_law_348 ?_
  refine lv_i2l hx hb dL_law_349 rfl ?_
  refine lv_ldc2 (v := (4294967295 : Int64)) hx hb hown (hts _ kl_L_32) dL_law_350 ?_
  refine lv_land hx hb dL_law_353 ?_
  refine lv_lor hx hb dL_law_354 ?_
  refine pm_callV (As := [.int (xs (v3 + (1 : Int32)).toNatClampNeg), .int (xs (v3 + (2 : Int32)).toNatClampNeg), .long (((xs (v3 + (3 : Int32)).toNatClampNeg).toInt64 <<< ((32 : Int32).toInt64 &&& 63)) ||| ((xs (v3 + (4 : Int32)).toNatClampNeg).toInt64 &&& (4294967295 : Int64)))]) (rest := [.int r_6]) 3 E hI (k_X10_write t_v2 hw) t_v2 (by decide) rfl kc_X10_write kl_L_38 km_X10_write ks_X10_write ki_X10 (by decide +kernel) ⟨by decide, by decide⟩ rfl hl.1 rfl (by first | exact Nat.le_of_ble_eq_true rfl | (simp only [List.map, pm_rf_cat]; exact Nat.le_of_ble_eq_true rfl)) dL_law_355 ⟨by show cells + 0 + 0 ≤ 600000; omega, by show slots + 0 + 0 ≤ 7302250; omega⟩ (fun r9 M_11 H locs hp hX1 hI => ?_)
  clear hw
  obtain ⟨r_12, rfl, hw⟩ := hp
  replace t_v1 := t_v1.x hX1
  replace t_v2 := t_v2.x hX1
  replace hX := hX.tr hX1
  refine pm_nrm (cells' := cells + 0) (slots' := slots + 0) (g2 := F0 m 358 ls [.int r_12, .int r_6]) rfl rfl rfl ?_
  refine lv_icmp_eq (tgt := 1205) hx hb dL_law_358 (by decide) (fun h_13 => ?_) (fun h_13 => ?_)
  · replace hw := hw.1 h_13
    refine W.widen (k := cells + 4) (n := slots + 4107) (by omega) (by omega) ?_
    exact c_L_law_1205 E hret hc hk_18 hX hI t_v1 t_v2 (lv_sub hl [0, 1, 2, 3] rfl) hw
  · replace hw := hw.2 h_13
    refine lv_iconst (v := (0 : Int32)) hx hb dL_law_361 (by decide) ?_
    exact hw.elim
set_option maxHeartbeats 4000000 in
set_option maxRecDepth 100000 in
theorem c_L_law_267 {p : Program} {l : Launch} {e : Env} {s : State} {m : MethodId} {below : List Frame} {meth : Method} {c : Code} {G : pm_G} {b L : Nat} {xs : Nat → Int32} {M0 : pm_M} {v1 : Nat} {v2 : Nat} {v3 : Int32} {cells slots : Nat} {M : pm_M} {k_18 : Int32 → pm_M → Prop} (E : pm_E G p s m #[Value.ref b] meth c code 4 RL) (hret : lw_At p s m meth c b L xs) (hc : cells + 4 ≤ 600000 ∧ slots + 4107 ≤ 7302250) (hk_18 : ∀ (v3 : Int32) (M : pm_M) (H : Heap) (locs : List Loc) (ls : Array Slot), pm_X M0 M → pm_I G s.heap M H locs → (pm_is M v1 8) → (pm_is M v2 9) → lv_has ls 4 [(0, .ref b), (1, .ref (s.heap.size + v1)), (2, .ref (s.heap.size + v2)), (3, .int v3)] → k_18 v3 M → W p l e room_1 s m #[Value.ref b] below meth c H locs (cells + 4) (slots + 4107) (lw_Z below #[Value.ref b] s) (F0 m 18 ls [])) {H : Heap} {locs : List Loc} {ls : Array Slot} (hX : pm_X M0 M) (hI : pm_I G s.heap M H locs) (t_v1 : pm_is M v1 8) (t_v2 : pm_is M v2 9) (hl : lv_has ls 4 [(0, .ref b), (1, .ref (s.heap.size + v1)), (2, .ref (s.heap.size + v2)), (3, .int v3)]) (hw : w_L_law_267 L xs k_18 v1 v2 v3 M) : W p l e room_1 s m #[Value.ref b] below meth c H locs cells slots (lw_Z below #[Value.ref b] s) (F0 m 267 ls []) := by
  have hx := E.1
  have hb := E.2.1
  have hown := E.2.2.2.1
  have hts := E.2.2.2.2.1
  have hXs := hret.2.2.2.2.2.2.1
  have hbl := hret.2.2.2.2.2.2.2.1
  have hbA : ¬ (fun q : Nat => s.heap.size ≤ q) b := Nat.not_le.mpr hbl
  refine pm_nrm (cells' := cells + 0) (slots' := slots + 0) (g2 := F0 m 267 ls []) rfl rfl rfl ?_
  obtain ⟨hc1, hc2⟩ := id hc
  unfold w_L_law_267 at hw
  refine lv_aload_n hx hb dL_law_267 rfl (lv_at hl 1 rfl) ?_
  refine lv_aload_n hx hb dL_law_268 rfl (lv_at hl 0 rfl) ?_
  refine lv_iload_n hx hb dL_law_269 rfl (lv_at hl 3 rfl) ?_
  refine lv_iconst (v := (1 : Int32)) hx hb dL_law_270 (by decide) ?_
  refine lv_iadd hx hb dL_law_271 ?_
  obtain ⟨h_1, hw⟩ := hw
  refine va_sld hx hb hXs hbl hbA hI.2.2.1 h_1 dL_law_272 ?_
  refine pm_callV (As := [.int (xs (v3 + (1 : Int32)).toNatClampNeg)]) (rest := []) 1 E hI (k_X9_tear t_v1 hw) t_v1 (by decide) rfl kc_X9_tear kl_L_28 km_X9_tear ks_X9_tear ki_X9 (by decide +kernel) ⟨by decide, by decide⟩ rfl hl.1 rfl (by first | exact Nat.le_of_ble_eq_true rfl | (simp only [List.map, pm_rf_cat]; exact Nat.le_of_ble_eq_true rfl)) dL_law_273 ⟨by show cells + 0 + 0 ≤ 600000; omega, by show slots + 0 + 0 ≤ 7302250; omega⟩ (fun r9 M_2 H locs hp hX1 hI => ?_)
  clear hw
  obtain ⟨r_3, rfl, hw⟩ := hp
  replace t_v1 := t_v1.x hX1
  replace t_v2 := t_v2.x hX1
  replace hX := hX.tr hX1
  refine pm_nrm (cells' := cells + 0) (slots' := slots + 0) (g2 := F0 m 276 ls [.int r_3]) rfl rfl rfl ?_
  refine lv_aload_n hx hb dL_law_276 rfl (lv_at hl 2 rfl) ?_
  refine lv_aload_n hx hb dL_law_277 rfl (lv_at hl 0 rfl) ?_
  refine lv_iload_n hx hb dL_law_278 rfl (lv_at hl 3 rfl) ?_
  refine lv_iconst (v := (1 : Int32)) hx hb dL_law_279 (by decide) ?_
  refine lv_iadd hx hb dL_law_280 ?_
  obtain ⟨h_4, hw⟩ := hw
  refine va_sld hx hb hXs hbl hbA hI.2.2.1 h_4 dL_law_281 ?_
  refine pm_callV (As := [.int (xs (v3 + (1 : Int32)).toNatClampNeg)]) (rest := [.int r_3]) 1 E hI (k_X10_tear t_v2 hw) t_v2 (by decide) rfl kc_X10_tear kl_L_31 km_X10_tear ks_X10_tear ki_X10 (by decide +kernel) ⟨by decide, by decide⟩ rfl hl.1 rfl (by first | exact Nat.le_of_ble_eq_true rfl | (simp only [List.map, pm_rf_cat]; exact Nat.le_of_ble_eq_true rfl)) dL_law_282 ⟨by show cells + 0 + 0 ≤ 600000; omega, by show slots + 0 + 0 ≤ 7302250; omega⟩ (fun r9 M_5 H locs hp hX1 hI => ?_)
  clear hw
  obtain ⟨r_6, rfl, hw⟩ := hp
  replace t_v1 := t_v1.x hX1
  replace t_v2 := t_v2.x hX1
  replace hX := hX.tr hX1
  refine pm_nrm (cells' := cells + 0) (slots' := slots + 0) (g2 := F0 m 285 ls [.int r_6, .int r_3]) rfl rfl rfl ?_
  refine lv_icmp_eq (tgt := 1205) hx hb dL_law_285 (by decide) (fun h_7 => ?_) (fun h_7 => ?_)
  · replace hw := hw.1 h_7
    refine W.widen (k := cells + 4) (n := slots + 4107) (by omega) (by omega) ?_
    exact c_L_law_1205 E hret hc hk_18 hX hI t_v1 t_v2 (lv_sub hl [0, 1, 2, 3] rfl) hw
  · replace hw := hw.2 h_7
    refine lv_iconst (v := (0 : Int32)) hx hb dL_law_288 (by decide) ?_
    exact hw.elim
set_option maxHeartbeats 4000000 in
set_option maxRecDepth 100000 in
theorem c_L_law_224 {p : Program} {l : Launch} {e : Env} {s : State} {m : MethodId} {below : List Frame} {meth : Method} {c : Code} {G : pm_G} {b L : Nat} {xs : Nat → Int32} {M0 : pm_M} {v1 : Nat} {v2 : Nat} {v3 : Int32} {cells slots : Nat} {M : pm_M} {k_18 : Int32 → pm_M → Prop} (E : pm_E G p s m #[Value.ref b] meth c code 4 RL) (hret : lw_At p s m meth c b L xs) (hc : cells + 4 ≤ 600000 ∧ slots + 4107 ≤ 7302250) (hk_18 : ∀ (v3 : Int32) (M : pm_M) (H : Heap) (locs : List Loc) (ls : Array Slot), pm_X M0 M → pm_I G s.heap M H locs → (pm_is M v1 8) → (pm_is M v2 9) → lv_has ls 4 [(0, .ref b), (1, .ref (s.heap.size + v1)), (2, .ref (s.heap.size + v2)), (3, .int v3)] → k_18 v3 M → W p l e room_1 s m #[Value.ref b] below meth c H locs (cells + 4) (slots + 4107) (lw_Z below #[Value.ref b] s) (F0 m 18 ls [])) {H : Heap} {locs : List Loc} {ls : Array Slot} (hX : pm_X M0 M) (hI : pm_I G s.heap M H locs) (t_v1 : pm_is M v1 8) (t_v2 : pm_is M v2 9) (hl : lv_has ls 4 [(0, .ref b), (1, .ref (s.heap.size + v1)), (2, .ref (s.heap.size + v2)), (3, .int v3)]) (hw : w_L_law_224 L xs k_18 v1 v2 v3 M) : W p l e room_1 s m #[Value.ref b] below meth c H locs cells slots (lw_Z below #[Value.ref b] s) (F0 m 224 ls []) := by
  have hx := E.1
  have hb := E.2.1
  have hown := E.2.2.2.1
  have hts := E.2.2.2.2.1
  have hXs := hret.2.2.2.2.2.2.1
  have hbl := hret.2.2.2.2.2.2.2.1
  have hbA : ¬ (fun q : Nat => s.heap.size ≤ q) b := Nat.not_le.mpr hbl
  refine pm_nrm (cells' := cells + 0) (slots' := slots + 0) (g2 := F0 m 224 ls []) rfl rfl rfl ?_
  obtain ⟨hc1, hc2⟩ := id hc
  unfold w_L_law_224 at hw
  refine lv_aload_n hx hb dL_law_224 rfl (lv_at hl 1 rfl) ?_
  refine lv_aload_n hx hb dL_law_225 rfl (lv_at hl 0 rfl) ?_
  refine lv_iload_n hx hb dL_law_226 rfl (lv_at hl 3 rfl) ?_
  refine lv_iconst (v := (1 : Int32)) hx hb dL_law_227 (by decide) ?_
  refine lv_iadd hx hb dL_law_228 ?_
  obtain ⟨h_1, hw⟩ := hw
  refine va_sld hx hb hXs hbl hbA hI.2.2.1 h_1 dL_law_229 ?_
  refine lv_aload_n hx hb dL_law_230 rfl (lv_at hl 0 rfl) ?_
  refine lv_iload_n hx hb dL_law_231 rfl (lv_at hl 3 rfl) ?_
  refine lv_iconst (v := (2 : Int32)) hx hb dL_law_232 (by decide) ?_
  refine lv_iadd hx hb dL_law_233 ?_
  obtain ⟨h_2, hw⟩ := hw
  refine va_sld hx hb hXs hbl hbA hI.2.2.1 h_2 dL_law_234 ?_
  refine lv_aload_n hx hb dL_law_235 rfl (lv_at hl 0 rfl) ?_
  refine lv_iload_n hx hb dL_law_236 rfl (lv_at hl 3 rfl) ?_
  refine lv_iconst (v := (3 : Int32)) hx hb dL_law_237 (by decide) ?_
  refine lv_iadd hx hb dL_law_238 ?_
  obtain ⟨h_3, hw⟩ := hw
  refine va_sld hx hb hXs hbl hbA hI.2.2.1 h_3 dL_law_239 ?_
  refine pm_callV (As := [.int (xs (v3 + (1 : Int32)).toNatClampNeg), .int (xs (v3 + (2 : Int32)).toNatClampNeg), .int (xs (v3 + (3 : Int32)).toNatClampNeg)]) (rest := []) 3 E hI (k_X9_row t_v1 hw) t_v1 (by decide) rfl kc_X9_row kl_L_23 km_X9_row ks_X9_row ki_X9 (by decide +kernel) ⟨by decide, by decide⟩ rfl hl.1 rfl (by first | exact Nat.le_of_ble_eq_true rfl | (simp only [List.map, pm_rf_cat]; exact Nat.le_of_ble_eq_true rfl)) dL_law_240 ⟨by show cells + 0 + 0 ≤ 600000; omega, by show slots + 0 + 0 ≤ 7302250; omega⟩ (fun r9 M_4 H locs hp hX1 hI => ?_)
  clear hw
  obtain ⟨r_5, rfl, hw⟩ := hp
  replace t_v1 := t_v1.x hX1
  replace t_v2 := t_v2.x hX1
  replace hX := hX.tr hX1
  refine pm_nrm (cells' := cells + 0) (slots' := slots + 0) (g2 := F0 m 243 ls [.int r_5]) rfl rfl rfl ?_
  refine lv_aload_n hx hb dL_law_243 rfl (lv_at hl 2 rfl) ?_
  refine lv_aload_n hx hb dL_law_244 rfl (lv_at hl 0 rfl) ?_
  refine lv_iload_n hx hb dL_law_245 rfl (lv_at hl 3 rfl) ?_
  refine lv_iconst (v := (1 : Int32)) hx hb dL_law_246 (by decide) ?_
  refine lv_iadd hx hb dL_law_247 ?_
  obtain ⟨h_6, hw⟩ := hw
  refine va_sld hx hb hXs hbl hbA hI.2.2.1 h_6 dL_law_248 ?_
  refine lv_aload_n hx hb dL_law_249 rfl (lv_at hl 0 rfl) ?_
  refine lv_iload_n hx hb dL_law_250 rfl (lv_at hl 3 rfl) ?_
  refine lv_iconst (v := (2 : Int32)) hx hb dL_law_251 (by decide) ?_
  refine lv_iadd hx hb dL_law_252 ?_
  obtain ⟨h_7, hw⟩ := hw
  refine va_sld hx hb hXs hbl hbA hI.2.2.1 h_7 dL_law_253 ?_
  refine lv_aload_n hx hb dL_law_254 rfl (lv_at hl 0 rfl) ?_
  refine lv_iload_n hx hb dL_law_255 rfl (lv_at hl 3 rfl) ?_
  refine lv_iconst (v := (3 : Int32)) hx hb dL_law_256 (by decide) ?_
  refine lv_iadd hx hb dL_law_257 ?_
  obtain ⟨h_8, hw⟩ := hw
  refine va_sld hx hb hXs hbl hbA hI.2.2.1 h_8 dL_law_258 ?_
  refine pm_callV (As := [.int (xs (v3 + (1 : Int32)).toNatClampNeg), .int (xs (v3 + (2 : Int32)).toNatClampNeg), .int (xs (v3 + (3 : Int32)).toNatClampNeg)]) (rest := [.int r_5]) 3 E hI (k_X10_row t_v2 hw) t_v2 (by decide) rfl kc_X10_row kl_L_27 km_X10_row ks_X10_row ki_X10 (by decide +kernel) ⟨by decide, by decide⟩ rfl hl.1 rfl (by first | exact Nat.le_of_ble_eq_true rfl | (simp only [List.map, pm_rf_cat]; exact Nat.le_of_ble_eq_true rfl)) dL_law_259 ⟨by show cells + 0 + 0 ≤ 600000; omega, by show slots + 0 + 0 ≤ 7302250; omega⟩ (fun r9 M_9 H locs hp hX1 hI => ?_)
  clear hw
  obtain ⟨r_10, rfl, hw⟩ := hp
  replace t_v1 := t_v1.x hX1
  replace t_v2 := t_v2.x hX1
  replace hX := hX.tr hX1
  refine pm_nrm (cells' := cells + 0) (slots' := slots + 0) (g2 := F0 m 262 ls [.int r_10, .int r_5]) rfl rfl rfl ?_
  refine lv_icmp_eq (tgt := 1205) hx hb dL_law_262 (by decide) (fun h_11 => ?_) (fun h_11 => ?_)
  · replace hw := hw.1 h_11
    refine W.widen (k := cells + 4) (n := slots + 4107) (by omega) (by omega) ?_
    exact c_L_law_1205 E hret hc hk_18 hX hI t_v1 t_v2 (lv_sub hl [0, 1, 2, 3] rfl) hw
  · replace hw := hw.2 h_11
    refine lv_iconst (v := (0 : Int32)) hx hb dL_law_265 (by decide) ?_
    exact hw.elim
set_option maxHeartbeats 4000000 in
set_option maxRecDepth 100000 in
theorem c_L_law_191 {p : Program} {l : Launch} {e : Env} {s : State} {m : MethodId} {below : List Frame} {meth : Method} {c : Code} {G : pm_G} {b L : Nat} {xs : Nat → Int32} {M0 : pm_M} {v1 : Nat} {v2 : Nat} {v3 : Int32} {cells slots : Nat} {M : pm_M} {k_18 : Int32 → pm_M → Prop} (E : pm_E G p s m #[Value.ref b] meth c code 4 RL) (hret : lw_At p s m meth c b L xs) (hc : cells + 4 ≤ 600000 ∧ slots + 4107 ≤ 7302250) (hk_18 : ∀ (v3 : Int32) (M : pm_M) (H : Heap) (locs : List Loc) (ls : Array Slot), pm_X M0 M → pm_I G s.heap M H locs → (pm_is M v1 8) → (pm_is M v2 9) → lv_has ls 4 [(0, .ref b), (1, .ref (s.heap.size + v1)), (2, .ref (s.heap.size + v2)), (3, .int v3)] → k_18 v3 M → W p l e room_1 s m #[Value.ref b] below meth c H locs (cells + 4) (slots + 4107) (lw_Z below #[Value.ref b] s) (F0 m 18 ls [])) {H : Heap} {locs : List Loc} {ls : Array Slot} (hX : pm_X M0 M) (hI : pm_I G s.heap M H locs) (t_v1 : pm_is M v1 8) (t_v2 : pm_is M v2 9) (hl : lv_has ls 4 [(0, .ref b), (1, .ref (s.heap.size + v1)), (2, .ref (s.heap.size + v2)), (3, .int v3)]) (hw : w_L_law_191 L xs k_18 v1 v2 v3 M) : W p l e room_1 s m #[Value.ref b] below meth c H locs cells slots (lw_Z below #[Value.ref b] s) (F0 m 191 ls []) := by
  have hx := E.1
  have hb := E.2.1
  have hown := E.2.2.2.1
  have hts := E.2.2.2.2.1
  have hXs := hret.2.2.2.2.2.2.1
  have hbl := hret.2.2.2.2.2.2.2.1
  have hbA : ¬ (fun q : Nat => s.heap.size ≤ q) b := Nat.not_le.mpr hbl
  refine pm_nrm (cells' := cells + 0) (slots' := slots + 0) (g2 := F0 m 191 ls []) rfl rfl rfl ?_
  obtain ⟨hc1, hc2⟩ := id hc
  unfold w_L_law_191 at hw
  refine lv_aload_n hx hb dL_law_191 rfl (lv_at hl 1 rfl) ?_
  refine lv_aload_n hx hb dL_law_192 rfl (lv_at hl 0 rfl) ?_
  refine lv_iload_n hx hb dL_law_193 rfl (lv_at hl 3 rfl) ?_
  refine lv_iconst (v := (1 : Int32)) hx hb dL_law_194 (by decide) ?_
  refine lv_iadd hx hb dL_law_195 ?_
  obtain ⟨h_1, hw⟩ := hw
  refine va_sld hx hb hXs hbl hbA hI.2.2.1 h_1 dL_law_196 ?_
  refine lv_aload_n hx hb dL_law_197 rfl (lv_at hl 0 rfl) ?_
  refine lv_iload_n hx hb dL_law_198 rfl (lv_at hl 3 rfl) ?_
  refine lv_iconst (v := (2 : Int32)) hx hb dL_law_199 (by decide) ?_
  refine lv_iadd hx hb dL_law_200 ?_
  obtain ⟨h_2, hw⟩ := hw
  refine va_sld hx hb hXs hbl hbA hI.2.2.1 h_2 dL_law_201 ?_
  refine pm_callV (As := [.int (xs (v3 + (1 : Int32)).toNatClampNeg), .int (xs (v3 + (2 : Int32)).toNatClampNeg)]) (rest := []) 2 E hI (k_X9_weight t_v1 hw) t_v1 (by decide) rfl kc_X9_weight kl_L_18 km_X9_weight ks_X9_weight ki_X9 (by decide +kernel) ⟨by decide, by decide⟩ rfl hl.1 rfl (by first | exact Nat.le_of_ble_eq_true rfl | (simp only [List.map, pm_rf_cat]; exact Nat.le_of_ble_eq_true rfl)) dL_law_202 ⟨by show cells + 0 + 0 ≤ 600000; omega, by show slots + 0 + 0 ≤ 7302250; omega⟩ (fun r9 M_3 H locs hp hX1 hI => ?_)
  clear hw
  obtain ⟨r_4, rfl, hw⟩ := hp
  replace t_v1 := t_v1.x hX1
  replace t_v2 := t_v2.x hX1
  replace hX := hX.tr hX1
  refine pm_nrm (cells' := cells + 0) (slots' := slots + 0) (g2 := F0 m 205 ls [.int r_4]) rfl rfl rfl ?_
  refine lv_aload_n hx hb dL_law_205 rfl (lv_at hl 2 rfl) ?_
  refine lv_aload_n hx hb dL_law_206 rfl (lv_at hl 0 rfl) ?_
  refine lv_iload_n hx hb dL_law_207 rfl (lv_at hl 3 rfl) ?_
  refine lv_iconst (v := (1 : Int32)) hx hb dL_law_208 (by decide) ?_
  refine lv_iadd hx hb dL_law_209 ?_
  obtain ⟨h_5, hw⟩ := hw
  refine va_sld hx hb hXs hbl hbA hI.2.2.1 h_5 dL_law_210 ?_
  refine lv_aload_n hx hb dL_law_211 rfl (lv_at hl 0 rfl) ?_
  refine lv_iload_n hx hb dL_law_212 rfl (lv_at hl 3 rfl) ?_
  refine lv_iconst (v := (2 : Int32)) hx hb dL_law_213 (by decide) ?_
  refine lv_iadd hx hb dL_law_214 ?_
  obtain ⟨h_6, hw⟩ := hw
  refine va_sld hx hb hXs hbl hbA hI.2.2.1 h_6 dL_law_215 ?_
  refine pm_callV (As := [.int (xs (v3 + (1 : Int32)).toNatClampNeg), .int (xs (v3 + (2 : Int32)).toNatClampNeg)]) (rest := [.int r_4]) 2 E hI (k_X10_weight t_v2 hw) t_v2 (by decide) rfl kc_X10_weight kl_L_22 km_X10_weight ks_X10_weight ki_X10 (by decide +kernel) ⟨by decide, by decide⟩ rfl hl.1 rfl (by first | exact Nat.le_of_ble_eq_true rfl | (simp only [List.map, pm_rf_cat]; exact Nat.le_of_ble_eq_true rfl)) dL_law_216 ⟨by show cells + 0 + 0 ≤ 600000; omega, by show slots + 0 + 0 ≤ 7302250; omega⟩ (fun r9 M_7 H locs hp hX1 hI => ?_)
  clear hw
  obtain ⟨r_8, rfl, hw⟩ := hp
  replace t_v1 := t_v1.x hX1
  replace t_v2 := t_v2.x hX1
  replace hX := hX.tr hX1
  refine pm_nrm (cells' := cells + 0) (slots' := slots + 0) (g2 := F0 m 219 ls [.int r_8, .int r_4]) rfl rfl rfl ?_
  refine lv_icmp_eq (tgt := 1205) hx hb dL_law_219 (by decide) (fun h_9 => ?_) (fun h_9 => ?_)
  · replace hw := hw.1 h_9
    refine W.widen (k := cells + 4) (n := slots + 4107) (by omega) (by omega) ?_
    exact c_L_law_1205 E hret hc hk_18 hX hI t_v1 t_v2 (lv_sub hl [0, 1, 2, 3] rfl) hw
  · replace hw := hw.2 h_9
    refine lv_iconst (v := (0 : Int32)) hx hb dL_law_222 (by decide) ?_
    exact hw.elim
set_option maxHeartbeats 4000000 in
set_option maxRecDepth 100000 in
theorem c_L_law_168 {p : Program} {l : Launch} {e : Env} {s : State} {m : MethodId} {below : List Frame} {meth : Method} {c : Code} {G : pm_G} {b L : Nat} {xs : Nat → Int32} {M0 : pm_M} {v1 : Nat} {v2 : Nat} {v3 : Int32} {cells slots : Nat} {M : pm_M} {k_18 : Int32 → pm_M → Prop} (E : pm_E G p s m #[Value.ref b] meth c code 4 RL) (hret : lw_At p s m meth c b L xs) (hc : cells + 4 ≤ 600000 ∧ slots + 4107 ≤ 7302250) (hk_18 : ∀ (v3 : Int32) (M : pm_M) (H : Heap) (locs : List Loc) (ls : Array Slot), pm_X M0 M → pm_I G s.heap M H locs → (pm_is M v1 8) → (pm_is M v2 9) → lv_has ls 4 [(0, .ref b), (1, .ref (s.heap.size + v1)), (2, .ref (s.heap.size + v2)), (3, .int v3)] → k_18 v3 M → W p l e room_1 s m #[Value.ref b] below meth c H locs (cells + 4) (slots + 4107) (lw_Z below #[Value.ref b] s) (F0 m 18 ls [])) {H : Heap} {locs : List Loc} {ls : Array Slot} (hX : pm_X M0 M) (hI : pm_I G s.heap M H locs) (t_v1 : pm_is M v1 8) (t_v2 : pm_is M v2 9) (hl : lv_has ls 4 [(0, .ref b), (1, .ref (s.heap.size + v1)), (2, .ref (s.heap.size + v2)), (3, .int v3)]) (hw : w_L_law_168 L xs k_18 v1 v2 v3 M) : W p l e room_1 s m #[Value.ref b] below meth c H locs cells slots (lw_Z below #[Value.ref b] s) (F0 m 168 ls []) := by
  have hx := E.1
  have hb := E.2.1
  have hown := E.2.2.2.1
  have hts := E.2.2.2.2.1
  have hXs := hret.2.2.2.2.2.2.1
  have hbl := hret.2.2.2.2.2.2.2.1
  have hbA : ¬ (fun q : Nat => s.heap.size ≤ q) b := Nat.not_le.mpr hbl
  refine pm_nrm (cells' := cells + 0) (slots' := slots + 0) (g2 := F0 m 168 ls []) rfl rfl rfl ?_
  obtain ⟨hc1, hc2⟩ := id hc
  unfold w_L_law_168 at hw
  refine lv_aload_n hx hb dL_law_168 rfl (lv_at hl 1 rfl) ?_
  refine lv_aload_n hx hb dL_law_169 rfl (lv_at hl 0 rfl) ?_
  refine lv_iload_n hx hb dL_law_170 rfl (lv_at hl 3 rfl) ?_
  refine lv_iconst (v := (1 : Int32)) hx hb dL_law_171 (by decide) ?_
  refine lv_iadd hx hb dL_law_172 ?_
  obtain ⟨h_1, hw⟩ := hw
  refine va_sld hx hb hXs hbl hbA hI.2.2.1 h_1 dL_law_173 ?_
  refine pm_callV (As := [.int (xs (v3 + (1 : Int32)).toNatClampNeg)]) (rest := []) 1 E hI (k_X9_fresh t_v1 hw) t_v1 (by decide) rfl kc_X9_fresh kl_L_13 km_X9_fresh ks_X9_fresh ki_X9 (by decide +kernel) ⟨by decide, by decide⟩ rfl hl.1 rfl (by first | exact Nat.le_of_ble_eq_true rfl | (simp only [List.map, pm_rf_cat]; exact Nat.le_of_ble_eq_true rfl)) dL_law_174 ⟨by show cells + 0 + 0 ≤ 600000; omega, by show slots + 0 + 0 ≤ 7302250; omega⟩ (fun r9 M_2 H locs hp hX1 hI => ?_)
  clear hw
  obtain ⟨r_3, rfl, hw⟩ := hp
  replace t_v1 := t_v1.x hX1
  replace t_v2 := t_v2.x hX1
  replace hX := hX.tr hX1
  refine pm_nrm (cells' := cells + 0) (slots' := slots + 0) (g2 := F0 m 177 ls [.int r_3]) rfl rfl rfl ?_
  refine lv_aload_n hx hb dL_law_177 rfl (lv_at hl 2 rfl) ?_
  refine lv_aload_n hx hb dL_law_178 rfl (lv_at hl 0 rfl) ?_
  refine lv_iload_n hx hb dL_law_179 rfl (lv_at hl 3 rfl) ?_
  refine lv_iconst (v := (1 : Int32)) hx hb dL_law_180 (by decide) ?_
  refine lv_iadd hx hb dL_law_181 ?_
  obtain ⟨h_4, hw⟩ := hw
  refine va_sld hx hb hXs hbl hbA hI.2.2.1 h_4 dL_law_182 ?_
  refine pm_callV (As := [.int (xs (v3 + (1 : Int32)).toNatClampNeg)]) (rest := [.int r_3]) 1 E hI (k_X10_fresh t_v2 hw) t_v2 (by decide) rfl kc_X10_fresh kl_L_17 km_X10_fresh ks_X10_fresh ki_X10 (by decide +kernel) ⟨by decide, by decide⟩ rfl hl.1 rfl (by first | exact Nat.le_of_ble_eq_true rfl | (simp only [List.map, pm_rf_cat]; exact Nat.le_of_ble_eq_true rfl)) dL_law_183 ⟨by show cells + 0 + 0 ≤ 600000; omega, by show slots + 0 + 0 ≤ 7302250; omega⟩ (fun r9 M_5 H locs hp hX1 hI => ?_)
  clear hw
  obtain ⟨r_6, rfl, hw⟩ := hp
  replace t_v1 := t_v1.x hX1
  replace t_v2 := t_v2.x hX1
  replace hX := hX.tr hX1
  refine pm_nrm (cells' := cells + 0) (slots' := slots + 0) (g2 := F0 m 186 ls [.int r_6, .int r_3]) rfl rfl rfl ?_
  refine lv_icmp_eq (tgt := 1205) hx hb dL_law_186 (by decide) (fun h_7 => ?_) (fun h_7 => ?_)
  · replace hw := hw.1 h_7
    refine W.widen (k := cells + 4) (n := slots + 4107) (by omega) (by omega) ?_
    exact c_L_law_1205 E hret hc hk_18 hX hI t_v1 t_v2 (lv_sub hl [0, 1, 2, 3] rfl) hw
  · replace hw := hw.2 h_7
    refine lv_iconst (v := (0 : Int32)) hx hb dL_law_189 (by decide) ?_
    exact hw.elim
set_option maxHeartbeats 4000000 in
set_option maxRecDepth 100000 in
theorem c_L_law_18 {p : Program} {l : Launch} {e : Env} {s : State} {m : MethodId} {below : List Frame} {meth : Method} {c : Code} {G : pm_G} {b L : Nat} {xs : Nat → Int32} {M0 : pm_M} {v1 : Nat} {v2 : Nat} (E : pm_E G p s m #[Value.ref b] meth c code 4 RL) (hret : lw_At p s m meth c b L xs) : ∀ (n : Nat), n ≤ 514 → ∀ (v3 : Int32) (M : pm_M) (H : Heap) (locs : List Loc) (ls : Array Slot), pm_X M0 M → pm_I G s.heap M H locs → (pm_is M v1 8) → (pm_is M v2 9) → lv_has ls 4 [(0, .ref b), (1, .ref (s.heap.size + v1)), (2, .ref (s.heap.size + v2)), (3, .int v3)] → w_L_law_18 L xs v1 v2 n v3 M → W p l e room_1 s m #[Value.ref b] below meth c H locs (85 + 4 * (514 - n)) (206453 + 4107 * (514 - n)) (lw_Z below #[Value.ref b] s) (F0 m 18 ls []) := by
  have hx := E.1
  have hb := E.2.1
  have hown := E.2.2.2.1
  have hts := E.2.2.2.2.1
  have hXs := hret.2.2.2.2.2.2.1
  have hbl := hret.2.2.2.2.2.2.2.1
  have hbA : ¬ (fun q : Nat => s.heap.size ≤ q) b := Nat.not_le.mpr hbl
  intro n
  induction n with
  | zero =>
    intro _ v3 M H locs ls hX hI t_v1 t_v2 hl hw
    unfold w_L_law_18 at hw
    exact hw.elim
  | succ n ih =>
    intro h11
    have hk : ∀ (v3 : Int32) (M : pm_M) (H : Heap) (locs : List Loc) (ls : Array Slot), pm_X M0 M → pm_I G s.heap M H locs → (pm_is M v1 8) → (pm_is M v2 9) → lv_has ls 4 [(0, .ref b), (1, .ref (s.heap.size + v1)), (2, .ref (s.heap.size + v2)), (3, .int v3)] → w_L_law_18 L xs v1 v2 n v3 M → W p l e room_1 s m #[Value.ref b] below meth c H locs ((85 + 4 * (514 - (n + 1))) + 4) ((206453 + 4107 * (514 - (n + 1))) + 4107) (lw_Z below #[Value.ref b] s) (F0 m 18 ls []) := by
      intro v3 M H locs ls hX hI t_v1 t_v2 hl hw
      exact W.widen (by omega) (by omega) (ih (by omega) v3 M H locs ls hX hI t_v1 t_v2 hl hw)
    intro v3 M H locs ls hX hI t_v1 t_v2 hl hw
    unfold w_L_law_18 at hw
    refine lv_iload_n hx hb dL_law_18 rfl (lv_at hl 3 rfl) ?_
    refine lv_aload_n hx hb dL_law_19 rfl (lv_at hl 0 rfl) ?_
    refine va_slen hx hb hXs hbl hbA hI.2.2.1 dL_law_20 ?_
    refine lv_bipush (v := (6 : Int32)) hx hb dL_law_21 (by decide) ?_
    refine lv_isub hx hb dL_law_23 ?_
    refine lv_icmp_gt (tgt := 1211) hx hb dL_law_24 (by decide) (fun h_1 => ?_) (fun h_1 => ?_)
    · replace hw := hw.1 h_1
      refine lv_iconst (v := (1 : Int32)) hx hb dL_law_1211 (by decide) ?_
      refine va_forget (fun q hq => hI.2.2.1.2.2 q hq) ?_
      refine W.widen (k := 600000) (n := 7302250) (by omega) (by omega) ?_
      exact lw_ret hx hb hret.2.2.1 hret.2.2.2.2.2.2.2.2.1 dL_law_1212
    · replace hw := hw.2 h_1
      refine lv_aload_n hx hb dL_law_27 rfl (lv_at hl 0 rfl) ?_
      refine lv_iload_n hx hb dL_law_28 rfl (lv_at hl 3 rfl) ?_
      obtain ⟨h_2, hw⟩ := hw
      refine va_sld hx hb hXs hbl hbA hI.2.2.1 h_2 dL_law_29 ?_
      refine lv_bipush (v := (31 : Int32)) hx hb dL_law_30 (by decide) ?_
      refine lv_iand hx hb dL_law_32 ?_
      refine pm_cases (x := ((xs v3.toNatClampNeg) &&& (31 : Int32))) 0 30 (fun j hj h9 => ?_) (fun h9 => ?_)
      · match j, hj, h9 with
        | 0, hj, h9 =>
          refine lv_tableIn (tgt := 168) hx hb dL_law_33 (by rw [h9]; decide) (by rw [h9]; decide) (by rw [h9]; rfl) (by decide) ?_
          replace hw := hw.1 h9
          exact c_L_law_168 E hret (by omega) hk hX hI t_v1 t_v2 (lv_sub hl [0, 1, 2, 3] rfl) hw
        | 1, hj, h9 =>
          refine lv_tableIn (tgt := 191) hx hb dL_law_33 (by rw [h9]; decide) (by rw [h9]; decide) (by rw [h9]; rfl) (by decide) ?_
          replace hw := hw.2.1 h9
          exact c_L_law_191 E hret (by omega) hk hX hI t_v1 t_v2 (lv_sub hl [0, 1, 2, 3] rfl) hw
        | 2, hj, h9 =>
          refine lv_tableIn (tgt := 224) hx hb dL_law_33 (by rw [h9]; decide) (by rw [h9]; decide) (by rw [h9]; rfl) (by decide) ?_
          replace hw := hw.2.2.1 h9
          exact c_L_law_224 E hret (by omega) hk hX hI t_v1 t_v2 (lv_sub hl [0, 1, 2, 3] rfl) hw
        | 3, hj, h9 =>
          refine lv_tableIn (tgt := 267) hx hb dL_law_33 (by rw [h9]; decide) (by rw [h9]; decide) (by rw [h9]; rfl) (by decide) ?_
          replace hw := hw.2.2.2.1 h9
          exact c_L_law_267 E hret (by omega) hk hX hI t_v1 t_v2 (lv_sub hl [0, 1, 2, 3] rfl) hw
        | 4, hj, h9 =>
          refine lv_tableIn (tgt := 290) hx hb dL_law_33 (by rw [h9]; decide) (by rw [h9]; decide) (by rw [h9]; rfl) (by decide) ?_
          replace hw := hw.2.2.2.2.1 h9
          exact c_L_law_290 E hret (by omega) hk hX hI t_v1 t_v2 (lv_sub hl [0, 1, 2, 3] rfl) hw
        | 5, hj, h9 =>
          refine lv_tableIn (tgt := 363) hx hb dL_law_33 (by rw [h9]; decide) (by rw [h9]; decide) (by rw [h9]; rfl) (by decide) ?_
          replace hw := hw.2.2.2.2.2.1 h9
          exact c_L_law_363 E hret (by omega) hk hX hI t_v1 t_v2 (lv_sub hl [0, 1, 2, 3] rfl) hw
        | 6, hj, h9 =>
          refine lv_tableIn (tgt := 397) hx hb dL_law_33 (by rw [h9]; decide) (by rw [h9]; decide) (by rw [h9]; rfl) (by decide) ?_
          replace hw := hw.2.2.2.2.2.2.1 h9
          exact c_L_law_397 E hret (by omega) hk hX hI t_v1 t_v2 (lv_sub hl [0, 1, 2, 3] rfl) hw
        | 7, hj, h9 =>
          refine lv_tableIn (tgt := 460) hx hb dL_law_33 (by rw [h9]; decide) (by rw [h9]; decide) (by rw [h9]; rfl) (by decide) ?_
          replace hw := hw.2.2.2.2.2.2.2.1 h9
          exact c_L_law_460 E hret (by omega) hk hX hI t_v1 t_v2 (lv_sub hl [0, 1, 2, 3] rfl) hw
        | 8, hj, h9 =>
          refine lv_tableIn (tgt := 493) hx hb dL_law_33 (by rw [h9]; decide) (by rw [h9]; decide) (by rw [h9]; rfl) (by decide) ?_
          replace hw := hw.2.2.2.2.2.2.2.2.1 h9
          exact c_L_law_493 E hret (by omega) hk hX hI t_v1 t_v2 (lv_sub hl [0, 1, 2, 3] rfl) hw
        | 9, hj, h9 =>
          refine lv_tableIn (tgt := 526) hx hb dL_law_33 (by rw [h9]; decide) (by rw [h9]; decide) (by rw [h9]; rfl) (by decide) ?_
          replace hw := hw.2.2.2.2.2.2.2.2.2.1 h9
          exact c_L_law_526 E hret (by omega) hk hX hI t_v1 t_v2 (lv_sub hl [0, 1, 2, 3] rfl) hw
        | 10, hj, h9 =>
          refine lv_tableIn (tgt := 559) hx hb dL_law_33 (by rw [h9]; decide) (by rw [h9]; decide) (by rw [h9]; rfl) (by decide) ?_
          replace hw := hw.2.2.2.2.2.2.2.2.2.2.1 h9
          exact c_L_law_559 E hret (by omega) hk hX hI t_v1 t_v2 (lv_sub hl [0, 1, 2, 3] rfl) hw
        | 11, hj, h9 =>
          refine lv_tableIn (tgt := 582) hx hb dL_law_33 (by rw [h9]; decide) (by rw [h9]; decide) (by rw [h9]; rfl) (by decide) ?_
          replace hw := hw.2.2.2.2.2.2.2.2.2.2.2.1 h9
          exact c_L_law_582 E hret (by omega) hk hX hI t_v1 t_v2 (lv_sub hl [0, 1, 2, 3] rfl) hw
        | 12, hj, h9 =>
          refine lv_tableIn (tgt := 615) hx hb dL_law_33 (by rw [h9]; decide) (by rw [h9]; decide) (by rw [h9]; rfl) (by decide) ?_
          replace hw := hw.2.2.2.2.2.2.2.2.2.2.2.2.1 h9
          exact c_L_law_615 E hret (by omega) hk hX hI t_v1 t_v2 (lv_sub hl [0, 1, 2, 3] rfl) hw
        | 13, hj, h9 =>
          refine lv_tableIn (tgt := 638) hx hb dL_law_33 (by rw [h9]; decide) (by rw [h9]; decide) (by rw [h9]; rfl) (by decide) ?_
          replace hw := hw.2.2.2.2.2.2.2.2.2.2.2.2.2.1 h9
          exact c_L_law_638 E hret (by omega) hk hX hI t_v1 t_v2 (lv_sub hl [0, 1, 2, 3] rfl) hw
        | 14, hj, h9 =>
          refine lv_tableIn (tgt := 671) hx hb dL_law_33 (by rw [h9]; decide) (by rw [h9]; decide) (by rw [h9]; rfl) (by decide) ?_
          replace hw := hw.2.2.2.2.2.2.2.2.2.2.2.2.2.2.1 h9
          exact c_L_law_671 E hret (by omega) hk hX hI t_v1 t_v2 (lv_sub hl [0, 1, 2, 3] rfl) hw
        | 15, hj, h9 =>
          refine lv_tableIn (tgt := 704) hx hb dL_law_33 (by rw [h9]; decide) (by rw [h9]; decide) (by rw [h9]; rfl) (by decide) ?_
          replace hw := hw.2.2.2.2.2.2.2.2.2.2.2.2.2.2.2.1 h9
          exact c_L_law_704 E hret (by omega) hk hX hI t_v1 t_v2 (lv_sub hl [0, 1, 2, 3] rfl) hw
        | 16, hj, h9 =>
          refine lv_tableIn (tgt := 737) hx hb dL_law_33 (by rw [h9]; decide) (by rw [h9]; decide) (by rw [h9]; rfl) (by decide) ?_
          replace hw := hw.2.2.2.2.2.2.2.2.2.2.2.2.2.2.2.2.1 h9
          exact c_L_law_737 E hret (by omega) hk hX hI t_v1 t_v2 (lv_sub hl [0, 1, 2, 3] rfl) hw
        | 17, hj, h9 =>
          refine lv_tableIn (tgt := 770) hx hb dL_law_33 (by rw [h9]; decide) (by rw [h9]; decide) (by rw [h9]; rfl) (by decide) ?_
          replace hw := hw.2.2.2.2.2.2.2.2.2.2.2.2.2.2.2.2.2.1 h9
          exact c_L_law_770 E hret (by omega) hk hX hI t_v1 t_v2 (lv_sub hl [0, 1, 2, 3] rfl) hw
        | 18, hj, h9 =>
          refine lv_tableIn (tgt := 803) hx hb dL_law_33 (by rw [h9]; decide) (by rw [h9]; decide) (by rw [h9]; rfl) (by decide) ?_
          replace hw := hw.2.2.2.2.2.2.2.2.2.2.2.2.2.2.2.2.2.2.1 h9
          exact c_L_law_803 E hret (by omega) hk hX hI t_v1 t_v2 (lv_sub hl [0, 1, 2, 3] rfl) hw
        | 19, hj, h9 =>
          refine lv_tableIn (tgt := 846) hx hb dL_law_33 (by rw [h9]; decide) (by rw [h9]; decide) (by rw [h9]; rfl) (by decide) ?_
          replace hw := hw.2.2.2.2.2.2.2.2.2.2.2.2.2.2.2.2.2.2.2.1 h9
          exact c_L_law_846 E hret (by omega) hk hX hI t_v1 t_v2 (lv_sub hl [0, 1, 2, 3] rfl) hw
        | 20, hj, h9 =>
          refine lv_tableIn (tgt := 895) hx hb dL_law_33 (by rw [h9]; decide) (by rw [h9]; decide) (by rw [h9]; rfl) (by decide) ?_
          replace hw := hw.2.2.2.2.2.2.2.2.2.2.2.2.2.2.2.2.2.2.2.2.1 h9
          exact c_L_law_895 E hret (by omega) hk hX hI t_v1 t_v2 (lv_sub hl [0, 1, 2, 3] rfl) hw
        | 21, hj, h9 =>
          refine lv_tableIn (tgt := 928) hx hb dL_law_33 (by rw [h9]; decide) (by rw [h9]; decide) (by rw [h9]; rfl) (by decide) ?_
          replace hw := hw.2.2.2.2.2.2.2.2.2.2.2.2.2.2.2.2.2.2.2.2.2.1 h9
          exact c_L_law_928 E hret (by omega) hk hX hI t_v1 t_v2 (lv_sub hl [0, 1, 2, 3] rfl) hw
        | 22, hj, h9 =>
          refine lv_tableIn (tgt := 961) hx hb dL_law_33 (by rw [h9]; decide) (by rw [h9]; decide) (by rw [h9]; rfl) (by decide) ?_
          replace hw := hw.2.2.2.2.2.2.2.2.2.2.2.2.2.2.2.2.2.2.2.2.2.2.1 h9
          exact c_L_law_961 E hret (by omega) hk hX hI t_v1 t_v2 (lv_sub hl [0, 1, 2, 3] rfl) hw
        | 23, hj, h9 =>
          refine lv_tableIn (tgt := 1004) hx hb dL_law_33 (by rw [h9]; decide) (by rw [h9]; decide) (by rw [h9]; rfl) (by decide) ?_
          replace hw := hw.2.2.2.2.2.2.2.2.2.2.2.2.2.2.2.2.2.2.2.2.2.2.2.1 h9
          exact c_L_law_1004 E hret (by omega) hk hX hI t_v1 t_v2 (lv_sub hl [0, 1, 2, 3] rfl) hw
        | 24, hj, h9 =>
          refine lv_tableIn (tgt := 1047) hx hb dL_law_33 (by rw [h9]; decide) (by rw [h9]; decide) (by rw [h9]; rfl) (by decide) ?_
          replace hw := hw.2.2.2.2.2.2.2.2.2.2.2.2.2.2.2.2.2.2.2.2.2.2.2.2.1 h9
          exact c_L_law_1047 E hret (by omega) hk hX hI t_v1 t_v2 (lv_sub hl [0, 1, 2, 3] rfl) hw
        | 25, hj, h9 =>
          refine lv_tableIn (tgt := 1070) hx hb dL_law_33 (by rw [h9]; decide) (by rw [h9]; decide) (by rw [h9]; rfl) (by decide) ?_
          replace hw := hw.2.2.2.2.2.2.2.2.2.2.2.2.2.2.2.2.2.2.2.2.2.2.2.2.2.1 h9
          exact c_L_law_1070 E hret (by omega) hk hX hI t_v1 t_v2 (lv_sub hl [0, 1, 2, 3] rfl) hw
        | 26, hj, h9 =>
          refine lv_tableIn (tgt := 1103) hx hb dL_law_33 (by rw [h9]; decide) (by rw [h9]; decide) (by rw [h9]; rfl) (by decide) ?_
          replace hw := hw.2.2.2.2.2.2.2.2.2.2.2.2.2.2.2.2.2.2.2.2.2.2.2.2.2.2.1 h9
          exact c_L_law_1103 E hret (by omega) hk hX hI t_v1 t_v2 (lv_sub hl [0, 1, 2, 3] rfl) hw
        | 27, hj, h9 =>
          refine lv_tableIn (tgt := 1126) hx hb dL_law_33 (by rw [h9]; decide) (by rw [h9]; decide) (by rw [h9]; rfl) (by decide) ?_
          replace hw := hw.2.2.2.2.2.2.2.2.2.2.2.2.2.2.2.2.2.2.2.2.2.2.2.2.2.2.2.1 h9
          exact c_L_law_1126 E hret (by omega) hk hX hI t_v1 t_v2 (lv_sub hl [0, 1, 2, 3] rfl) hw
        | 28, hj, h9 =>
          refine lv_tableIn (tgt := 1149) hx hb dL_law_33 (by rw [h9]; decide) (by rw [h9]; decide) (by rw [h9]; rfl) (by decide) ?_
          replace hw := hw.2.2.2.2.2.2.2.2.2.2.2.2.2.2.2.2.2.2.2.2.2.2.2.2.2.2.2.2.1 h9
          exact c_L_law_1149 E hret (by omega) hk hX hI t_v1 t_v2 (lv_sub hl [0, 1, 2, 3] rfl) hw
        | 29, hj, h9 =>
          refine lv_tableIn (tgt := 1182) hx hb dL_law_33 (by rw [h9]; decide) (by rw [h9]; decide) (by rw [h9]; rfl) (by decide) ?_
          replace hw := hw.2.2.2.2.2.2.2.2.2.2.2.2.2.2.2.2.2.2.2.2.2.2.2.2.2.2.2.2.2.1 h9
          exact c_L_law_1182 E hret (by omega) hk hX hI t_v1 t_v2 (lv_sub hl [0, 1, 2, 3] rfl) hw
        | (j + 30), hj, h9 => exact absurd hj (by omega)
      · refine lv_tableOut (tgt := 1205) hx hb dL_law_33 (pm_out h9) (by decide) ?_
        replace hw := hw.2.2.2.2.2.2.2.2.2.2.2.2.2.2.2.2.2.2.2.2.2.2.2.2.2.2.2.2.2.2 h9
        refine W.widen (k := 85 + 4 * (514 - (n + 1)) + 4) (n := 206453 + 4107 * (514 - (n + 1)) + 4107) (by omega) (by omega) ?_
        exact c_L_law_1205 E hret (by omega) hk hX hI t_v1 t_v2 (lv_sub hl [0, 1, 2, 3] rfl) hw
set_option maxHeartbeats 4000000 in
set_option maxRecDepth 100000 in
theorem c_L_law {p : Program} {l : Launch} {e : Env} {s : State} {m : MethodId} {below : List Frame} {meth : Method} {c : Code} {G : pm_G} {b L : Nat} {xs : Nat → Int32} {M0 : pm_M} {M : pm_M} (E : pm_E G p s m #[Value.ref b] meth c code 4 RL) (hret : lw_At p s m meth c b L xs) {H : Heap} {locs : List Loc} {ls : Array Slot} (hX : pm_X M0 M) (hI : pm_I G s.heap M H locs) (hl : lv_has ls 4 [(0, .ref b)]) (hw : w_L_law L xs M) : W p l e room_1 s m #[Value.ref b] below meth c H locs 0 0 (lw_Z below #[Value.ref b] s) (F0 m 0 ls []) := by
  have hx := E.1
  have hb := E.2.1
  have hown := E.2.2.2.1
  have hts := E.2.2.2.2.1
  have hXs := hret.2.2.2.2.2.2.1
  have hbl := hret.2.2.2.2.2.2.2.1
  have hbA : ¬ (fun q : Nat => s.heap.size ≤ q) b := Nat.not_le.mpr hbl
  unfold w_L_law at hw
  refine nw_L_7 E hI (by decide) (by decide) dL_law_0 (fun H M_1 e_M_1 hX1 tn_2 hI => ?_)
  replace hw := hw M_1 e_M_1
  replace hX := hX.tr hX1
  refine pm_nrm (cells' := 1) (slots' := 12) (g2 := F0 m 3 ls [.ref (s.heap.size + (mZ M))]) rfl rfl rfl ?_
  refine lv_dup hx hb dL_law_3 rfl ?_
  refine pm_callI (As := []) (rest := [.ref (s.heap.size + (mZ M))]) 0 E hI (k_X9_init tn_2 hw) kc_X9_init kl_L_9 km_X9_init ki_X9 rfl (by decide +kernel) ⟨by decide, by decide⟩ rfl hl.1 rfl (by first | exact Nat.le_of_ble_eq_true rfl | (simp only [List.map, pm_rf_cat]; exact Nat.le_of_ble_eq_true rfl)) dL_law_4 ⟨by decide, by decide⟩ (fun r9 M_3 H locs hp hX1 hI => ?_)
  clear hw
  obtain ⟨rfl, hw⟩ := hp
  replace tn_2 := tn_2.x hX1
  replace hX := hX.tr hX1
  refine pm_nrm (cells' := 64) (slots' := 2808) (g2 := F0 m 7 ls [.ref (s.heap.size + (mZ M))]) rfl rfl rfl ?_
  refine lv_astore_n (lv' := [(1, .ref (s.heap.size + (mZ M))), (0, .ref b)]) hx hb dL_law_7 rfl hl (by decide) rfl (fun ls hl_4 => ?_)
  refine nw_L_10 E hI (by decide) (by decide) dL_law_8 (fun H M_5 e_M_5 hX1 tn_6 hI => ?_)
  replace hw := hw M_5 e_M_5
  replace tn_2 := tn_2.x hX1
  replace hX := hX.tr hX1
  refine pm_nrm (cells' := 65) (slots' := 2834) (g2 := F0 m 11 ls [.ref (s.heap.size + (mZ M_3))]) rfl rfl rfl ?_
  refine lv_dup hx hb dL_law_11 rfl ?_
  refine pm_callI (As := []) (rest := [.ref (s.heap.size + (mZ M_3))]) 0 E hI (k_X10_init tn_6 hw) kc_X10_init kl_L_12 km_X10_init ki_X10 rfl (by decide +kernel) ⟨by decide, by decide⟩ rfl hl_4.1 rfl (by first | exact Nat.le_of_ble_eq_true rfl | (simp only [List.map, pm_rf_cat]; exact Nat.le_of_ble_eq_true rfl)) dL_law_12 ⟨by decide, by decide⟩ (fun r9 M_7 H locs hp hX1 hI => ?_)
  clear hw
  obtain ⟨rfl, hw⟩ := hp
  replace tn_2 := tn_2.x hX1
  replace tn_6 := tn_6.x hX1
  replace hX := hX.tr hX1
  refine pm_nrm (cells' := 85) (slots' := 206453) (g2 := F0 m 15 ls [.ref (s.heap.size + (mZ M_3))]) rfl rfl rfl ?_
  refine lv_astore_n (lv' := [(2, .ref (s.heap.size + (mZ M_3))), (1, .ref (s.heap.size + (mZ M))), (0, .ref b)]) hx hb dL_law_15 rfl hl_4 (by decide) rfl (fun ls hl_8 => ?_)
  refine lv_iconst (v := (0 : Int32)) hx hb dL_law_16 (by decide) ?_
  refine lv_istore_n (lv' := [(3, .int (0 : Int32)), (2, .ref (s.heap.size + (mZ M_3))), (1, .ref (s.heap.size + (mZ M))), (0, .ref b)]) hx hb dL_law_17 rfl hl_8 (by decide) rfl (fun ls hl_9 => ?_)
  obtain ⟨n_10, h11, hw⟩ := hw
  refine W.widen (k := 85 + 4 * (514 - n_10)) (n := 206453 + 4107 * (514 - n_10)) (by omega) (by omega) ?_
  exact c_L_law_18 E hret n_10 h11 _ _ _ _ _ hX hI tn_2 tn_6 (lv_sub hl_9 [3, 2, 1, 0] rfl) hw
