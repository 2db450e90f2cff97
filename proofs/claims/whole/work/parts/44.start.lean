theorem ws_ao {s : State} {A : Array Value} {C : String} (h : (Cond.arrayOver (.object C)).before A s = true) : ∃ cA : ClassId, ArrOfT s cA (.object C) ∧ va_RA s cA (.object C) := by
  obtain ⟨comp, c, k, h1, h2, h3, h4, h5⟩ := Cond.arrayOver_spec h
  exact ⟨c, fun n z => ⟨fun k h => (by cases h), k, h3, comp, h4⟩, k, comp, h3, h4, h1, h5⟩
theorem ws_ac {s : State} {A : Array Value} {ty : FieldType} (h : (Cond.arrayClass ty).before A s = true) : ∃ cA : ClassId, ArrOfT s cA ty ∧ s.vm.findClass ("[" ++ ty.toString) = some cA := by
  obtain ⟨cA, kA, comp, hfind, hk, hkind⟩ := Cond.arrayClass_spec h
  exact ⟨cA, fun n z => ⟨fun k h => (by cases h), kA, hk, comp, hkind⟩, hfind⟩
theorem ws_cls {s : State} {C : Nat → ClassId} {I : Nat → Nat → Nat} (h0 : u_Kn s RX0 TX0 3 (C 0) (I 0)) (h1 : u_Kn s RX2 TX2 5 (C 1) (I 1)) (h2 : u_Kn s RX3 TX3 2 (C 2) (I 2)) (h3 : u_Kn s RX4 TX4 3 (C 3) (I 3)) (h4 : u_Kn s RX5 TX5 5 (C 4) (I 4)) (h5 : u_Kn s RX6 TX6 3 (C 5) (I 5)) (h6 : u_Kn s RX7 TX7 6 (C 6) (I 6)) (h7 : u_Kn s RX8 TX8 5 (C 7) (I 7)) (h8 : u_Kn s RX9 TX9 12 (C 8) (I 8)) (h9 : u_Kn s RX10 TX10 26 (C 9) (I 9)) :
    ∀ (c : Nat) (q : vw_C), vwCl[c]? = some q → u_Kn s q.1 q.2.1 q.2.2 (C c) (I c) := by
  intro k q hq
  match k, hq with
  | 0, hq => cases hq; exact h0
  | 1, hq => cases hq; exact h1
  | 2, hq => cases hq; exact h2
  | 3, hq => cases hq; exact h3
  | 4, hq => cases hq; exact h4
  | 5, hq => cases hq; exact h5
  | 6, hq => cases hq; exact h6
  | 7, hq => cases hq; exact h7
  | 8, hq => cases hq; exact h8
  | 9, hq => cases hq; exact h9
  | k + 10, hq => simp [vwCl] at hq
theorem ws_in {X : List Cond} {s : State} {A : Array Value} (hts : ∀ w ∈ lw_tbl, w.before A s = true) (h : ∀ w ∈ X, w ∈ pm_tbl) : ∀ w ∈ X, w ∈ lw_tbl := fun w hw => (List.mem_filter.mp (h w hw)).1
def ws_pick {α : Type} (l : List α) (d : α) (k : Nat) : α := l.getD k d
theorem ws_tys {s : State} {G : pm_G} (h0 : ArrOfT s (G.2 10) .byte ∧ s.vm.findClass "[B" = some (G.2 10)) (h1 : ArrOfT s (G.2 11) .int ∧ s.vm.findClass "[I" = some (G.2 11)) (h2 : ArrOfT s (G.2 12) .long ∧ s.vm.findClass "[J" = some (G.2 12)) (h3 : ArrOfT s (G.2 13) .boolean ∧ s.vm.findClass "[Z" = some (G.2 13)) (h4 : ArrOfT s (G.2 14) (.object RX5) ∧ va_RA s (G.2 14) (.object RX5)) (h5 : ArrOfT s (G.2 15) (.object RX6) ∧ va_RA s (G.2 15) (.object RX6)) (h6 : ArrOfT s (G.2 16) (.array .int) ∧ s.vm.findClass "[[I" = some (G.2 16)) :
    ∀ (k : Nat) (q : ClassId × FieldType), (pm_tys G)[k]? = some q → ArrOfT s q.1 q.2 ∧ va_RA s q.1 q.2 := by
  intro k q hq
  match k, hq with
  | 0, hq => cases hq; exact ⟨h0.1, h0.2⟩
  | 1, hq => cases hq; exact ⟨h1.1, h1.2⟩
  | 2, hq => cases hq; exact ⟨h2.1, h2.2⟩
  | 3, hq => cases hq; exact ⟨h3.1, h3.2⟩
  | 4, hq => cases hq; exact h4
  | 5, hq => cases hq; exact h5
  | 6, hq => cases hq; exact ⟨h6.1, h6.2⟩
  | k + 7, hq => simp [pm_tys] at hq
theorem ws_fw {s : State} {A : Array Value} {C : String} {y : MethodName} (hts : ∀ w ∈ lw_tbl, w.before A s = true) (h1 : Cond.publicMethod y ∈ lw_tbl) (h2 : Cond.unhidden C "fits" "(I)Z" ∈ lw_tbl) (h3 : Cond.castable C RX1 ∈ lw_tbl) : va_Fw C yX1_fits y s :=
  va_Fw.of (hts (Cond.declares yX1_fits) (by decide +kernel)) (hts (Cond.interfaceMethod RX1 RX1 "fits" "(I)Z") (by decide +kernel)) (hts _ h1) (hts _ h2) (hts _ h3)
theorem ws_K {s : State} {A : Array Value} (hts : ∀ w ∈ lw_tbl, w.before A s = true) : ∃ G : pm_G, pm_K G s := by
  obtain ⟨c0, i0, k0⟩ := u_known (C := RX0) (T := TX0) (N := 3) (n := 3) hts (ws_in hts iX0) (hts _ (List.mem_filter.mp kn_X0).1)
  obtain ⟨c1, i1, k1⟩ := u_known (C := RX2) (T := TX2) (N := 5) (n := 5) hts (ws_in hts iX2) (hts _ (List.mem_filter.mp kn_X2).1)
  obtain ⟨c2, i2, k2⟩ := u_known (C := RX3) (T := TX3) (N := 2) (n := 2) hts (ws_in hts iX3) (hts _ (List.mem_filter.mp kn_X3).1)
  obtain ⟨c3, i3, k3⟩ := u_known (C := RX4) (T := TX4) (N := 3) (n := 3) hts (ws_in hts iX4) (hts _ (List.mem_filter.mp kn_X4).1)
  obtain ⟨c4, i4, k4⟩ := u_known (C := RX5) (T := TX5) (N := 5) (n := 5) hts (ws_in hts iX5) (hts _ (List.mem_filter.mp kn_X5).1)
  obtain ⟨c5, i5, k5⟩ := u_known (C := RX6) (T := TX6) (N := 3) (n := 3) hts (ws_in hts iX6) (hts _ (List.mem_filter.mp kn_X6).1)
  obtain ⟨c6, i6, k6⟩ := u_known (C := RX7) (T := TX7) (N := 6) (n := 6) hts (ws_in hts iX7) (hts _ (List.mem_filter.mp kn_X7).1)
  obtain ⟨c7, i7, k7⟩ := u_known (C := RX8) (T := TX8) (N := 5) (n := 5) hts (ws_in hts iX8) (hts _ (List.mem_filter.mp kn_X8).1)
  obtain ⟨c8, i8, k8⟩ := u_known (C := RX9) (T := TX9) (N := 12) (n := 12) hts (ws_in hts iX9) (hts _ (List.mem_filter.mp kn_X9).1)
  obtain ⟨c9, i9, k9⟩ := u_known (C := RX10) (T := TX10) (N := 26) (n := 26) hts (ws_in hts iX10) (hts _ (List.mem_filter.mp kn_X10).1)
  obtain ⟨aB, b1, b2⟩ := ws_ac (hts _ (List.mem_filter.mp kA_byte).1)
  obtain ⟨aI, b3, b4⟩ := ws_ac (hts _ (List.mem_filter.mp kA_int).1)
  obtain ⟨aJ, b5, b6⟩ := ws_ac (hts _ (List.mem_filter.mp kA_long).1)
  obtain ⟨aZ, b7, b8⟩ := ws_ac (hts _ (List.mem_filter.mp kA_boolean).1)
  have hR : (Cond.arrayOver (.object RX5)).before A s = true := hts _ (by decide +kernel)
  have hS : (Cond.arrayOver (.object RX6)).before A s = true := hts _ (by decide +kernel)
  have hM : (Cond.arrayOver (.array .int)).before A s = true := hts _ (by decide +kernel)
  obtain ⟨aR, r1, r2⟩ := ws_ao hR
  obtain ⟨aS, s1, s2⟩ := ws_ao hS
  obtain ⟨comp, aM, kM, m1, m2, m3, m4, m5⟩ := arrayOverA_spec hM
  have hcomp : comp = aI := Option.some.inj (m1.symm.trans b4)
  subst hcomp
  refine ⟨((ws_pick [c0, c1, c2, c3, c4, c5, c6, c7, c8, c9] c0, fun k => ws_pick [i0, i1, i2, i3, i4, i5, i6, i7, i8, i9] i0 k), fun k => ws_pick [aB, comp, aJ, aZ, aR, aS, aM] aB (k - 10)), ⟨ws_cls k0 k1 k2 k3 k4 k5 k6 k7 k8 k9, ws_tys ⟨b1, b2⟩ ⟨b3, b4⟩ ⟨b5, b6⟩ ⟨b7, b8⟩ ⟨r1, r2⟩ ⟨s1, s2⟩ ⟨fun n z => ⟨fun k h => (by cases h), kM, m3, comp, m4⟩, m5⟩⟩, fun w hw hg => word_at (State.WarmedH.refl s) (good_of_word hg) (hts w hw), fun w hw hg => ?_, ⟨ws_fw hts (by decide +kernel) (by decide +kernel) (by decide +kernel), ws_fw hts (by decide +kernel) (by decide +kernel) (by decide +kernel), ws_fw hts (by decide +kernel) (by decide +kernel) (by decide +kernel), ws_fw hts (by decide +kernel) (by decide +kernel) (by decide +kernel), ws_fw hts (by decide +kernel) (by decide +kernel) (by decide +kernel)⟩, hR, hS, kM, m3, m4⟩
  have h4 := hts w hw
  cases w <;> first | (exact va_Nw.of rfl h4) | (exact absurd hg (by simp [pm_nest]))
set_option maxHeartbeats 4000000 in
set_option maxRecDepth 100000 in
/-- THE LAW, from its entry -/
theorem whole_start {p : Program} {e : Env} {s : State} {m : MethodId} {below : List Frame} {meth : Method} {c : Code} (l : Launch) {b L : Nat} {xs : Nat → Int32} (hL : L ≤ 3072) (C0 : lw_At p s m meth c b L xs) : W p l e room_1 s m #[Value.ref b] below meth c s.heap [] 0 0 (lw_Z below #[Value.ref b] s) (entryFrame m ([Value.ref b] : List Value).toArray 4) := by
  obtain ⟨hx, hb, hr, hml, hown, hts, hX, hbl, hlocks, hgv⟩ := id C0
  obtain ⟨G, hK⟩ := ws_K hts
  have hl := lv_entry ([.ref b]) (n := 4) (Nat.le_of_ble_eq_true rfl)
  rw [lg_entry_eq]
  generalize (lg_sl ([.ref b]) ++ List.replicate (4 - (lg_sl ([.ref b])).length) Slot.unset).toArray = ls at hl ⊢
  have hl : lv_has ls 4 [(0, .ref b)] := hl
  exact c_L_law (G := G) (M0 := pm_0) (M := pm_0) ⟨hx, hb, hml, hown, pm_tbl_ok hK, hK, hlocks⟩ C0 pm_X.rf ⟨rfl, fun k q h => by simp [pm_W, pm_0, mZ] at h, va_S.rf, fun a k b ha => absurd ha (Nat.not_lt_zero a)⟩ hl (pure_law L xs hL)
