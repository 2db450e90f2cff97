section PMR
variable {p : Program} {l : Launch} {e : Env} {R : Room} {s : State} {m : MethodId} {args : Array Value} {below : List Frame} {meth : Method} {c : Code} {H : Heap} {locs : List Loc} {cells slots : Nat} {Q : State → Prop}
variable {cc : ByteArray} {pc nL : Nat} {own : String} {ls : Array Slot} {rest : List Value} {G : pm_G} {H0 : Heap} {M : pm_M} {a b t k n index : Nat} {C : String} {T : u_T} {N : Nat} {i : Int32}
theorem pm_getI (E : pm_E G p s m args meth c cc nL own) (hI : pm_I G H0 M H locs) (ha : pm_is M a t) (hc : vwCl[t]? = some (C, T, N)) (ht : t < 10) (hk : k < N) (hnf : pm_nf t = N) (hr : pm_rt t k = 99) (hin : ∀ w ∈ u_ws C T N, w ∈ pm_tbl) (hl : Cond.fieldLink own index (T k).1 (T k).2.1 (T k).2.2.1 ∈ pm_tbl) (hdg : decode cc pc = .ok (.getfield index, 3))
    (kk : W p l e R s m args below meth c H locs cells slots Q (F0 m (pc + 3) ls (.int (mI M a k) :: rest))) : W p l e R s m args below meth c H locs cells slots Q (F0 m pc ls (.ref (H0.size + a) :: rest)) := by
  obtain ⟨hx, hb, hml, hown, hts, hK, hlk⟩ := E
  obtain ⟨_, hP, _, _⟩ := hI
  exact va_get hx hb hts hin hown hK.1 hP a (by rw [pm_get ha.1, pm_cell_o ha.2 ht]) hc k hk (hts _ hl) (fun _ h => h) (by rw [pm_fs_at (by rw [hnf]; exact hk), pm_val, if_pos hr]) hdg kk
theorem pm_getIN {host : String} (E : pm_E G p s m args meth c cc nL own) (hI : pm_I G H0 M H locs) (ha : pm_is M a t) (hc : vwCl[t]? = some (C, T, N)) (ht : t < 10) (hk : k < N) (hnf : pm_nf t = N) (hr : pm_rt t k = 99) (hin : ∀ w ∈ u_ws C T N, w ∈ pm_tbl) (hl : Cond.fieldLinkNest own index (T k).1 (T k).2.1 (T k).2.2.1 host ∈ lw_tbl) (hdg : decode cc pc = .ok (.getfield index, 3))
    (kk : W p l e R s m args below meth c H locs cells slots Q (F0 m (pc + 3) ls (.int (mI M a k) :: rest))) : W p l e R s m args below meth c H locs cells slots Q (F0 m pc ls (.ref (H0.size + a) :: rest)) := by
  obtain ⟨hx, hb, hml, hown, hts, hK, hlk⟩ := E
  obtain ⟨_, hP, _, _⟩ := hI
  exact va_getN hx hb hts hin hown hK.1 hP a (by rw [pm_get ha.1, pm_cell_o ha.2 ht]) hc k hk (va_Nw.use rfl (hK.2.2.1 _ hl rfl)) (fun _ h => h) (by rw [pm_fs_at (by rw [hnf]; exact hk), pm_val, if_pos hr]) hdg kk
/-- a reference that isn't null -/
theorem pm_getR (E : pm_E G p s m args meth c cc nL own) (hI : pm_I G H0 M H locs) (ha : pm_is M a t) (hc : vwCl[t]? = some (C, T, N)) (ht : t < 10) (hk : k < N) (hnf : pm_nf t = N) (hr : ¬ pm_rt t k = 99) (hin : ∀ w ∈ u_ws C T N, w ∈ pm_tbl) (hl : Cond.fieldLink own index (T k).1 (T k).2.1 (T k).2.2.1 ∈ pm_tbl) (hdg : decode cc pc = .ok (.getfield index, 3)) (hq : mR M a k = some b)
    (kk : pm_is M b (pm_rt t k) → W p l e R s m args below meth c H locs cells slots Q (F0 m (pc + 3) ls (.ref (H0.size + b) :: rest))) : W p l e R s m args below meth c H locs cells slots Q (F0 m pc ls (.ref (H0.size + a) :: rest)) := by
  obtain ⟨hx, hb, hml, hown, hts, hK, hlk⟩ := E
  obtain ⟨_, hP, _, hT⟩ := hI
  exact va_get hx hb hts hin hown hK.1 hP a (by rw [pm_get ha.1, pm_cell_o ha.2 ht]) hc k hk (hts _ hl) (fun _ h => h) (by rw [pm_fs_at (by rw [hnf]; exact hk), pm_val, if_neg hr, hq]; rfl) hdg (kk (ha.2 ▸ hT a k b ha.1 hq))
theorem pm_getRN {host : String} (E : pm_E G p s m args meth c cc nL own) (hI : pm_I G H0 M H locs) (ha : pm_is M a t) (hc : vwCl[t]? = some (C, T, N)) (ht : t < 10) (hk : k < N) (hnf : pm_nf t = N) (hr : ¬ pm_rt t k = 99) (hin : ∀ w ∈ u_ws C T N, w ∈ pm_tbl) (hl : Cond.fieldLinkNest own index (T k).1 (T k).2.1 (T k).2.2.1 host ∈ lw_tbl) (hdg : decode cc pc = .ok (.getfield index, 3)) (hq : mR M a k = some b)
    (kk : pm_is M b (pm_rt t k) → W p l e R s m args below meth c H locs cells slots Q (F0 m (pc + 3) ls (.ref (H0.size + b) :: rest))) : W p l e R s m args below meth c H locs cells slots Q (F0 m pc ls (.ref (H0.size + a) :: rest)) := by
  obtain ⟨hx, hb, hml, hown, hts, hK, hlk⟩ := E
  obtain ⟨_, hP, _, hT⟩ := hI
  exact va_getN hx hb hts hin hown hK.1 hP a (by rw [pm_get ha.1, pm_cell_o ha.2 ht]) hc k hk (va_Nw.use rfl (hK.2.2.1 _ hl rfl)) (fun _ h => h) (by rw [pm_fs_at (by rw [hnf]; exact hk), pm_val, if_neg hr, hq]; rfl) hdg (kk (ha.2 ▸ hT a k b ha.1 hq))
/-- a reference that may be null -/
theorem pm_getO (E : pm_E G p s m args meth c cc nL own) (hI : pm_I G H0 M H locs) (ha : pm_is M a t) (hc : vwCl[t]? = some (C, T, N)) (ht : t < 10) (hk : k < N) (hnf : pm_nf t = N) (hr : ¬ pm_rt t k = 99) (hin : ∀ w ∈ u_ws C T N, w ∈ pm_tbl) (hl : Cond.fieldLink own index (T k).1 (T k).2.1 (T k).2.2.1 ∈ pm_tbl) (hdg : decode cc pc = .ok (.getfield index, 3))
    (kk : ∀ x : Option Nat, x = mR M a k → (∀ b, x = some b → pm_is M b (pm_rt t k)) → W p l e R s m args below meth c H locs cells slots Q (F0 m (pc + 3) ls (pm_rf H0.size x :: rest))) : W p l e R s m args below meth c H locs cells slots Q (F0 m pc ls (.ref (H0.size + a) :: rest)) := by
  obtain ⟨hx, hb, hml, hown, hts, hK, hlk⟩ := E
  obtain ⟨_, hP, _, hT⟩ := hI
  exact va_get hx hb hts hin hown hK.1 hP a (by rw [pm_get ha.1, pm_cell_o ha.2 ht]) hc k hk (hts _ hl) (fun _ h => h) (by rw [pm_fs_at (by rw [hnf]; exact hk), pm_val, if_neg hr]) hdg (kk _ rfl (fun b hq => ha.2 ▸ hT a k b ha.1 hq))
theorem pm_Ti {M : pm_M} {a k : Nat} {v : Int32} (h : pm_T M) : pm_T (sI M a k v) := h
theorem pm_Tl {M : pm_M} {a k : Nat} {v : Int64} (h : pm_T M) : pm_T (sL M a k v) := h
theorem pm_Tr {M : pm_M} {a k b : Nat} (h : pm_T M) (hb : pm_is M b (pm_rt (mT M a) k)) : pm_T (sR M a k (some b)) := by
  intro a1 k1 b1 h1 h2
  show pm_is M b1 (pm_rt (mT M a1) k1)
  by_cases e : a1 = a ∧ k1 = k
  · obtain ⟨rfl, rfl⟩ := e
    have h3 : some b = some b1 := by rw [← h2]; exact (pm_up_s (f := M.2.2.1)).symm
    cases h3
    exact hb
  · exact h a1 k1 b1 h1 (by rw [← h2]; exact (pm_up_n (f := M.2.2.1) e).symm)
theorem pm_Tn {M : pm_M} {t n : Nat} (h : pm_T M) : pm_T (sN M t n) := by
  intro a1 k1 b1 h1 h2
  by_cases e : a1 = mZ M
  · subst e
    have : (none : Option Nat) = some b1 := by rw [← h2]; exact (if_pos rfl).symm
    cases this
  · have h3 : mR M a1 k1 = some b1 := by rw [← h2]; exact (if_neg e).symm
    have h1' : a1 < mZ M := by have : a1 < mZ M + 1 := h1; omega
    have h4 := (h a1 k1 b1 h1' h3).x (pm_X.n (t := t) (n := n))
    have h5 : mT (sN M t n) a1 = mT M a1 := if_neg e
    rw [h5]
    exact h4
theorem pm_cell_sI {G : pm_G} {z : Nat} {M : pm_M} {a k b : Nat} {v : Int32} (h : b ≠ a) : pm_cell G z (sI M a k v) b = pm_cell G z M b := pm_cell_same (pm_up_r h) rfl rfl rfl rfl
theorem pm_cell_sL {G : pm_G} {z : Nat} {M : pm_M} {a k b : Nat} {v : Int64} (h : b ≠ a) : pm_cell G z (sL M a k v) b = pm_cell G z M b := pm_cell_same rfl (pm_up_r h) rfl rfl rfl
theorem pm_cell_sR {G : pm_G} {z : Nat} {M : pm_M} {a k b : Nat} {v : Option Nat} (h : b ≠ a) : pm_cell G z (sR M a k v) b = pm_cell G z M b := pm_cell_same rfl rfl (pm_up_r h) rfl rfl
theorem pm_fs_sI {z : Nat} {M : pm_M} {t a k : Nat} {v : Int32} (hr : pm_rt t k = 99) : (pm_fs z M t a).set k (.int v) = pm_fs z (sI M a k v) t a := by
  refine pm_fs_set ?_ fun j hj => ?_
  · rw [pm_val, if_pos hr]
    show Value.int (pm_up M.1 a k v a k) = _
    rw [pm_up_s]
  · unfold pm_val
    show (if _ then Value.int (pm_up M.1 a k v a j) else _) = _
    rw [pm_up_n (fun q => hj q.2)]
    rfl
theorem pm_fs_sR {z : Nat} {M : pm_M} {t a k : Nat} {x : Option Nat} (hr : ¬ pm_rt t k = 99) : (pm_fs z M t a).set k (pm_rf z x) = pm_fs z (sR M a k x) t a := by
  refine pm_fs_set ?_ fun j hj => ?_
  · rw [pm_val, if_neg hr]
    show pm_rf z (pm_up M.2.2.1 a k x a k) = _
    rw [pm_up_s]
  · unfold pm_val
    show (if _ then _ else pm_rf z (pm_up M.2.2.1 a k x a j)) = _
    rw [pm_up_n (fun q => hj q.2)]
    rfl
theorem pm_putI {ty0 : Nat → FieldType} {v : Int32} (E : pm_E G p s m args meth c cc nL own) (hI : pm_I G H0 M H locs) (ha : pm_is M a t) (hc : vwCl[t]? = some (C, T, N)) (ht : t < 10) (hk : k < N) (hnf : pm_nf t = N) (hr : pm_rt t k = 99) (hin : ∀ w ∈ u_ws C T N, w ∈ pm_tbl) (hty : ∀ k, k < N → parseFieldDescriptor (T k).2.2.1 = some (ty0 k)) (hnm : ∀ a, a < N → ∀ b, b < N → a ≠ b → (T a).2.1 ≠ (T b).2.1) (hl : Cond.fieldLink own index (T k).1 (T k).2.1 (T k).2.2.1 ∈ pm_tbl) (hd : parseFieldDescriptor (T k).2.2.1 = some .int) (hfin : (T k).2.2.2 = false ∨ ((T k).2.2.2 = true ∧ (T k).1 = own ∧ meth.name = "<init>")) (hdg : decode cc pc = .ok (.putfield index, 3))
    (kk : ∀ (H1 : Heap) (locs1 : List Loc), pm_I G H0 (sI M a k v) H1 locs1 → W p l e R s m args below meth c H1 locs1 cells slots Q (F0 m (pc + 3) ls rest)) : W p l e R s m args below meth c H locs cells slots Q (F0 m pc ls (.int v :: .ref (H0.size + a) :: rest)) := by
  obtain ⟨hx, hb, hml, hown, hts, hK, hlk⟩ := E
  obtain ⟨h1, hP, hS, hT⟩ := hI
  have he : (pm_W G H0.size M)[a]? = some (H0.size + a, .inr (t, pm_fs H0.size M t a)) := by rw [pm_get ha.1, pm_cell_o ha.2 ht]
  have hset : (pm_W G H0.size M).set a (H0.size + a, .inr (t, (pm_fs H0.size M t a).set k (.int v))) = pm_W G H0.size (sI M a k v) :=
    pm_set rfl (by rw [pm_cell_o (show mT (sI M a k v) a = t from ha.2) ht, pm_fs_sI hr]) (fun b hb => pm_cell_sI hb)
  have hlen : k < (pm_fs H0.size M t a).length := by rw [pm_fs_len, hnf]; exact hk
  have hk2 : ∀ (H1 : Heap) (locs1 : List Loc), va_P G.1 vwCl ((pm_W G H0.size M).set a (H0.size + a, .inr (t, (pm_fs H0.size M t a).set k (.int v)))) H1 → H1.size = H.size → va_S (fun q : Nat => H0.size ≤ q) H0 H1 locs1 → W p l e R s m args below meth c H1 locs1 cells slots Q (F0 m (pc + 3) ls rest) := fun H1 locs1 g1 g2 g3 => kk H1 locs1 ⟨by rw [g2]; exact h1, by rw [← hset]; exact g1, g3, pm_Ti hT⟩
  have hap := va_apart (own := own) hts hin ty0 hty hnm hK.1 hc
  obtain ⟨r, e1, cell, q1, q2, q3, q4⟩ := hP a _ he
  have hr : r = (C, T, N) := Option.some.inj (e1.symm.trans hc)
  subst hr
  obtain ⟨hS1, hfc, kC, hkC, hkind⟩ := hK.1.1 t _ hc
  obtain ⟨cf, kf, fi, f, hi, hsl⟩ := hS1 k hk
  have hlay := hts _ (hin _ (u_in_lay hk))
  unfold u_lay at hlay
  have hst := (u_facts hfc hkC (u_lays hts hin hk) hi).1
  have fin : ∀ H' : Heap, H'[H0.size + a]? = some (cell.setSlot f.slot (.int v)) → H'.size = H.size → (∀ q, q ≠ H0.size + a → H'[q]? = H[q]?) → W p l e R s m args below meth c H' (locs ++ [⟨H0.size + a, f.slot⟩]) cells slots Q (F0 m (pc + 3) ls rest) := by
    intro H' g1 g2 g3
    rw [hsl] at g1 ⊢
    exact hk2 H' _ (hP.set pm_D he ⟨_, hc, t_OB.to (V := updV (vp_V (pm_fs H0.size M t a)) k (.int v)) ⟨_, g1, q2, q3, t_set q4 hap hk _⟩ (fun j _ => vp_updV_set hlen _ j)⟩ g3) g2 (hS.put g2 g3 (Nat.le_add_right _ _))
  rcases hfin with hfin | ⟨hfin, hdecl, hin2⟩
  · rw [if_neg (by rw [hfin]; decide)] at hlay
    have h6 := u_store hfc hkC hkind hlay hi hd (v := .int v) rfl rfl
    exact W.putK hx hb (f := f) ⟨hown, hts _ hl, ⟨_, _, _, hi⟩, hst⟩ (by rw [q2]; exact h6) q1 q3 (by rw [hsl]; exact k2_hasslot (q4 k hk)) rfl rfl hdg fin
  · rw [if_pos hfin] at hlay
    have hcf : m.cls = cf := by
      obtain ⟨_, _, c', _, _, _, -, -, hf', -, -, -, hown2, -⟩ := Cond.laysFinal_spec hlay
      have e1 : c' = cf := by have := hi.symm.trans hf'; simp at this; exact this.1.symm
      rw [hdecl] at hown2
      rw [← e1]; exact Option.some.inj (hown.symm.trans hown2)
    have h6 := u_fits hfc hkC hkind (Or.inr hlay) hi hd (v := .int v) rfl rfl
    exact W.putFinK hx hb hown (hts _ hl) hi hst hcf hin2 (by rw [q2]; exact h6) q1 q3 (by rw [hsl]; exact k2_hasslot (q4 k hk)) rfl rfl hdg fin
theorem pm_putR {ty0 : Nat → FieldType} {ty : FieldType} (E : pm_E G p s m args meth c cc nL own) (hI : pm_I G H0 M H locs) (ha : pm_is M a t) (hc : vwCl[t]? = some (C, T, N)) (ht : t < 10) (hk : k < N) (hnf : pm_nf t = N) (hr : ¬ pm_rt t k = 99) (hin : ∀ w ∈ u_ws C T N, w ∈ pm_tbl) (hty : ∀ k, k < N → parseFieldDescriptor (T k).2.2.1 = some (ty0 k)) (hnm : ∀ a, a < N → ∀ b, b < N → a ≠ b → (T a).2.1 ≠ (T b).2.1) (hl : Cond.fieldLink own index (T k).1 (T k).2.1 (T k).2.2.1 ∈ pm_tbl) (hd : parseFieldDescriptor (T k).2.2.1 = some ty) (hnar : narrow ty (.ref (H0.size + b)) = .ref (H0.size + b)) (hfit : fits ty (.ref (H0.size + b)) = true) (hfin : (T k).2.2.2 = false ∨ ((T k).2.2.2 = true ∧ (T k).1 = own ∧ meth.name = "<init>")) (hbt : pm_is M b (pm_rt t k)) (hdg : decode cc pc = .ok (.putfield index, 3))
    (kk : ∀ (H1 : Heap) (locs1 : List Loc), pm_I G H0 (sR M a k (some b)) H1 locs1 → W p l e R s m args below meth c H1 locs1 cells slots Q (F0 m (pc + 3) ls rest)) : W p l e R s m args below meth c H locs cells slots Q (F0 m pc ls (.ref (H0.size + b) :: .ref (H0.size + a) :: rest)) := by
  obtain ⟨hx, hb, hml, hown, hts, hK, hlk⟩ := E
  obtain ⟨h1, hP, hS, hT⟩ := hI
  have he : (pm_W G H0.size M)[a]? = some (H0.size + a, .inr (t, pm_fs H0.size M t a)) := by rw [pm_get ha.1, pm_cell_o ha.2 ht]
  have hset : (pm_W G H0.size M).set a (H0.size + a, .inr (t, (pm_fs H0.size M t a).set k (.ref (H0.size + b)))) = pm_W G H0.size (sR M a k (some b)) :=
    pm_set rfl (by rw [pm_cell_o (show mT (sR M a k (some b)) a = t from ha.2) ht, ← pm_fs_sR hr]; rfl) (fun b hb => pm_cell_sR hb)
  have hlen : k < (pm_fs H0.size M t a).length := by rw [pm_fs_len, hnf]; exact hk
  have hk2 : ∀ (H1 : Heap) (locs1 : List Loc), va_P G.1 vwCl ((pm_W G H0.size M).set a (H0.size + a, .inr (t, (pm_fs H0.size M t a).set k (.ref (H0.size + b))))) H1 → H1.size = H.size → va_S (fun q : Nat => H0.size ≤ q) H0 H1 locs1 → W p l e R s m args below meth c H1 locs1 cells slots Q (F0 m (pc + 3) ls rest) := fun H1 locs1 g1 g2 g3 => kk H1 locs1 ⟨by rw [g2]; exact h1, by rw [← hset]; exact g1, g3, pm_Tr hT (by rw [ha.2]; exact hbt)⟩
  have hap := va_apart (own := own) hts hin ty0 hty hnm hK.1 hc
  obtain ⟨r, e1, cell, q1, q2, q3, q4⟩ := hP a _ he
  have hr : r = (C, T, N) := Option.some.inj (e1.symm.trans hc)
  subst hr
  obtain ⟨hS1, hfc, kC, hkC, hkind⟩ := hK.1.1 t _ hc
  obtain ⟨cf, kf, fi, f, hi, hsl⟩ := hS1 k hk
  have hlay := hts _ (hin _ (u_in_lay hk))
  unfold u_lay at hlay
  have hst := (u_facts hfc hkC (u_lays hts hin hk) hi).1
  have fin : ∀ H' : Heap, H'[H0.size + a]? = some (cell.setSlot f.slot (.ref (H0.size + b))) → H'.size = H.size → (∀ q, q ≠ H0.size + a → H'[q]? = H[q]?) → W p l e R s m args below meth c H' (locs ++ [⟨H0.size + a, f.slot⟩]) cells slots Q (F0 m (pc + 3) ls rest) := by
    intro H' g1 g2 g3
    rw [hsl] at g1 ⊢
    exact hk2 H' _ (hP.set pm_D he ⟨_, hc, t_OB.to (V := updV (vp_V (pm_fs H0.size M t a)) k (.ref (H0.size + b))) ⟨_, g1, q2, q3, t_set q4 hap hk _⟩ (fun j _ => vp_updV_set hlen _ j)⟩ g3) g2 (hS.put g2 g3 (Nat.le_add_right _ _))
  rcases hfin with hfin | ⟨hfin, hdecl, hin2⟩
  · rw [if_neg (by rw [hfin]; decide)] at hlay
    have h6 := u_store hfc hkC hkind hlay hi hd hnar hfit
    exact W.putK hx hb (f := f) ⟨hown, hts _ hl, ⟨_, _, _, hi⟩, hst⟩ (by rw [q2]; exact h6) q1 q3 (by rw [hsl]; exact k2_hasslot (q4 k hk)) rfl rfl hdg fin
  · rw [if_pos hfin] at hlay
    have hcf : m.cls = cf := by
      obtain ⟨_, _, c', _, _, _, -, -, hf', -, -, -, hown2, -⟩ := Cond.laysFinal_spec hlay
      have e1 : c' = cf := by have := hi.symm.trans hf'; simp at this; exact this.1.symm
      rw [hdecl] at hown2
      rw [← e1]; exact Option.some.inj (hown.symm.trans hown2)
    have h6 := u_fits hfc hkC hkind (Or.inr hlay) hi hd hnar hfit
    exact W.putFinK hx hb hown (hts _ hl) hi hst hcf hin2 (by rw [q2]; exact h6) q1 q3 (by rw [hsl]; exact k2_hasslot (q4 k hk)) rfl rfl hdg fin
end PMR
