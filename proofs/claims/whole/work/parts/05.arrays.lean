section PMA
variable {p : Program} {l : Launch} {e : Env} {R : Room} {s : State} {m : MethodId} {args : Array Value} {below : List Frame} {meth : Method} {c : Code} {H : Heap} {locs : List Loc} {cells slots : Nat} {Q : State → Prop}
variable {cc : ByteArray} {pc nL : Nat} {own : String} {ls : Array Slot} {rest : List Value} {G : pm_G} {H0 : Heap} {M : pm_M} {a b t k n index : Nat} {C : String} {T : u_T} {N : Nat} {i : Int32}
theorem pm_iald (E : pm_E G p s m args meth c cc nL own) (hI : pm_I G H0 M H locs) (ha : pm_is M a 11) (hin : vp_in i (mN M a)) (hdg : decode cc pc = .ok (.iaload, 1))
    (kk : W p l e R s m args below meth c H locs cells slots Q (F0 m (pc + 1) ls (.int (mI M a i.toNatClampNeg) :: rest))) : W p l e R s m args below meth c H locs cells slots Q (F0 m pc ls (.int i :: .ref (H0.size + a) :: rest)) := by
  obtain ⟨hx, hb, hml, hown, hts, hK, hlk⟩ := E
  obtain ⟨_, hP, _, _⟩ := hI
  exact va_iald hx hb hK.1 hP a 1 (by rw [pm_get ha.1, pm_cell_i ha.2 (by decide)]) rfl hin hdg kk
theorem pm_bald (E : pm_E G p s m args meth c cc nL own) (hI : pm_I G H0 M H locs) (ha : pm_is M a 10) (hin : vp_in i (mN M a)) (hdg : decode cc pc = .ok (.baload, 1))
    (kk : W p l e R s m args below meth c H locs cells slots Q (F0 m (pc + 1) ls (.int (mI M a i.toNatClampNeg) :: rest))) : W p l e R s m args below meth c H locs cells slots Q (F0 m pc ls (.int i :: .ref (H0.size + a) :: rest)) := by
  obtain ⟨hx, hb, hml, hown, hts, hK, hlk⟩ := E
  obtain ⟨_, hP, _, _⟩ := hI
  exact va_bald hx hb hK.1 hP a 0 (by rw [pm_get ha.1, pm_cell_i ha.2 (by decide)]) rfl hin hdg kk
theorem pm_zald (E : pm_E G p s m args meth c cc nL own) (hI : pm_I G H0 M H locs) (ha : pm_is M a 13) (hin : vp_in i (mN M a)) (hdg : decode cc pc = .ok (.baload, 1))
    (kk : W p l e R s m args below meth c H locs cells slots Q (F0 m (pc + 1) ls (.int (mI M a i.toNatClampNeg) :: rest))) : W p l e R s m args below meth c H locs cells slots Q (F0 m pc ls (.int i :: .ref (H0.size + a) :: rest)) := by
  obtain ⟨hx, hb, hml, hown, hts, hK, hlk⟩ := E
  obtain ⟨_, hP, _, _⟩ := hI
  exact va_zald hx hb hK.1 hP a 3 (by rw [pm_get ha.1, pm_cell_i ha.2 (by decide)]) rfl hin hdg kk
theorem pm_lald (E : pm_E G p s m args meth c cc nL own) (hI : pm_I G H0 M H locs) (ha : pm_is M a 12) (hin : vp_in i (mN M a)) (hdg : decode cc pc = .ok (.laload, 1))
    (kk : W p l e R s m args below meth c H locs cells slots Q (F0 m (pc + 1) ls (.long (mL M a i.toNatClampNeg) :: rest))) : W p l e R s m args below meth c H locs cells slots Q (F0 m pc ls (.int i :: .ref (H0.size + a) :: rest)) := by
  obtain ⟨hx, hb, hml, hown, hts, hK, hlk⟩ := E
  obtain ⟨_, hP, _, _⟩ := hI
  exact va_lald hx hb hK.1 hP a 2 (by rw [pm_get ha.1, pm_cell_l ha.2]) rfl hin hdg kk
/-- an array of objects, or of arrays: t0 its place in pm_tys -/
theorem pm_aald {ty : FieldType} (t0 : Nat) (E : pm_E G p s m args meth c cc nL own) (hI : pm_I G H0 M H locs) (ha : pm_is M a t) (ht : 14 ≤ t) (hty : (pm_tys G)[t0]? = some (G.2 t, ty)) (href : ty.isReference = true) (hin : vp_in i (mN M a)) (hdg : decode cc pc = .ok (.aaload, 1))
    (kk : ∀ x : Option Nat, x = mR M a i.toNatClampNeg → (∀ b, x = some b → pm_is M b (pm_rt t i.toNatClampNeg)) → W p l e R s m args below meth c H locs cells slots Q (F0 m (pc + 1) ls (pm_rf H0.size x :: rest))) : W p l e R s m args below meth c H locs cells slots Q (F0 m pc ls (.int i :: .ref (H0.size + a) :: rest)) := by
  obtain ⟨hx, hb, hml, hown, hts, hK, hlk⟩ := E
  obtain ⟨_, hP, _, hT⟩ := hI
  have hlt : i.toNatClampNeg < mN M a := Nat.not_le.mp fun q => hin (Or.inr q)
  have hat : (pm_W G H0.size M)[a]? = some (H0.size + a, .inl (G.2 t, mN M a, .inr (.inr (.inr (.inr (fun j => (mR M a j).map (fun q => H0.size + q))))))) := by rw [pm_get ha.1, pm_cell_r ha.2 ht]
  exact W.aald (v := pm_rf H0.size (mR M a i.toNatClampNeg)) (ty := ty) hx hb (hP a _ hat) ((hK.1.2 t0 _ hty).1 (mN M a) (fun j => pm_rf H0.size (mR M a j))) href (fun q => by cases q) (by show ¬ (i < 0 ∨ (arrV _ _ _).slots.size ≤ _); rw [arrV_size]; exact hin) (by show (arrV _ _ _).slots[_]? = _; rw [arrV_read _ _ hlt]; rfl) rfl rfl hdg (kk _ rfl (fun b hq => ha.2 ▸ hT a _ b ha.1 hq))
theorem pm_seti {G : pm_G} {z : Nat} {M : pm_M} {a t j : Nat} {x : Int32} (h : mT M a = t) (ht : t = 10 ∨ t = 11 ∨ t = 13) : (pm_W G z M).set a (z + a, .inl (G.2 t, mN M a, .inl (upd (mI M a) j x))) = pm_W G z (sI M a j x) := by
  refine pm_set rfl ?_ (fun b hb => pm_cell_sI hb)
  rw [pm_cell_i (show mT (sI M a j x) a = t from h) ht]
  have hf : upd (mI M a) j x = mI (sI M a j x) a := by
    funext q
    show (if q = j then x else mI M a q) = pm_up M.1 a j x a q
    unfold pm_up mI
    by_cases hq : q = j <;> simp [hq]
  rw [hf]
  rfl
theorem pm_iast {x : Int32} (E : pm_E G p s m args meth c cc nL own) (hI : pm_I G H0 M H locs) (ha : pm_is M a 11) (hin : vp_in i (mN M a)) (hdg : decode cc pc = .ok (.iastore, 1))
    (kk : ∀ (H1 : Heap) (locs1 : List Loc), pm_I G H0 (sI M a i.toNatClampNeg x) H1 locs1 → W p l e R s m args below meth c H1 locs1 cells slots Q (F0 m (pc + 1) ls rest)) : W p l e R s m args below meth c H locs cells slots Q (F0 m pc ls (.int x :: .int i :: .ref (H0.size + a) :: rest)) := by
  obtain ⟨hx, hb, hml, hown, hts, hK, hlk⟩ := E
  obtain ⟨h1, hP, hS, hT⟩ := hI
  have hat : (pm_W G H0.size M)[a]? = some (H0.size + a, .inl (G.2 11, mN M a, .inl (mI M a))) := by rw [pm_get ha.1, pm_cell_i ha.2 (by decide)]
  refine W.iast hx hb (hP a _ hat) ((hK.1.2 1 _ rfl).1 (mN M a) (fun j => .int (mI M a j))) (fun q => by cases q) (by show ¬ (i < 0 ∨ (arrV _ _ _).slots.size ≤ _); rw [arrV_size]; exact hin) rfl rfl hdg fun H1 e1 z oq => ?_
  refine kk H1 _ ⟨by rw [z]; exact h1, ?_, hS.put z oq (Nat.le_add_right _ _), pm_Ti hT⟩
  rw [← pm_seti ha.2 (by decide)]
  refine hP.set pm_D hat ?_ oq
  show H1[_]? = some (vp_cell _ _)
  rw [e1, vp_cell_i, vp_cell_i, arrV_store]
  congr 2
  funext q
  by_cases hq : q = i.toNatClampNeg
  · subst hq
    simp [updV, upd]
  · simp [updV, upd, hq]
theorem pm_bast {x : Int32} (E : pm_E G p s m args meth c cc nL own) (hI : pm_I G H0 M H locs) (ha : pm_is M a 10) (hin : vp_in i (mN M a)) (hdg : decode cc pc = .ok (.bastore, 1))
    (kk : ∀ (H1 : Heap) (locs1 : List Loc), pm_I G H0 (sI M a i.toNatClampNeg (vp_nar .byte x)) H1 locs1 → W p l e R s m args below meth c H1 locs1 cells slots Q (F0 m (pc + 1) ls rest)) : W p l e R s m args below meth c H locs cells slots Q (F0 m pc ls (.int x :: .int i :: .ref (H0.size + a) :: rest)) := by
  obtain ⟨hx, hb, hml, hown, hts, hK, hlk⟩ := E
  obtain ⟨h1, hP, hS, hT⟩ := hI
  have hat : (pm_W G H0.size M)[a]? = some (H0.size + a, .inl (G.2 10, mN M a, .inl (mI M a))) := by rw [pm_get ha.1, pm_cell_i ha.2 (by decide)]
  refine W.bast hx hb (hP a _ hat) ((hK.1.2 0 _ rfl).1 (mN M a) (fun j => .int (mI M a j))) (fun q => by cases q) (by show ¬ (i < 0 ∨ (arrV _ _ _).slots.size ≤ _); rw [arrV_size]; exact hin) rfl rfl hdg fun H1 e1 z oq => ?_
  refine kk H1 _ ⟨by rw [z]; exact h1, ?_, hS.put z oq (Nat.le_add_right _ _), pm_Ti hT⟩
  rw [← pm_seti ha.2 (by decide)]
  refine hP.set pm_D hat ?_ oq
  show H1[_]? = some (vp_cell _ _)
  rw [e1, vp_cell_i, vp_cell_i, arrV_store]
  congr 2
  funext q
  by_cases hq : q = i.toNatClampNeg
  · subst hq
    simp [updV, upd, vp_nar, narrow]
  · simp [updV, upd, hq]
theorem pm_zast {x : Int32} (E : pm_E G p s m args meth c cc nL own) (hI : pm_I G H0 M H locs) (ha : pm_is M a 13) (hin : vp_in i (mN M a)) (hdg : decode cc pc = .ok (.bastore, 1))
    (kk : ∀ (H1 : Heap) (locs1 : List Loc), pm_I G H0 (sI M a i.toNatClampNeg (vp_nar .boolean x)) H1 locs1 → W p l e R s m args below meth c H1 locs1 cells slots Q (F0 m (pc + 1) ls rest)) : W p l e R s m args below meth c H locs cells slots Q (F0 m pc ls (.int x :: .int i :: .ref (H0.size + a) :: rest)) := by
  obtain ⟨hx, hb, hml, hown, hts, hK, hlk⟩ := E
  obtain ⟨h1, hP, hS, hT⟩ := hI
  have hat : (pm_W G H0.size M)[a]? = some (H0.size + a, .inl (G.2 13, mN M a, .inl (mI M a))) := by rw [pm_get ha.1, pm_cell_i ha.2 (by decide)]
  refine W.zast hx hb (hP a _ hat) ((hK.1.2 3 _ rfl).1 (mN M a) (fun j => .int (mI M a j))) (fun q => by cases q) (by show ¬ (i < 0 ∨ (arrV _ _ _).slots.size ≤ _); rw [arrV_size]; exact hin) rfl rfl hdg fun H1 e1 z oq => ?_
  refine kk H1 _ ⟨by rw [z]; exact h1, ?_, hS.put z oq (Nat.le_add_right _ _), pm_Ti hT⟩
  rw [← pm_seti ha.2 (by decide)]
  refine hP.set pm_D hat ?_ oq
  show H1[_]? = some (vp_cell _ _)
  rw [e1, vp_cell_i, vp_cell_i, arrV_store]
  congr 2
  funext q
  by_cases hq : q = i.toNatClampNeg
  · subst hq
    simp [updV, upd, vp_nar, narrow]
  · simp [updV, upd, hq]
theorem pm_last {x : Int64} (E : pm_E G p s m args meth c cc nL own) (hI : pm_I G H0 M H locs) (ha : pm_is M a 12) (hin : vp_in i (mN M a)) (hdg : decode cc pc = .ok (.lastore, 1))
    (kk : ∀ (H1 : Heap) (locs1 : List Loc), pm_I G H0 (sL M a i.toNatClampNeg x) H1 locs1 → W p l e R s m args below meth c H1 locs1 cells slots Q (F0 m (pc + 1) ls rest)) : W p l e R s m args below meth c H locs cells slots Q (F0 m pc ls (.long x :: .int i :: .ref (H0.size + a) :: rest)) := by
  obtain ⟨hx, hb, hml, hown, hts, hK, hlk⟩ := E
  obtain ⟨h1, hP, hS, hT⟩ := hI
  have hat : (pm_W G H0.size M)[a]? = some (H0.size + a, .inl (G.2 12, mN M a, .inr (.inl (mL M a)))) := by rw [pm_get ha.1, pm_cell_l ha.2]
  refine W.last hx hb (hP a _ hat) ((hK.1.2 2 _ rfl).1 (mN M a) (fun j => .long (mL M a j))) (fun q => by cases q) (by show ¬ (i < 0 ∨ (arrV _ _ _).slots.size ≤ _); rw [arrV_size]; exact hin) rfl rfl hdg fun H1 e1 z oq => ?_
  refine kk H1 _ ⟨by rw [z]; exact h1, ?_, hS.put z oq (Nat.le_add_right _ _), pm_Tl hT⟩
  have hset : (pm_W G H0.size M).set a (H0.size + a, .inl (G.2 12, mN M a, .inr (.inl (vp_updL (mL M a) i.toNatClampNeg x)))) = pm_W G H0.size (sL M a i.toNatClampNeg x) := by
    refine pm_set rfl ?_ (fun b hb => pm_cell_sL hb)
    rw [pm_cell_l (show mT (sL M a i.toNatClampNeg x) a = 12 from ha.2)]
    have hf : vp_updL (mL M a) i.toNatClampNeg x = mL (sL M a i.toNatClampNeg x) a := by
      funext q
      show (if q = i.toNatClampNeg then x else mL M a q) = pm_up M.2.1 a i.toNatClampNeg x a q
      unfold pm_up mL
      by_cases hq : q = i.toNatClampNeg <;> simp [hq]
    rw [hf]
    rfl
  rw [← hset]
  refine hP.set pm_D hat ?_ oq
  show H1[_]? = some (vp_cell _ _)
  rw [e1, vp_cell_l, vp_cell_l, arrV_store]
  congr 2
  funext q
  by_cases hq : q = i.toNatClampNeg
  · subst hq
    simp [updV, vp_updL]
  · simp [updV, vp_updL, hq]
/-- an object of the class number t1 into an array of such (kind t) -/
theorem pm_aast {t1 : Nat} {r : vw_C} (t0 : Nat) (E : pm_E G p s m args meth c cc nL own) (hI : pm_I G H0 M H locs) (ha : pm_is M a t) (ht : 14 ≤ t) (hty : (pm_tys G)[t0]? = some (G.2 t, .object r.1)) (hv : pm_is M b t1) (ht1 : t1 < 10) (hrt : pm_rt t i.toNatClampNeg = t1) (hc : vwCl[t1]? = some r) (hin : vp_in i (mN M a)) (hdg : decode cc pc = .ok (.aastore, 1))
    (kk : ∀ (H1 : Heap) (locs1 : List Loc), pm_I G H0 (sR M a i.toNatClampNeg (some b)) H1 locs1 → W p l e R s m args below meth c H1 locs1 cells slots Q (F0 m (pc + 1) ls rest)) : W p l e R s m args below meth c H locs cells slots Q (F0 m pc ls (.ref (H0.size + b) :: .int i :: .ref (H0.size + a) :: rest)) := by
  obtain ⟨hx, hb, hml, hown, hts, hK, hlk⟩ := E
  obtain ⟨h1, hP, hS, hT⟩ := hI
  have hlt : i.toNatClampNeg < mN M a := Nat.not_le.mp fun q => hin (Or.inr q)
  have h0 : ¬ i < 0 := fun q => hin (Or.inl q)
  have hat : (pm_W G H0.size M)[a]? = some (H0.size + a, .inl (G.2 t, mN M a, .inr (.inr (.inr (.inr (fun j => (mR M a j).map (fun q => H0.size + q))))))) := by rw [pm_get ha.1, pm_cell_r ha.2 ht]
  have hav : (pm_W G H0.size M)[b]? = some (H0.size + b, .inr (t1, pm_fs H0.size M t1 b)) := by rw [pm_get hv.1, pm_cell_o hv.2 ht1]
  obtain ⟨r', hr', cellV, g1, g2, g3, -⟩ := hP b _ hav
  have hcls := (hK.1.1 t1 r hc).2
  obtain ⟨kA, comp, k1, k2, k3, -⟩ := (hK.1.2 t0 _ hty).2
  have hcomp : comp = G.1.1 t1 := Option.some.inj (k3.symm.trans hcls.1)
  subst hcomp
  obtain ⟨kC, hkC, -⟩ := hcls.2
  refine W.aast hx hb (hP a _ hat) (fun q h => by cases h) (fun h => by cases h) k1 k2 rfl hkC ⟨h0, by show _ < (arrV _ _ _).slots.size; rw [arrV_size]; exact hlt⟩ g1 (fun q h => by rw [g3] at h; cases h) (by rw [g2]; exact hkC) (by rw [g2]; exact va_assign hcls) rfl rfl hdg fun H1 e1 z oq => ?_
  refine kk H1 _ ⟨by rw [z]; exact h1, ?_, hS.put z oq (Nat.le_add_right _ _), pm_Tr hT (by rw [ha.2, hrt]; exact hv)⟩
  have hset : (pm_W G H0.size M).set a (H0.size + a, .inl (G.2 t, mN M a, .inr (.inr (.inr (.inr (va_up (fun j => (mR M a j).map (fun q => H0.size + q)) i.toNatClampNeg (some (H0.size + b)))))))) = pm_W G H0.size (sR M a i.toNatClampNeg (some b)) := by
    refine pm_set rfl ?_ (fun b hb => pm_cell_sR hb)
    rw [pm_cell_r (show mT (sR M a i.toNatClampNeg (some b)) a = t from ha.2) ht]
    have hf : va_up (fun j => (mR M a j).map (fun q => H0.size + q)) i.toNatClampNeg (some (H0.size + b)) = fun j => (mR (sR M a i.toNatClampNeg (some b)) a j).map (fun q => H0.size + q) := by
      funext q
      show (if q = i.toNatClampNeg then some (H0.size + b) else (mR M a q).map (fun q => H0.size + q)) = (pm_up M.2.2.1 a i.toNatClampNeg (some b) a q).map (fun q => H0.size + q)
      unfold pm_up mR
      by_cases hq : q = i.toNatClampNeg <;> simp [hq]
    rw [hf]
    rfl
  rw [← hset]
  refine hP.set pm_D hat ?_ oq
  show H1[_]? = some (vp_cell _ _)
  rw [e1, vp_cell_q, vp_cell_q, arrV_store]
  congr 2
  funext q
  by_cases hq : q = i.toNatClampNeg
  · subst hq
    simp [updV, va_up, va_rf]
  · simp [updV, va_up, hq]
theorem pm_alen (t0 : Nat) {ty : FieldType} (E : pm_E G p s m args meth c cc nL own) (hI : pm_I G H0 M H locs) (ha : pm_is M a t) (ht : 10 ≤ t) (hty : (pm_tys G)[t0]? = some (G.2 t, ty)) (hdg : decode cc pc = .ok (.arraylength, 1))
    (kk : W p l e R s m args below meth c H locs cells slots Q (F0 m (pc + 1) ls (.int (nI (mN M a)) :: rest))) : W p l e R s m args below meth c H locs cells slots Q (F0 m pc ls (.ref (H0.size + a) :: rest)) := by
  obtain ⟨hx, hb, hml, hown, hts, hK, hlk⟩ := E
  obtain ⟨h1, hP, hS, hT⟩ := hI
  have hat : ∃ y : vp_A, (pm_W G H0.size M)[a]? = some (H0.size + a, .inl (G.2 t, y)) ∧ y.1 = mN M a := by
    rw [pm_get ha.1]
    unfold pm_cell
    rw [ha.2, if_neg (by omega)]
    by_cases h12 : t = 12
    · subst h12
      exact ⟨_, by rw [if_pos rfl], rfl⟩
    · rw [if_neg h12]
      by_cases h14 : t < 14
      · exact ⟨_, by rw [if_pos h14], rfl⟩
      · exact ⟨_, by rw [if_neg h14], rfl⟩
  obtain ⟨y, hy, hyn⟩ := hat
  exact va_alen hx hb hK.1 hP a t0 hy hty (by rw [hyn]; rfl) hdg kk
theorem pm_copyl {sp dp nn : Int32} (E : pm_E G p s m args meth c cc nL own) (hI : pm_I G H0 M H locs) (hls : ls.size = nL) (hl : Cond.methodLink own index arraycopyName ∈ pm_tbl) (hn : Cond.native arraycopyName ∈ pm_tbl) (hst : Cond.static arraycopyName ∈ pm_tbl) (hini : Cond.initialized "java/lang/System" ∈ pm_tbl) (ha : pm_is M a 12) (hb2 : pm_is M b 12)
    (h1 : ¬ sp < 0) (h2 : ¬ dp < 0) (h3 : ¬ nn < 0) (h4 : sp.toNatClampNeg + nn.toNatClampNeg ≤ mN M a) (h5 : dp.toNatClampNeg + nn.toNatClampNeg ≤ mN M b) (hframes : 1 ≤ R.frames) (hlocals : (rest.map fun v => v.category).sum + (nativeFrameWords "java/lang/System" "arraycopy" 5 + 11) ≤ R.locals) (hdg : decode cc pc = .ok (.invokestatic index, 3))
    (kk : ∀ (H1 : Heap) (locs1 : List Loc), pm_I G H0 (sC M a sp.toNatClampNeg b dp.toNatClampNeg nn.toNatClampNeg) H1 locs1 → W p l e R s m args below meth c H1 locs1 cells slots Q (F0 m (pc + 3) ls rest)) : W p l e R s m args below meth c H locs cells slots Q (F0 m pc ls (.int nn :: .int dp :: .ref (H0.size + b) :: .int sp :: .ref (H0.size + a) :: rest)) := by
  obtain ⟨hx, hb, hml, hown, hts, hK, hlk⟩ := E
  obtain ⟨z1, hP, hS, hT⟩ := hI
  have hat0 : (pm_W G H0.size M)[a]? = some (H0.size + a, .inl (G.2 12, mN M a, .inr (.inl (mL M a)))) := by rw [pm_get ha.1, pm_cell_l ha.2]
  have hc0 : H[H0.size + a]? = some (vp_cell (G.2 12) (mN M a, .inr (.inl (mL M a)))) := hP a _ hat0
  have hat : (pm_W G H0.size M)[b]? = some (H0.size + b, .inl (G.2 12, mN M b, .inr (.inl (mL M b)))) := by rw [pm_get hb2.1, pm_cell_l hb2.2]
  have hc1 : H[H0.size + b]? = some (vp_cell (G.2 12) (mN M b, .inr (.inl (mL M b)))) := hP b _ hat
  have hset : (pm_W G H0.size M).set b (H0.size + b, .inl (G.2 12, mN M b, .inr (.inl (va_cpy (mL M a) (mL M b) sp.toNatClampNeg dp.toNatClampNeg nn.toNatClampNeg)))) = pm_W G H0.size (sC M a sp.toNatClampNeg b dp.toNatClampNeg nn.toNatClampNeg) := by
    refine pm_set rfl ?_ (fun d hd => pm_cell_same rfl (if_neg hd) rfl rfl rfl)
    rw [pm_cell_l (show mT (sC M a sp.toNatClampNeg b dp.toNatClampNeg nn.toNatClampNeg) b = 12 from hb2.2)]
    have hf : va_cpy (mL M a) (mL M b) sp.toNatClampNeg dp.toNatClampNeg nn.toNatClampNeg = mL (sC M a sp.toNatClampNeg b dp.toNatClampNeg nn.toNatClampNeg) b := (if_pos rfl).symm
    rw [hf]
    rfl
  have hz : ∀ z : Int32, ¬ z < 0 → z.toInt = (z.toNatClampNeg : Int) := by
    intro z hz
    have h0 : (0 : Int) ≤ z.toInt := by simpa using Int32.le_iff_toInt_le.mp (Int32.not_lt.mp hz)
    show z.toInt = ((z.toInt.toNat : Nat) : Int)
    omega
  intro T hT X
  obtain ⟨-, k0, hk0, cm0, hkk0⟩ := (hK.1.2 2 _ rfl).1 (mN M a) (fun j => .long (mL M a j))
  obtain ⟨-, k1, hk1, cm1, hkk1⟩ := (hK.1.2 2 _ rfl).1 (mN M b) (fun j => .long (mL M b j))
  obtain ⟨vm', X', step⟩ := X.arraycopy hx hown (hts _ hl) (hts _ hn) (hts _ hst) (hts _ hini) (src := H0.size + a) (dst := H0.size + b) (cs := vp_cell (G.2 12) (mN M a, .inr (.inl (mL M a)))) (cd := vp_cell (G.2 12) (mN M b, .inr (.inl (mL M b)))) (srcPos := sp) (destPos := dp) (n := nn) (by rw [hT]; exact hc0) (by rw [hT]; exact hc1)
    (fun _ h => by cases h) (fun _ h => by cases h) (fun h => by cases h) (fun h => by cases h) hk0 hk1 hkk0 hkk1 (by rfl) h1 h2 h3
    (by rw [hz sp h1, hz nn h3]; show ¬ _ > ((arrV _ _ _).slots.size : Int); rw [arrV_size]; omega)
    (by rw [hz dp h2, hz nn h3]; show ¬ _ > ((arrV _ _ _).slots.size : Int); rw [arrV_size]; omega)
    (fun vm₁ _ i hi => by
      have e : (vp_cell (G.2 12) (mN M a, .inr (.inl (mL M a)))).slots.getD (sp.toNatClampNeg + i) .null = .long (mL M a (sp.toNatClampNeg + i)) := by
        show (arrV _ _ _).slots.getD _ _ = _
        rw [Array.getD_eq_getD_getElem?, arrV_read _ _ (by omega)]
        rfl
      exact ⟨by rw [e]; rfl, by rw [e]; exact trivial⟩)
    (g := F0 m pc ls (.int nn :: .int dp :: .ref (H0.size + b) :: .int sp :: .ref (H0.size + a) :: rest)) rfl (by rw [hml]; exact hls) (rest := rest) rfl (by rw [hb]; exact hdg) hframes (by show 2 * 0 + _ + _ ≤ _; omega)
  have e1 : copied (vp_cell (G.2 12) (mN M a, .inr (.inl (mL M a)))) (vp_cell (G.2 12) (mN M b, .inr (.inl (mL M b)))) sp dp nn = vp_cell (G.2 12) (mN M b, .inr (.inl (va_cpy (mL M a) (mL M b) sp.toNatClampNeg dp.toNatClampNeg nn.toNatClampNeg))) := va_copied (fun z => .long z) (G.2 12) (G.2 12) (mL M a) (mL M b) h4
  rw [e1] at X' step
  have hlt : H0.size + b < H.size := (Array.getElem?_eq_some_iff.mp hc1).1
  subst hT
  have oq : ∀ (v : Cell) (q : Nat), q ≠ H0.size + b → (T.heap.setIfInBounds (H0.size + b) v)[q]? = T.heap[q]? := fun v q hq => by simp [Array.getElem?_setIfInBounds, Ne.symm hq]
  refine (kk _ _ ⟨?_, ?_, ⟨?_, fun q g1 g2 => ?_, fun q hq => ?_⟩, hT⟩ _ rfl X').elim fun t ht => ⟨t, step t ht.1, ht.2⟩
  · show (T.heap.setIfInBounds _ _).size = H0.size + mZ M
    simpa using z1
  · rw [← hset]
    exact hP.set pm_D hat (show (T.heap.setIfInBounds _ _)[_]? = some _ by simp [Array.getElem?_setIfInBounds, hlt]) (oq _)
  · show _ ≤ (T.heap.setIfInBounds _ _).size
    simpa using hS.1
  · show (T.heap.setIfInBounds _ _)[q]? = _
    rw [oq _ q (fun e => g2 (by rw [e]; exact Nat.le_add_right _ _))]
    exact hS.2.1 q g1 g2
  · rcases List.mem_append.mp hq with h | h
    · exact hS.2.2 q h
    · obtain ⟨z, -, hz⟩ := List.mem_map.mp h
      rw [← hz]
      exact Nat.le_add_right _ _
end PMA
