section PMN
variable {p : Program} {l : Launch} {e : Env} {R : Room} {s : State} {m : MethodId} {args : Array Value} {below : List Frame} {meth : Method} {c : Code} {H : Heap} {locs : List Loc} {cells slots : Nat} {Q : State → Prop}
variable {cc : ByteArray} {pc nL : Nat} {own : String} {ls : Array Slot} {rest : List Value} {G : pm_G} {H0 : Heap} {M : pm_M} {a b t k n index : Nat} {C : String} {T : u_T} {N : Nat} {i : Int32}
theorem pm_putIN {host : String} {ty0 : Nat → FieldType} {v : Int32} (E : pm_E G p s m args meth c cc nL own) (hI : pm_I G H0 M H locs) (ha : pm_is M a t) (hc : vwCl[t]? = some (C, T, N)) (ht : t < 10) (hk : k < N) (hnf : pm_nf t = N) (hr : pm_rt t k = 99) (hin : ∀ w ∈ u_ws C T N, w ∈ pm_tbl) (hty : ∀ k, k < N → parseFieldDescriptor (T k).2.2.1 = some (ty0 k)) (hnm : ∀ a, a < N → ∀ b, b < N → a ≠ b → (T a).2.1 ≠ (T b).2.1) (hl : Cond.fieldLinkNest own index (T k).1 (T k).2.1 (T k).2.2.1 host ∈ lw_tbl) (hd : parseFieldDescriptor (T k).2.2.1 = some .int) (hfin : (T k).2.2.2 = false ∨ False) (hdg : decode cc pc = .ok (.putfield index, 3))
    (kk : ∀ (H1 : Heap) (locs1 : List Loc), pm_I G H0 (sI M a k v) H1 locs1 → W p l e R s m args below meth c H1 locs1 cells slots Q (F0 m (pc + 3) ls rest)) : W p l e R s m args below meth c H locs cells slots Q (F0 m pc ls (.int v :: .ref (H0.size + a) :: rest)) := by
  obtain ⟨hx, hb, hml, hown, hts, hK, hlk⟩ := E
  obtain ⟨h1, hP, hS, hT⟩ := hI
  have he : (pm_W G H0.size M)[a]? = some (H0.size + a, .inr (t, pm_fs H0.size M t a)) := by rw [pm_get ha.1, pm_cell_o ha.2 ht]
  have hset : (pm_W G H0.size M).set a (H0.size + a, .inr (t, (pm_fs H0.size M t a).set k (.int v))) = pm_W G H0.size (sI M a k v) :=
    pm_set rfl (by rw [pm_cell_o (show mT (sI M a k v) a = t from ha.2) ht, pm_fs_sI hr]) (fun b hb => pm_cell_sI hb)
  have hlen : k < (pm_fs H0.size M t a).length := by rw [pm_fs_len, hnf]; exact hk
  have hk2 : ∀ (H1 : Heap) (locs1 : List Loc), va_P G.1 vwCl ((pm_W G H0.size M).set a (H0.size + a, .inr (t, (pm_fs H0.size M t a).set k (.int v)))) H1 → H1.size = H.size → va_S (fun q : Nat => H0.size ≤ q) H0 H1 locs1 → W p l e R s m args below meth c H1 locs1 cells slots Q (F0 m (pc + 3) ls rest) := fun H1 locs1 g1 g2 g3 => kk H1 locs1 ⟨by rw [g2]; exact h1, by rw [← hset]; exact g1, g3, pm_Ti hT⟩
  have hap := va_apart (own := own) hts hin ty0 hty hnm hK.1 hc
  obtain ⟨r, e1, cell, q1, q2, q3, q4⟩ := hP a _ he
  have hr : r = (C, T, N) := Option.some.inj (e1.symm.trans hc)
  subst hr
  obtain ⟨hS1, hfc, kC, hkC, hkind⟩ := hK.1.1 t _ hc
  obtain ⟨cf, kf, fi, f, hi, hsl⟩ := hS1 k hk
  have hlay := hts _ (hin _ (u_in_lay hk))
  unfold u_lay at hlay
  have hst := (u_facts hfc hkC (u_lays hts hin hk) hi).1
  have fin : ∀ H' : Heap, H'[H0.size + a]? = some (cell.setSlot f.slot (.int v)) → H'.size = H.size → (∀ q, q ≠ H0.size + a → H'[q]? = H[q]?) → W p l e R s m args below meth c H' (locs ++ [⟨H0.size + a, f.slot⟩]) cells slots Q (F0 m (pc + 3) ls rest) := by
    intro H' g1 g2 g3
    rw [hsl] at g1 ⊢
    exact hk2 H' _ (hP.set pm_D he ⟨_, hc, t_OB.to (V := updV (vp_V (pm_fs H0.size M t a)) k (.int v)) ⟨_, g1, q2, q3, t_set q4 hap hk _⟩ (fun j _ => vp_updV_set hlen _ j)⟩ g3) g2 (hS.put g2 g3 (Nat.le_add_right _ _))
  rcases hfin with hfin | hfin
  · rw [if_neg (by rw [hfin]; decide)] at hlay
    have h6 := u_store hfc hkC hkind hlay hi hd (v := .int v) rfl rfl
    exact va_WputK hx hb (f := f) hown (va_Nw.use rfl (hK.2.2.1 _ hl rfl)) hi hst (by rw [q2]; exact h6) q1 q3 (by rw [hsl]; exact k2_hasslot (q4 k hk)) rfl rfl hdg fin
  · exact hfin.elim
end PMN
