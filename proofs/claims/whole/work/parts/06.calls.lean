section PMC
variable {p : Program} {l : Launch} {e : Env} {R : Room} {s : State} {m : MethodId} {args : Array Value} {below : List Frame} {meth : Method} {c : Code} {H : Heap} {locs : List Loc} {cells slots : Nat} {Q : State → Prop}
variable {cc : ByteArray} {pc nL : Nat} {own : String} {ls : Array Slot} {rest : List Value} {G : pm_G} {H0 : Heap} {M : pm_M} {a b t k index : Nat} {C : String} {T : u_T} {N : Nat} {i : Int32}
theorem pm_cell_sN {G : pm_G} {z : Nat} {M : pm_M} {b t n : Nat} (h : b < mZ M) : pm_cell G z (sN M t n) b = pm_cell G z M b := by
  have hb : ¬ b = mZ M := Nat.ne_of_lt h
  exact pm_cell_same (funext fun _ => if_neg hb) (funext fun _ => if_neg hb) (funext fun _ => if_neg hb) (if_neg hb) (if_neg hb)
theorem pm_pushed {E1 : va_E} {n : Nat} {H1 : Heap} (hI : pm_I G H0 M H locs) (hz : H1.size = H.size + 1) (ho : ∀ q, q < H.size → H1[q]? = H[q]?) (he : E1 = pm_cell G H0.size (sN M t n) (mZ M)) (hat : va_at G.1 vwCl (H0.size + mZ M, E1) H1) : pm_I G H0 (sN M t n) H1 locs := by
  obtain ⟨h1, hP, hS, hT⟩ := hI
  refine ⟨by rw [hz, h1]; rfl, ?_, ⟨Nat.le_trans hS.1 (by omega), fun q g1 g2 => ?_, hS.2.2⟩, pm_Tn hT⟩
  · rw [← pm_W_push (M' := sN M t n) rfl he (fun b hb => pm_cell_sN hb)]
    refine va_P.app (hP.kept fun k q hk => ho _ ((hP k q hk).lt)) (fun k q hk => ?_)
    have hk0 : k < 1 := (List.getElem?_eq_some_iff.mp hk).1
    rw [show k = 0 by omega] at hk
    cases hk
    exact hat
  · rw [ho q (Nat.lt_of_lt_of_le g1 hS.1)]
    exact hS.2.1 q g1 g2
theorem pm_new {ty : Nat → FieldType} (E : pm_E G p s m args meth c cc nL own) (hI : pm_I G H0 M H locs) (hc : vwCl[t]? = some (C, T, N)) (ht : t < 10) (hnf : pm_nf t = N) (hin : ∀ w ∈ u_ws C T N, w ∈ pm_tbl) (hty : ∀ k, k < N → parseFieldDescriptor (T k).2.2.1 = some (ty k)) (hdf : ∀ k, k < N → defaultValue (ty k) = if pm_rt t k = 99 then .int 0 else .null)
    (hcl : Cond.classLink own index C ∈ pm_tbl) (hinst : Cond.instantiable C N ∈ pm_tbl) (hini : Cond.initialized C ∈ pm_tbl) (hcells : cells + 1 ≤ R.cells) (hslots : slots + N ≤ R.slots) (hdg : decode cc pc = .ok (.new index, 3))
    (kk : ∀ H1 : Heap, pm_I G H0 (sN M t 0) H1 locs → W p l e R s m args below meth c H1 locs (cells + 1) (slots + N) Q (F0 m (pc + 3) ls (.ref (H0.size + mZ M) :: rest))) : W p l e R s m args below meth c H locs cells slots Q (F0 m pc ls rest) := by
  obtain ⟨hx, hb, hml, hown, hts, hK, hlk⟩ := E
  have hKn := hK.1.1 t _ hc
  have hsz : H.size = H0.size + mZ M := hI.1
  refine W.newcK hx hb hown (hts _ hcl) (hts _ hinst) (hts _ hini) rfl hdg hcells hslots hKn.2.1 hsz fun H1 kC hkC e1 z1 o1 => ?_
  refine kk H1 (pm_pushed hI (by rw [z1, hsz]) (fun q hq => o1 q (by rw [← hsz]; exact hq)) (pm_cell_o (show mT (sN M t 0) (mZ M) = t from if_pos rfl) ht).symm ?_)
  refine ⟨_, hc, (u_born ty hts hin hKn hkC e1 hty).to fun k hk => ?_⟩
  rw [hdf k hk]
  show _ = (pm_fs H0.size (sN M t 0) t (mZ M)).getD k .null
  rw [List.getD_eq_getElem?_getD, pm_fs_at (by rw [hnf]; exact hk)]
  show _ = pm_val _ _ _ _ _
  unfold pm_val
  have e3 : mI (sN M t 0) (mZ M) k = 0 := if_pos rfl
  have e4 : mR (sN M t 0) (mZ M) k = none := if_pos rfl
  rw [e3, e4]
  rfl
theorem pm_newa {atype : ArrayType} {ty : FieldType} (t0 : Nat) {nn : Int32} (E : pm_E G p s m args meth c cc nL own) (hI : pm_I G H0 M H locs) (hty : newarray.typeOf atype = ty) (hat : (pm_tys G)[t0]? = some (G.2 t, ty)) (ht : t = 10 ∨ t = 11 ∨ t = 12 ∨ t = 13) (hra : va_RA s (G.2 t) ty = (s.vm.findClass ("[" ++ ty.toString) = some (G.2 t)))
    (hdf : defaultValue ty = if t = 12 then .long 0 else .int 0) (harr : Cond.arrayClass ty ∈ pm_tbl) (hn : ¬ nn < 0) (hN : nn.toNatClampNeg = N) (hbytes : N * componentBytes ty ≤ 536870912) (hcells : cells + 1 ≤ R.cells) (hslots : slots + N ≤ R.slots) (hdg : decode cc pc = .ok (.newarray atype, 2))
    (kk : ∀ H1 : Heap, pm_I G H0 (sN M t N) H1 locs → W p l e R s m args below meth c H1 locs (cells + 1) (slots + N) Q (F0 m (pc + 2) ls (.ref (H0.size + mZ M) :: rest))) : W p l e R s m args below meth c H locs cells slots Q (F0 m pc ls (.int nn :: rest)) := by
  obtain ⟨hx, hb, hml, hown, hts, hK, hlk⟩ := E
  subst hty
  have hsz : H.size = H0.size + mZ M := hI.1
  refine va_newaK hx hb (hts _ harr) rfl hdg rfl hn hN hbytes hcells hslots hsz fun H1 cA e1 z1 o1 hAr hNm => ?_
  have hA := (hK.1.2 t0 _ hat).2
  dsimp only at hA
  rw [hra] at hA
  have hcA : cA = G.2 t := Option.some.inj (hNm.symm.trans hA)
  subst hcA
  have hz0 : mI (sN M t N) (mZ M) = fun _ => 0 := funext fun _ => if_pos rfl
  have hz1 : mL (sN M t N) (mZ M) = fun _ => 0 := funext fun _ => if_pos rfl
  have hz2 : mN (sN M t N) (mZ M) = N := if_pos rfl
  have hz3 : mT (sN M t N) (mZ M) = t := if_pos rfl
  by_cases h12 : t = 12
  · subst h12
    refine kk H1 (pm_pushed hI (by rw [z1, hsz]) (fun q hq => o1 q (by rw [← hsz]; exact hq)) rfl ?_)
    rw [pm_cell_l hz3, hz2, hz1]
    show H1[_]? = some (vp_cell _ _)
    rw [e1, vp_cell_l, hdf]
    rfl
  · refine kk H1 (pm_pushed hI (by rw [z1, hsz]) (fun q hq => o1 q (by rw [← hsz]; exact hq)) rfl ?_)
    rw [pm_cell_i hz3 (by omega), hz2, hz0]
    show H1[_]? = some (vp_cell _ _)
    rw [e1, vp_cell_i, hdf, if_neg h12]
/-! nullable references: loads, stores, tests -/
theorem pm_aload_n {kf : Fin 4} {x : Option Nat} (hexec : p.tables.exec = Jvm.exec) (hb : c.code = cc) (hdg : decode cc pc = .ok (.aload_n kf, 1)) (hi : (kf : Nat) = k) (hl : ls[k]? = some (.val (pm_rf H0.size x)))
    (kk : W p l e R s m args below meth c H locs cells slots Q (F0 m (pc + 1) ls (pm_rf H0.size x :: rest))) : W p l e R s m args below meth c H locs cells slots Q (F0 m pc ls rest) := by
  cases x with
  | none => exact lv_aload_nN hexec hb hdg hi hl kk
  | some q => exact lv_aload_n hexec hb hdg hi hl kk
theorem pm_aload {x : Option Nat} (hexec : p.tables.exec = Jvm.exec) (hb : c.code = cc) (hdg : decode cc pc = .ok (.aload k, 2)) (hl : ls[k]? = some (.val (pm_rf H0.size x)))
    (kk : W p l e R s m args below meth c H locs cells slots Q (F0 m (pc + 2) ls (pm_rf H0.size x :: rest))) : W p l e R s m args below meth c H locs cells slots Q (F0 m pc ls rest) := by
  cases x with
  | none => exact lv_aloadN hexec hb hdg hl kk
  | some q => exact lv_aload hexec hb hdg hl kk
theorem pm_astore_n {kf : Fin 4} {x : Option Nat} {lv lv' : List (Nat × Value)} (hexec : p.tables.exec = Jvm.exec) (hb : c.code = cc) (hdg : decode cc pc = .ok (.astore_n kf, 1)) (hi : (kf : Nat) = k) (h : lv_has ls nL lv) (hn : k < nL) (hl : (k, pm_rf H0.size x) :: lv.filter (fun q => !(q.1 == k) && !(q.1 + 1 == k && q.2.category == 2)) = lv')
    (kk : ∀ ls : Array Slot, lv_has ls nL lv' → W p l e R s m args below meth c H locs cells slots Q (F0 m (pc + 1) ls rest)) : W p l e R s m args below meth c H locs cells slots Q (F0 m pc ls (pm_rf H0.size x :: rest)) := by
  cases x with
  | none => exact lv_astore_nN hexec hb hdg hi h hn hl kk
  | some q => exact lv_astore_n hexec hb hdg hi h hn hl kk
theorem pm_astore {x : Option Nat} {lv lv' : List (Nat × Value)} (hexec : p.tables.exec = Jvm.exec) (hb : c.code = cc) (hdg : decode cc pc = .ok (.astore k, 2)) (h : lv_has ls nL lv) (hn : k < nL) (hl : (k, pm_rf H0.size x) :: lv.filter (fun q => !(q.1 == k) && !(q.1 + 1 == k && q.2.category == 2)) = lv')
    (kk : ∀ ls : Array Slot, lv_has ls nL lv' → W p l e R s m args below meth c H locs cells slots Q (F0 m (pc + 2) ls rest)) : W p l e R s m args below meth c H locs cells slots Q (F0 m pc ls (pm_rf H0.size x :: rest)) := by
  cases x with
  | none => exact lv_astoreN hexec hb hdg h hn hl kk
  | some q => exact lv_astore hexec hb hdg h hn hl kk
theorem pm_ifnull {x : Option Nat} {off : Int} {tgt : Nat} (hexec : p.tables.exec = Jvm.exec) (hb : c.code = cc) (hdg : decode cc pc = .ok (.ifnull off, 3)) (ht : (pc : Int) + off = (tgt : Int))
    (kt : x = none → W p l e R s m args below meth c H locs cells slots Q (F0 m tgt ls rest)) (kf : ∀ q, x = some q → W p l e R s m args below meth c H locs cells slots Q (F0 m (pc + 3) ls rest)) : W p l e R s m args below meth c H locs cells slots Q (F0 m pc ls (pm_rf H0.size x :: rest)) := by
  cases x with
  | none => exact lv_ifnullN hexec hb hdg ht (kt rfl)
  | some q => exact lv_ifnull hexec hb hdg (kf q rfl)
theorem pm_ifnonnull {x : Option Nat} {off : Int} {tgt : Nat} (hexec : p.tables.exec = Jvm.exec) (hb : c.code = cc) (hdg : decode cc pc = .ok (.ifnonnull off, 3)) (ht : (pc : Int) + off = (tgt : Int))
    (kt : ∀ q, x = some q → W p l e R s m args below meth c H locs cells slots Q (F0 m tgt ls rest)) (kf : x = none → W p l e R s m args below meth c H locs cells slots Q (F0 m (pc + 3) ls rest)) : W p l e R s m args below meth c H locs cells slots Q (F0 m pc ls (pm_rf H0.size x :: rest)) := by
  cases x with
  | none => exact lv_ifnonnullN hexec hb hdg (kf rfl)
  | some q => exact lv_ifnonnull hexec hb hdg ht (kt q rfl)
/-! contracts -/
def pm_Qc (G : pm_G) (H0 : Heap) (M : pm_M) (Post : Option Value → pm_M → Prop) : Array Value → State → Outcome → State → Prop := fun _ _ o t => ∃ (r : Option Value) (M' : pm_M), o = .returned r ∧ Post r M' ∧ pm_X M M' ∧ pm_I G H0 M' t.heap []
/-- the method y, called with these values at the memory M, ends; Post of what it gives and leaves -/
def pm_C (l : Launch) (G : pm_G) (H0 : Heap) (y : MethodName) (bytes : ByteArray) (maxL : Nat) (ret : Option FieldType) (rm : Room) (avs : List Value) (M : pm_M) (Post : Option Value → pm_M → Prop) : Prop :=
  Met l y [Cond.code y bytes maxL ret] rm (fun v U => v = avs.toArray ∧ pm_I G H0 M U.heap [] ∧ pm_K G U) (pm_Qc G H0 M Post) rm.cells rm.slots (fun q => H0.size ≤ q)
def pm_Z (G : pm_G) (H0 : Heap) (M : pm_M) (Post : Option Value → pm_M → Prop) (below : List Frame) (args : Array Value) (s : State) (mc ms : Nat) : State → Prop := MQ below (pm_Qc G H0 M Post) args s mc ms (fun q => H0.size ≤ q)
theorem pm_S0 {H0 H : Heap} {locs : List Loc} (h : va_S (fun q : Nat => H0.size ≤ q) H0 H locs) : va_S (fun q : Nat => H0.size ≤ q) H0 H [] := ⟨h.1, h.2.1, fun q hq => by cases hq⟩
theorem pm_I0 (h : pm_I G H0 M H locs) : pm_I G H0 M H [] := ⟨h.1, h.2.1, pm_S0 h.2.2.1, h.2.2.2⟩
theorem pm_start {y : MethodName} {bytes : ByteArray} {maxL : Nat} {ret : Option FieldType} {rm : Room} {avs : List Value} {Post : Option Value → pm_M → Prop} (hy : plainName y.cls = true) (hlen : (lg_sl avs).length ≤ maxL)
    (body : ∀ (p : Program) (e : Env) (s : State) (m : MethodId) (args : Array Value) (below : List Frame) (meth : Method) (c : Code) (H : Heap) (ls : Array Slot), pm_E G p s m args meth c bytes maxL y.cls → meth.sig.returnType = ret → meth.name = y.name → pm_I G H0 M H [] → lv_has ls maxL (lv_args 0 avs) →
      W p l e rm s m args below meth c H [] 0 0 (pm_Z G H0 M Post below args s rm.cells rm.slots) (F0 m 0 ls [])) : pm_C l G H0 y bytes maxL ret rm avs M Post := by
  refine Met.ofW (cc := bytes) (maxL := maxL) (ret := ret) hy rfl ?_
  intro p e s m args below meth c s₁ B hml hv
  obtain ⟨rfl, hI, hK⟩ := hv
  have hown : s.vm.findClass y.cls = some m.cls := findClass_of_methodNamed B.named
  have hl := lv_entry avs (n := maxL) hlen
  rw [lg_entry_eq]
  exact body p e s m _ below meth c s.heap _ ⟨B.exec, B.bytes, hml, hown, pm_tbl_ok hK, hK, B.notSynchronized⟩ B.returns (name_of_methodNamed B.named B.method).1 hI hl
theorem pm_end {cells slots mc ms : Nat} {M0 : pm_M} {Post : Option Value → pm_M → Prop} {r : Option Value} (hI : pm_I G H0 M H locs) (hX : pm_X M0 M) (hp : Post r M) : ∀ t : State, t.heap = H → s.WarmedH t.vm → pm_Qc G H0 M0 Post args s (.returned r) t := fun t ht _ => ⟨r, M, rfl, hp, hX, by rw [ht]; exact pm_I0 hI⟩
theorem pm_iret {mc ms : Nat} {M0 : pm_M} {Post : Option Value → pm_M → Prop} {v : Int32} (E : pm_E G p s m args meth c cc nL own) (hr : meth.sig.returnType = some .int) (hI : pm_I G H0 M H locs) (hX : pm_X M0 M) (hp : Post (some (.int v)) M) (hc : cells ≤ mc) (hs : slots ≤ ms) (hdg : decode cc pc = .ok (.ireturn, 1)) : W p l e R s m args below meth c H locs cells slots (pm_Z G H0 M0 Post below args s mc ms) (F0 m pc ls [.int v]) := by
  obtain ⟨hx, hb, hml, hown, hts, hK, hlk⟩ := E
  refine W.widen hc hs ?_
  exact W.iret hx hb hr (pm_end (cells := 0) (slots := 0) (mc := 0) (ms := 0) hI hX hp) (fun q hq => hI.2.2.1.2.2 q hq) hdg hlk
theorem pm_zret {mc ms : Nat} {M0 : pm_M} {Post : Option Value → pm_M → Prop} {v : Int32} (E : pm_E G p s m args meth c cc nL own) (hr : meth.sig.returnType = some .boolean) (hI : pm_I G H0 M H locs) (hX : pm_X M0 M) (hn : narrow .boolean (.int v) = .int v) (hp : Post (some (.int v)) M) (hc : cells ≤ mc) (hs : slots ≤ ms) (hdg : decode cc pc = .ok (.ireturn, 1)) : W p l e R s m args below meth c H locs cells slots (pm_Z G H0 M0 Post below args s mc ms) (F0 m pc ls [.int v]) := by
  obtain ⟨hx, hb, hml, hown, hts, hK, hlk⟩ := E
  refine W.widen hc hs ?_
  exact W.zret hx hb hr hn (pm_end (cells := 0) (slots := 0) (mc := 0) (ms := 0) hI hX hp) (fun q hq => hI.2.2.1.2.2 q hq) hdg hlk
theorem pm_lret {mc ms : Nat} {M0 : pm_M} {Post : Option Value → pm_M → Prop} {v : Int64} (E : pm_E G p s m args meth c cc nL own) (hr : meth.sig.returnType = some .long) (hI : pm_I G H0 M H locs) (hX : pm_X M0 M) (hp : Post (some (.long v)) M) (hc : cells ≤ mc) (hs : slots ≤ ms) (hdg : decode cc pc = .ok (.lreturn, 1)) : W p l e R s m args below meth c H locs cells slots (pm_Z G H0 M0 Post below args s mc ms) (F0 m pc ls [.long v]) := by
  obtain ⟨hx, hb, hml, hown, hts, hK, hlk⟩ := E
  refine W.widen hc hs ?_
  exact W.lret hx hb hr (pm_end (cells := 0) (slots := 0) (mc := 0) (ms := 0) hI hX hp) (fun q hq => hI.2.2.1.2.2 q hq) hdg hlk
theorem pm_vret {mc ms : Nat} {M0 : pm_M} {Post : Option Value → pm_M → Prop} (E : pm_E G p s m args meth c cc nL own) (hr : meth.sig.returnType = none) (hI : pm_I G H0 M H locs) (hX : pm_X M0 M) (hp : Post none M) (hc : cells ≤ mc) (hs : slots ≤ ms) (hdg : decode cc pc = .ok (.return_, 1)) : W p l e R s m args below meth c H locs cells slots (pm_Z G H0 M0 Post below args s mc ms) (F0 m pc ls []) := by
  obtain ⟨hx, hb, hml, hown, hts, hK, hlk⟩ := E
  refine W.widen hc hs ?_
  exact W.vret hx hb hr (pm_end (cells := 0) (slots := 0) (mc := 0) (ms := 0) hI hX hp) (fun q hq => hI.2.2.1.2.2 q hq) hdg hlk
theorem pm_aret {mc ms : Nat} {M0 : pm_M} {Post : Option Value → pm_M → Prop} {x : Option Nat} {nm : String} (E : pm_E G p s m args meth c cc nL own) (hr : meth.sig.returnType = some (.object nm)) (hI : pm_I G H0 M H locs) (hX : pm_X M0 M) (hp : Post (some (pm_rf H0.size x)) M) (hc : cells ≤ mc) (hs : slots ≤ ms) (hdg : decode cc pc = .ok (.areturn, 1)) : W p l e R s m args below meth c H locs cells slots (pm_Z G H0 M0 Post below args s mc ms) (F0 m pc ls [pm_rf H0.size x]) := by
  obtain ⟨hx, hb, hml, hown, hts, hK, hlk⟩ := E
  refine W.widen hc hs ?_
  exact W.aret hx hb hr (Or.inl ⟨_, rfl⟩) (by cases x; exact Or.inl rfl; exact Or.inr ⟨_, rfl⟩) (pm_end (cells := 0) (slots := 0) (mc := 0) (ms := 0) hI hX hp) (fun q hq => hI.2.2.1.2.2 q hq) hdg hlk
/-! calls -/
theorem pm_go {mc ms : Nat} {g : JFrame} {as : Array Value} {Post : Option Value → pm_M → Prop} (hI : pm_I G H0 M H locs) (hr : CallRun p l e R s m args below meth c H locs cells slots mc ms g rest (pm_Qc G H0 M Post as) (fun q => H0.size ≤ q))
    (kk : ∀ (r : Option Value) (M' : pm_M) (H1 : Heap) (locs1 : List Loc), Post r M' → pm_X M M' → pm_I G H0 M' H1 locs1 → W p l e R s m args below meth c H1 locs1 (cells + mc) (slots + ms) Q { g with pc := g.pc + 3, stack := r.toList ++ rest }) : W p l e R s m args below meth c H locs cells slots Q g := by
  intro T hT X
  obtain ⟨v, st₀, t, T', L, h0, X', hL, e1, ⟨r, M', er, hp, hX, hI'⟩, st⟩ := hr T hT X
  cases er
  obtain ⟨t2, a1, b1⟩ := kk v M' t.heap (locs ++ L) hp hX ⟨hI'.1, hI'.2.1, ⟨hI'.2.2.1.1, hI'.2.2.1.2.1, fun q hq => (List.mem_append.mp hq).elim (hI.2.2.1.2.2 q) (hL q)⟩, hI'.2.2.2⟩ T' e1 X'
  exact ⟨t2, st t2 a1, b1⟩
theorem pm_good {w : Cond} (h : w ∈ pm_tbl) : GoodIn pm_tbl [w] := by
  intro x hx
  rw [List.mem_singleton.mp hx]
  exact ⟨h, good_of_word (List.mem_filter.mp h).2⟩
theorem pm_recv (E : pm_E G p s m args meth c cc nL own) (hI : pm_I G H0 M H locs) (ha : pm_is M a t) (hc : vwCl[t]? = some (C, T, N)) (ht : t < 10) : ∃ cell : Cell, H[H0.size + a]? = some cell ∧ cell.vm.isStatics = false ∧ s.vm.findClass C = some cell.cls := by
  obtain ⟨hx, hb, hml, hown, hts, hK, hlk⟩ := E
  have he : (pm_W G H0.size M)[a]? = some (H0.size + a, .inr (t, pm_fs H0.size M t a)) := by rw [pm_get ha.1, pm_cell_o ha.2 ht]
  exact va_recv hK.1 hI.2.1 hc he
theorem pm_pre {s : State} {avs : List Value} (hK : pm_K G s) (hI : pm_I G H0 M H locs) : FrameBlind (fun v U => v = avs.toArray ∧ pm_I G H0 M U.heap [] ∧ pm_K G U) ∧ ∀ U : State, U.heap = H → s.WarmedH U.vm → (avs.toArray = avs.toArray ∧ pm_I G H0 M U.heap [] ∧ pm_K G U) := by
  refine ⟨fun a U g mk q => ⟨q.1, q.2.1, pm_K.warm (U := U.calling g mk a) (State.WarmedH.refl U) q.2.2⟩, fun U hU hW => ⟨rfl, by rw [hU]; exact pm_I0 hI, hK.warm hW⟩⟩
end PMC
