section PMD
variable {p : Program} {l : Launch} {e : Env} {R : Room} {s : State} {m : MethodId} {args : Array Value} {below : List Frame} {meth : Method} {c : Code} {H : Heap} {locs : List Loc} {cells slots : Nat} {Q : State → Prop}
variable {cc bytes : ByteArray} {pc nL maxL index : Nat} {own : String} {ls : Array Slot} {rest As stk : List Value} {G : pm_G} {H0 : Heap} {M : pm_M} {a b t k : Nat} {C : String} {T : u_T} {N : Nat} {y : MethodName} {ret : Option FieldType} {rm : Room} {Post : Option Value → pm_M → Prop}
/-- a method of the receiver's own class (private, or found by its name) -/
theorem pm_callV (n : Nat) (E : pm_E G p s m args meth c cc nL own) (hI : pm_I G H0 M H locs) (hC : pm_C l G H0 y bytes maxL ret rm (.ref (H0.size + b) :: As) M Post) (hb : pm_is M b t) (ht : t < 10) (hc : vwCl[t]? = some (C, T, N)) (hcode : Cond.code y bytes maxL ret ∈ pm_tbl) (hl : Cond.methodLink own index y ∈ pm_tbl) (hin : Cond.instanceMethod y ∈ pm_tbl) (hsel : Cond.selects C y y ∈ pm_tbl) (hini : Cond.initialized C ∈ pm_tbl)
    (hd : y.cls = C ∧ y.cls ≠ "java/lang/invoke/MethodHandle" ∧ y.cls ≠ "java/lang/invoke/VarHandle" ∧ (parseMethodDescriptor y.desc).map (fun d => d.parameters.length) = some n) (hR : rm.frames + 1 ≤ R.frames ∧ 8 + (maxL + 11) + rm.locals ≤ R.locals) (hn : As.length = n) (hls : ls.size = nL) (hstk : stk = As.reverse ++ .ref (H0.size + b) :: rest) (hW : (rest.map fun v => v.category).sum ≤ 8) (hdg : decode cc pc = .ok (.invokevirtual index, 3)) (hf : cells + rm.cells ≤ R.cells ∧ slots + rm.slots ≤ R.slots)
    (kk : ∀ (r : Option Value) (M' : pm_M) (H1 : Heap) (locs1 : List Loc), Post r M' → pm_X M M' → pm_I G H0 M' H1 locs1 → W p l e R s m args below meth c H1 locs1 (cells + rm.cells) (slots + rm.slots) Q (F0 m (pc + 3) ls (r.toList ++ rest))) : W p l e R s m args below meth c H locs cells slots Q (F0 m pc ls stk) := by
  have hrecv := pm_recv E hI hb hc ht
  obtain ⟨hx, hbb, hml, hown, hts, hK, hlk⟩ := E
  have hpre := pm_pre (avs := .ref (H0.size + b) :: As) hK hI
  subst hstk
  have hsub : GoodIn pm_tbl (wsV own index C y [Cond.code y bytes maxL ret]) := by
    intro w hw
    have hm : w ∈ pm_tbl := by
      simp only [wsV, List.mem_append, List.mem_cons, List.not_mem_nil, or_false] at hw
      rcases hw with (rfl | rfl | rfl | rfl) | rfl <;> assumption
    exact ⟨hm, good_of_word (List.mem_filter.mp hm).2⟩
  refine pm_go hI (W.runV (C := C) ⟨hx, hbb, hml, hown, hts⟩ hC (cwV n hts hsub rfl rfl rfl hd hR) ⟨hpre.1, hrecv, hpre.2⟩ rfl hn hls rfl (by show 2 * 0 + _ ≤ 8; omega) hdg hf) kk
theorem pm_callI (n : Nat) (E : pm_E G p s m args meth c cc nL own) (hI : pm_I G H0 M H locs) (hC : pm_C l G H0 y bytes maxL none rm (.ref (H0.size + b) :: As) M Post) (hcode : Cond.code y bytes maxL none ∈ pm_tbl) (hl : Cond.methodLink own index y ∈ pm_tbl) (hin : Cond.instanceMethod y ∈ pm_tbl) (hini : Cond.initialized y.cls ∈ pm_tbl) (hnm : y.name = "<init>")
    (hd : y.cls ≠ "java/lang/invoke/MethodHandle" ∧ y.cls ≠ "java/lang/invoke/VarHandle" ∧ (parseMethodDescriptor y.desc).map (fun d => d.parameters.length) = some n) (hR : rm.frames + 1 ≤ R.frames ∧ 8 + (maxL + 11) + rm.locals ≤ R.locals) (hn : As.length = n) (hls : ls.size = nL) (hstk : stk = As.reverse ++ .ref (H0.size + b) :: rest) (hW : (rest.map fun v => v.category).sum ≤ 8) (hdg : decode cc pc = .ok (.invokespecial index, 3)) (hf : cells + rm.cells ≤ R.cells ∧ slots + rm.slots ≤ R.slots)
    (kk : ∀ (r : Option Value) (M' : pm_M) (H1 : Heap) (locs1 : List Loc), Post r M' → pm_X M M' → pm_I G H0 M' H1 locs1 → W p l e R s m args below meth c H1 locs1 (cells + rm.cells) (slots + rm.slots) Q (F0 m (pc + 3) ls (r.toList ++ rest))) : W p l e R s m args below meth c H locs cells slots Q (F0 m pc ls stk) := by
  obtain ⟨hx, hbb, hml, hown, hts, hK, hlk⟩ := E
  have hpre := pm_pre (avs := .ref (H0.size + b) :: As) hK hI
  subst hstk
  exact pm_go hI (W.runI ⟨hx, hbb, hml, hown, hts⟩ hC (cwI n hts (pm_good hcode) rfl rfl rfl (hts _ hini) (hts _ hl) (hts _ hin) hnm hd hR) hpre rfl hn hls rfl (by show 2 * 0 + _ ≤ 8; omega) hdg hf) kk
theorem pm_run {mc ms : Nat} {g : JFrame} {Qa : State → Outcome → State → Prop} {free : Addr → Prop} (h : va_Run p l e R s m args below meth c H locs cells slots mc ms g rest Qa free) : CallRun p l e R s m args below meth c H locs cells slots mc ms g rest Qa free := by
  intro T hT X
  obtain ⟨v, st₀, t, T', L, h0, X', hL, e1, e2, hq, st⟩ := h T hT X
  exact ⟨v, st₀, t, T', L, h0, X', hL, e1, hq, st⟩
theorem pm_callIN {host : String} (n : Nat) (E : pm_E G p s m args meth c cc nL own) (hI : pm_I G H0 M H locs) (hC : pm_C l G H0 y bytes maxL none rm (.ref (H0.size + b) :: As) M Post) (hcode : Cond.code y bytes maxL none ∈ pm_tbl) (hl : Cond.methodLinkNest own index y host ∈ lw_tbl) (hin : Cond.instanceMethod y ∈ pm_tbl) (hini : Cond.initialized y.cls ∈ pm_tbl) (hnm : y.name = "<init>")
    (hd : y.cls ≠ "java/lang/invoke/MethodHandle" ∧ y.cls ≠ "java/lang/invoke/VarHandle" ∧ (parseMethodDescriptor y.desc).map (fun d => d.parameters.length) = some n) (hR : rm.frames + 1 ≤ R.frames ∧ 8 + (maxL + 11) + rm.locals ≤ R.locals) (hn : As.length = n) (hls : ls.size = nL) (hstk : stk = As.reverse ++ .ref (H0.size + b) :: rest) (hW : (rest.map fun v => v.category).sum ≤ 8) (hdg : decode cc pc = .ok (.invokespecial index, 3)) (hf : cells + rm.cells ≤ R.cells ∧ slots + rm.slots ≤ R.slots)
    (kk : ∀ (r : Option Value) (M' : pm_M) (H1 : Heap) (locs1 : List Loc), Post r M' → pm_X M M' → pm_I G H0 M' H1 locs1 → W p l e R s m args below meth c H1 locs1 (cells + rm.cells) (slots + rm.slots) Q (F0 m (pc + 3) ls (r.toList ++ rest))) : W p l e R s m args below meth c H locs cells slots Q (F0 m pc ls stk) := by
  obtain ⟨hx, hbb, hml, hown, hts, hK, hlk⟩ := E
  have hpre := pm_pre (avs := .ref (H0.size + b) :: As) hK hI
  subst hstk
  exact pm_go hI (pm_run (va_runIN ⟨hx, hbb, hml, hown, hts⟩ hC ⟨va_cnB n hts (pm_good hcode) rfl rfl rfl (hK.2.2.1 _ hl rfl) (hts _ hini) hd hR, hnm, hts _ hin⟩ hpre rfl hn hls rfl (by show 2 * 0 + _ ≤ 8; omega) hdg hf)) kk
theorem pm_callS (n : Nat) (E : pm_E G p s m args meth c cc nL own) (hI : pm_I G H0 M H locs) (hC : pm_C l G H0 y bytes maxL ret rm As M Post) (hcode : Cond.code y bytes maxL ret ∈ pm_tbl) (hl : Cond.methodLink own index y ∈ pm_tbl) (hst : Cond.static y ∈ pm_tbl) (hini : Cond.initialized y.cls ∈ pm_tbl)
    (hd : y.cls ≠ "java/lang/invoke/MethodHandle" ∧ y.cls ≠ "java/lang/invoke/VarHandle" ∧ (parseMethodDescriptor y.desc).map (fun d => d.parameters.length) = some n) (hR : rm.frames + 1 ≤ R.frames ∧ 8 + (maxL + 11) + rm.locals ≤ R.locals) (hn : As.length = n) (hls : ls.size = nL) (hstk : stk = As.reverse ++ rest) (hW : (rest.map fun v => v.category).sum ≤ 8) (hdg : decode cc pc = .ok (.invokestatic index, 3)) (hf : cells + rm.cells ≤ R.cells ∧ slots + rm.slots ≤ R.slots)
    (kk : ∀ (r : Option Value) (M' : pm_M) (H1 : Heap) (locs1 : List Loc), Post r M' → pm_X M M' → pm_I G H0 M' H1 locs1 → W p l e R s m args below meth c H1 locs1 (cells + rm.cells) (slots + rm.slots) Q (F0 m (pc + 3) ls (r.toList ++ rest))) : W p l e R s m args below meth c H locs cells slots Q (F0 m pc ls stk) := by
  obtain ⟨hx, hbb, hml, hown, hts, hK, hlk⟩ := E
  have hpre := pm_pre (avs := As) hK hI
  subst hstk
  exact pm_go hI (W.runS ⟨hx, hbb, hml, hown, hts⟩ hC ⟨callB_of n hts (pm_good hcode) rfl rfl rfl (hts _ hini) (hts _ hl) hd hR, hts _ hst⟩ hpre rfl hn hls rfl (by show 2 * 0 + _ ≤ 8; omega) hdg hf) kk
theorem pm_callF (n : Nat) {x : MethodName} {count : Nat} (E : pm_E G p s m args meth c cc nL own) (hI : pm_I G H0 M H locs) (hC : pm_C l G H0 y bytes maxL ret rm (.ref (H0.size + b) :: As) M Post) (hb : pm_is M b t) (ht : t < 10) (hc : vwCl[t]? = some (C, T, N)) (hFw : va_Fw C x y s) (hcode : Cond.code y bytes maxL ret ∈ pm_tbl) (hl : Cond.methodLink own index x ∈ pm_tbl) (hin : Cond.instanceMethod y ∈ pm_tbl) (hsel : Cond.selects C x y ∈ pm_tbl) (hini : Cond.initialized y.cls ∈ pm_tbl)
    (hd : x.cls ≠ "java/lang/invoke/MethodHandle" ∧ x.cls ≠ "java/lang/invoke/VarHandle" ∧ (parseMethodDescriptor x.desc).map (fun d => d.parameters.length) = some n) (hR : rm.frames + 1 ≤ R.frames ∧ 8 + (maxL + 11) + rm.locals ≤ R.locals) (hn : As.length = n) (hls : ls.size = nL) (hstk : stk = As.reverse ++ .ref (H0.size + b) :: rest) (hW : (rest.map fun v => v.category).sum ≤ 8) (hdg : decode cc pc = .ok (.invokeinterface index count, 5)) (hf : cells + rm.cells ≤ R.cells ∧ slots + rm.slots ≤ R.slots)
    (kk : ∀ (r : Option Value) (M' : pm_M) (H1 : Heap) (locs1 : List Loc), Post r M' → pm_X M M' → pm_I G H0 M' H1 locs1 → W p l e R s m args below meth c H1 locs1 (cells + rm.cells) (slots + rm.slots) Q (F0 m (pc + 5) ls (r.toList ++ rest))) : W p l e R s m args below meth c H locs cells slots Q (F0 m pc ls stk) := by
  have hrecv := pm_recv E hI hb hc ht
  obtain ⟨hx, hbb, hml, hown, hts, hK, hlk⟩ := E
  have hpre := pm_pre (avs := .ref (H0.size + b) :: As) hK hI
  subst hstk
  have hsub : GoodIn pm_tbl (va_wsF own index C x y [Cond.code y bytes maxL ret]) := by
    intro w hw
    have hm : w ∈ pm_tbl := by
      simp only [va_wsF, List.mem_append, List.mem_cons, List.not_mem_nil, or_false] at hw
      rcases hw with (rfl | rfl | rfl | rfl) | rfl <;> assumption
    exact ⟨hm, good_of_word (List.mem_filter.mp hm).2⟩
  have hr := va_runF (e := e) (below := below) (meth := meth) (locs := locs) (C := C) (hK.1.1 t _ hc).2 ⟨hx, hbb, hml, hown, hts⟩ hC (va_cwF n hts hsub rfl rfl rfl hFw hd hR) ⟨hpre.1, hrecv, hpre.2⟩ (g := F0 m pc ls (As.reverse ++ .ref (H0.size + b) :: rest)) (rest := rest) rfl hn hls rfl (by show 2 * 0 + _ ≤ 8; omega) hdg hf
  intro T hT X
  obtain ⟨v, st₀, t, T', L, h0, X', hL, e1, e2, ⟨r, M', er, hp, hX, hI'⟩, st⟩ := hr T hT X
  cases er
  obtain ⟨t2, a1, b1⟩ := kk v M' t.heap (locs ++ L) hp hX ⟨hI'.1, hI'.2.1, ⟨hI'.2.2.1.1, hI'.2.2.1.2.1, fun q hq => (List.mem_append.mp hq).elim (hI.2.2.1.2.2 q) (hL q)⟩, hI'.2.2.2⟩ T' e1 X'
  exact ⟨t2, st t2 a1, b1⟩
theorem pm_objInit (E : pm_E G p s m args meth c cc nL own) (hls : ls.size = nL) (hl : Cond.methodLink own index Lib.objectInit ∈ pm_tbl) (hin : Cond.instanceMethod Lib.objectInit ∈ pm_tbl) (hcode : Cond.code Lib.objectInit ⟨#[0xb1]⟩ 1 none ∈ pm_tbl) (hdg : decode cc pc = .ok (.invokespecial index, 3)) (hfr : 1 ≤ R.frames) (hlo : (rest.map fun v => v.category).sum + 12 ≤ R.locals)
    (kk : W p l e R s m args below meth c H locs cells slots Q (F0 m (pc + 3) ls rest)) : W p l e R s m args below meth c H locs cells slots Q (F0 m pc ls (.ref a :: rest)) := by
  obtain ⟨hx, hbb, hml, hown, hts, hK, hlk⟩ := E
  exact W.objInit hx hbb hown (hts _ hl) (hts _ hin) (hts _ hcode) rfl (hls.trans hml.symm) rfl hdg hfr (by show 2 * 0 + _ + 12 ≤ _; omega) kk
theorem pm_anew {nn : Int32} (t0 : Nat) (E : pm_E G p s m args meth c cc nL own) (hI : pm_I G H0 M H locs) (hat : (pm_tys G)[t0]? = some (G.2 t, .object C)) (ht : t = 14 ∨ t = 15) (hcl : Cond.classLink own index C ∈ pm_tbl) (hov : va_AO C s) (hn : ¬ nn < 0) (hN : nn.toNatClampNeg = N) (hbytes : N * 4 ≤ 536870912) (hcells : cells + 1 ≤ R.cells) (hslots : slots + N ≤ R.slots) (hdg : decode cc pc = .ok (.anewarray index, 3))
    (kk : ∀ H1 : Heap, pm_I G H0 (sN M t N) H1 locs → W p l e R s m args below meth c H1 locs (cells + 1) (slots + N) Q (F0 m (pc + 3) ls (.ref (H0.size + mZ M) :: rest))) : W p l e R s m args below meth c H locs cells slots Q (F0 m pc ls (.int nn :: rest)) := by
  obtain ⟨hx, hb, hml, hown, hts, hK, hlk⟩ := E
  subst hN
  have hsz : H.size = H0.size + mZ M := hI.1
  refine W.anew hx hb hown (hts _ hcl) (va_AO.use hov) rfl hdg rfl hn hbytes hcells hslots fun cA kA comp h1 h2 h3 h4 => ?_
  obtain ⟨kA', comp', -, -, -, hA⟩ := (hK.1.2 t0 _ hat).2
  have hcA : cA = G.2 t := Option.some.inj (h1.symm.trans hA)
  subst hcA
  refine W.eq (g2 := F0 m (pc + 3) ls (.ref (H0.size + mZ M) :: rest)) (by rw [hsz]) (kk _ (pm_pushed hI (by simp) (fun q hq => by rw [Array.getElem?_push, if_neg (Nat.ne_of_lt hq)]) rfl ?_))
  have hz0 : mR (sN M t nn.toNatClampNeg) (mZ M) = fun _ => none := funext fun _ => if_pos rfl
  have hz2 : mN (sN M t nn.toNatClampNeg) (mZ M) = nn.toNatClampNeg := if_pos rfl
  have hz3 : mT (sN M t nn.toNatClampNeg) (mZ M) = t := if_pos rfl
  rw [pm_cell_r hz3 (by omega), hz2, hz0]
  show (H.push _)[_]? = some (vp_cell _ _)
  rw [vp_cell_q, ← hsz, Array.getElem?_push, if_pos rfl, arrV_new]
  rfl
end PMD
