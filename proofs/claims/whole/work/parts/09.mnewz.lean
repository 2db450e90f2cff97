section PMN2
variable {p : Program} {l : Launch} {e : Env} {R : Room} {s : State} {m : MethodId} {args : Array Value} {below : List Frame} {meth : Method} {c : Code} {H : Heap} {locs : List Loc} {cells slots : Nat} {Q : State → Prop}
variable {cc : ByteArray} {pc nL index : Nat} {ls : Array Slot} {rest : List Value} {G : pm_G} {H0 : Heap} {M : pm_M} {T : State}
theorem mn_step (X : Stand p l e R s m args below meth c T locs cells slots) (hexec : p.tables.exec = Jvm.exec) {own : String} {cA cI cc : ClassId} {kA kC : Class} (hown : s.vm.findClass own = some m.cls) (hclink : (Cond.classLink own index "[[I").before args s = true)
    (hnameA : s.vm.findClass "[[I" = some cA) (hkA : s.vm.classes[cA]? = some kA) (hkindA : kA.kind = .array cI (.array .int)) (hkC : s.vm.classes[cI]? = some kC) (hkindC : kC.kind = .array cc .int)
    {g : JFrame} (hg : g.method = m) (hdg : decode c.code g.pc = .ok (.multianewarray index 2, 4)) {rest : List Value} (hstack : g.stack = .int 6 :: .int 12 :: rest) (hcells : cells + 13 ≤ R.cells) (hslots : slots + 84 ≤ R.slots) :
    ∃ vm₁ : Vm, Stand p l e R s m args below meth c (mf (T.setVm vm₁) cA cI 12) locs (cells + 13) (slots + 84) ∧
      ∀ target, Steps p.tables e below ((mf (T.setVm vm₁) cA cI 12).setTop { g with pc := g.pc + 4, stack := .ref T.heap.size :: rest }) target → Steps p.tables e below (T.setTop g) target := by
  subst hg
  have hpl : e.platform.magicAccessors = ({} : Platform).magicAccessors := by rw [X.admits.platform]
  obtain ⟨c0, hfc0, hcl⟩ := Cond.classLink_spec hown hclink e.platform hpl
  cases hnameA.symm.trans hfc0
  obtain ⟨hg₁, hwarm₁, hready₁⟩ := State.classEntry (e := e) X.warmed hcl
  generalize T.vm.noted g.method.cls index (.cls cA) = vm₁ at hg₁ hwarm₁ hready₁
  have hal : s.vm.Alike vm₁ := hwarm₁.alike
  obtain ⟨kA₁, hkA₁, heA⟩ := hal.2.2 _ _ hkA
  obtain ⟨kC₁, hkC₁, heC⟩ := hal.2.2 _ _ hkC
  have hkindA₁ : kA₁.kind = .array cI (.array .int) := by rw [heA]; exact hkindA
  have hkindC₁ : kC₁.kind = .array cc .int := by rw [heC]; exact hkindC
  have X₁ := X.noted hwarm₁
  obtain ⟨hr1, hr2⟩ := X.roomAbove (a := 13) (b := 84) hcells hslots
  have XF := mn_stand X₁ cA cI 12
  refine ⟨vm₁, XF, fun target hrest => ?_⟩
  have hl1 : ¬ 12 > e.platform.arrayLengthLimit := by rw [Launch.admits_arrayLengthLimit X.admits]; omega
  have hh1 : ¬ 12 * componentBytes (.array .int) > e.platform.maxHeapBytes := by rw [Launch.admits_maxHeapBytes X.admits]; decide
  have hl2 : ¬ 6 > e.platform.arrayLengthLimit := by rw [Launch.admits_arrayLengthLimit X.admits]; omega
  have hh2 : ¬ 6 * componentBytes .int > e.platform.maxHeapBytes := by rw [Launch.admits_maxHeapBytes X.admits]; decide
  jvm_step X.here [hexec, hdg]
  simp only [multianewarray.sem, wp_bind', Jvm.W.resolveClassAt_links (State.method?_setTop g X.here.top) hg₁]
  rw [Jvm.W.popN, if_neg (by decide)]
  refine ⟨g, State.topJava?_setTop' (s := T.setVm vm₁) g X.here.top, [.int 12, .int 6], rest, rfl, hstack, ?_⟩
  simp only [List.mapM_cons, List.mapM_nil, wp_bind', wp_pure']
  refine mn_make2 hkA₁ hkindA₁ hkC₁ hkindC₁ hl1 hh1 hl2 hh2 (by show T.heap.size + 1 + _ ≤ _; omega) (by show T.slotsUsed + _ + _ ≤ _; omega) (fun d' acts' => ?_)
  have eS : ((T.setTop g).setVm vm₁).setTop { g with stack := rest } = (T.setVm vm₁).setTop { g with stack := rest } := by
    show ((T.setVm vm₁).setTop g).setTop _ = _
    rw [State.setTop_setTop]
  rw [eS, mf_top]
  simp only [wp_bind', Jvm.W.mark, Jvm.W.pushRef, State.topJava?_setTop' _ XF.here.top, Option.some.injEq, exists_eq_left', State.setTop_setTop, State.heap_setTop]
  intro acts
  simp [jvm, XF.here.top]
  exact hrest
theorem sM_old {n k b : Nat} (h : b < mZ M) : pm_cell G H0.size (sM M n k) b = pm_cell G H0.size M b := by
  have hb : ¬ mZ M ≤ b := Nat.not_le.mpr h
  exact pm_cell_same (funext fun _ => if_neg hb) (funext fun _ => if_neg hb) (funext fun _ => if_neg hb) (if_neg hb) (if_neg hb)
theorem pm_mnew (E : pm_E G p s m args meth c cc nL RX8) (hI : pm_I G H0 M H locs) (hl : Cond.classLink RX8 index "[[I" ∈ pm_tbl) (hcells : cells + 13 ≤ R.cells) (hslots : slots + 84 ≤ R.slots) (hdg : decode cc pc = .ok (.multianewarray index 2, 4))
    (kk : ∀ (H1 : Heap) (M1 : pm_M), M1 = sM M 12 6 → pm_X M M1 → pm_is M1 (mZ M) 16 → pm_I G H0 M1 H1 locs → W p l e R s m args below meth c H1 locs (cells + 13) (slots + 84) Q (F0 m (pc + 4) ls (.ref (H0.size + mZ M) :: rest))) : W p l e R s m args below meth c H locs cells slots Q (F0 m pc ls (.int 6 :: .int 12 :: rest)) := by
  obtain ⟨hx, hb, hml, hown, hts, hK, hlk⟩ := E
  obtain ⟨kA, hkA, hkindA⟩ := hK.2.2.2.2.2.2
  have hnameA : s.vm.findClass "[[I" = some (G.2 16) := (hK.1.2 6 _ rfl).2
  obtain ⟨-, kC, hkC, cc', hkindC⟩ := (hK.1.2 1 _ rfl).1 0 (fun _ => .null)
  obtain ⟨hsz, hP, hS, hT⟩ := hI
  intro T hTH X
  obtain ⟨vm₁, X', step⟩ := mn_step X hx hown (hts _ hl) hnameA hkA hkindA hkC hkindC (g := F0 m pc ls (.int 6 :: .int 12 :: rest)) rfl (by rw [hb]; exact hdg) rfl hcells hslots
  obtain ⟨f1, f2, -, -⟩ := mf_facts (T.setVm vm₁) (G.2 16) (G.2 11) 12
  have hTh : (T.setVm vm₁).heap = H := hTH
  have fo : ∀ q, q < H.size → (mf (T.setVm vm₁) (G.2 16) (G.2 11) 12).heap[q]? = H[q]? := fun q hq => by
    rw [mf_old (T.setVm vm₁) (G.2 16) (G.2 11) (a := q) (by rw [hTh]; exact hq) 12, hTh]
  have fr : ∀ j, j < 12 → (mf (T.setVm vm₁) (G.2 16) (G.2 11) 12).heap[H.size + 1 + j]? = some (mi (G.2 11)) := fun j hj => by
    have := mf_row (T.setVm vm₁) (G.2 16) (G.2 11) 12 j hj
    rw [hTh] at this
    exact this
  rw [hTh] at f1 f2
  generalize mf (T.setVm vm₁) (G.2 16) (G.2 11) 12 = F at X' step f1 f2 fo fr
  have hX1 : pm_X M (sM M 12 6) := pm_X.m
  have hI1 : pm_I G H0 (sM M 12 6) F.heap locs := by
    refine ⟨by rw [f1, hsz]; show _ = H0.size + (mZ M + 1 + 12); omega, fun k q hk => ?_, ⟨Nat.le_trans hS.1 (by rw [f1]; omega), fun q g1 g2 => ?_, hS.2.2⟩, fun a k b ha hr => ?_⟩
    · obtain ⟨hkz, rfl⟩ := pm_get' hk
      by_cases h1 : k < mZ M
      · rw [sM_old h1]
        exact (hP k _ (pm_get h1)).kept (fo _ (by rw [hsz]; show H0.size + k < _; omega))
      · by_cases h2 : k = mZ M
        · subst h2
          have hT1 : mT (sM M 12 6) (mZ M) = 16 := by show (if mZ M ≤ mZ M then (if mZ M = mZ M then 16 else 11) else _) = 16; simp
          have hN1 : mN (sM M 12 6) (mZ M) = 12 := by show (if mZ M ≤ mZ M then (if mZ M = mZ M then 12 else 6) else _) = 12; simp
          rw [pm_cell_r hT1 (by decide), hN1]
          show F.heap[H0.size + mZ M]? = some (vp_cell _ _)
          rw [← hsz, f2, vp_cell_q]
          unfold mo
          congr 2
          funext j
          have hR1 : mR (sM M 12 6) (mZ M) j = if j < 12 then some (mZ M + 1 + j) else none := by show (if mZ M ≤ mZ M then (if mZ M = mZ M ∧ j < 12 then some (mZ M + 1 + j) else none) else _) = _; simp
          rw [hR1, hsz]
          by_cases hj : j < 12
          · rw [if_pos hj, if_pos hj]
            show Value.ref (H0.size + mZ M + 1 + j) = Value.ref (H0.size + (mZ M + 1 + j))
            rw [show H0.size + mZ M + 1 + j = H0.size + (mZ M + 1 + j) by omega]
          · rw [if_neg hj, if_neg hj]
            rfl
        · have hkz' : k < mZ M + 1 + 12 := hkz
          have hT1 : mT (sM M 12 6) k = 11 := by show (if mZ M ≤ k then (if k = mZ M then 16 else 11) else _) = 11; rw [if_pos (by omega), if_neg h2]
          have hN1 : mN (sM M 12 6) k = 6 := by show (if mZ M ≤ k then (if k = mZ M then 12 else 6) else _) = 6; rw [if_pos (by omega), if_neg h2]
          have hI0 : mI (sM M 12 6) k = fun _ => 0 := by funext j; show (if mZ M ≤ k then 0 else _) = (0 : Int32); rw [if_pos (by omega)]
          rw [pm_cell_i hT1 (by decide), hN1, hI0]
          show F.heap[H0.size + k]? = some (vp_cell _ _)
          rw [show H0.size + k = H.size + 1 + (k - mZ M - 1) by omega, fr _ (by omega), vp_cell_i]
          rfl
    · rw [fo q (Nat.lt_of_lt_of_le g1 hS.1)]
      exact hS.2.1 q g1 g2
    · by_cases h1 : a < mZ M
      · have h2 : mR M a k = some b := by rw [← hr]; exact (if_neg (Nat.not_le.mpr h1)).symm
        have h3 := (hT a k b h1 h2).x hX1
        rw [(hX1.2 a h1).1]
        exact h3
      · have hr2 : (if a = mZ M ∧ k < 12 then some (mZ M + 1 + k) else none) = some b := by
          rw [← hr]
          exact (if_pos (Nat.not_lt.mp h1)).symm
        by_cases h2 : a = mZ M ∧ k < 12
        · rw [if_pos h2] at hr2
          cases hr2
          have hT1 : mT (sM M 12 6) a = 16 := by rw [h2.1]; show (if mZ M ≤ mZ M then (if mZ M = mZ M then 16 else 11) else _) = 16; simp
          rw [hT1]
          refine ⟨by show _ < mZ M + 1 + 12; omega, ?_⟩
          show (if mZ M ≤ mZ M + 1 + k then (if mZ M + 1 + k = mZ M then 16 else 11) else _) = 11
          rw [if_pos (by omega), if_neg (by omega)]
        · rw [if_neg h2] at hr2
          cases hr2
  have his : pm_is (sM M 12 6) (mZ M) 16 := ⟨by show _ < mZ M + 1 + 12; omega, by show (if mZ M ≤ mZ M then (if mZ M = mZ M then 16 else 11) else _) = 16; simp⟩
  obtain ⟨t, a1, b1⟩ := kk _ _ rfl hX1 his hI1 _ rfl X'
  refine ⟨t, step t ?_, b1⟩
  have e : T.heap.size = H0.size + mZ M := by rw [hTH]; exact hsz
  rw [e]
  exact a1
end PMN2
