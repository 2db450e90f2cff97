/-! new int[12][6] -/
def mo (cA : ClassId) (z i : Nat) : Cell := arrV cA 12 (fun j => if j < i then .ref (z + 1 + j) else .null)
def mi (cI : ClassId) : Cell := arrV cI 6 (fun _ => .int 0)
def mf (T : State) (cA cI : ClassId) : Nat → State
  | 0 => T.pushCell (mo cA T.heap.size 0)
  | i + 1 => ((mf T cA cI i).pushCell (mi cI)).setCell T.heap.size (mo cA T.heap.size (i + 1))
theorem mo_step (cA : ClassId) (z i : Nat) : (mo cA z i).setSlot i (.ref (z + 1 + i)) = mo cA z (i + 1) := by
  unfold mo
  rw [arrV_store]
  congr 1
  funext j
  unfold updV
  by_cases e : j = i
  · subst e; simp
  · by_cases h : j < i
    · simp [e, h, Nat.lt_succ_of_lt h]
    · simp [e, h, show ¬ j < i + 1 by omega]
theorem mf_facts (T : State) (cA cI : ClassId) : ∀ i, (mf T cA cI i).heap.size = T.heap.size + 1 + i ∧ (mf T cA cI i).heap[T.heap.size]? = some (mo cA T.heap.size i) ∧ (mf T cA cI i).vm = T.vm ∧ (mf T cA cI i).slotsUsed = T.slotsUsed + 12 + i * 6 := by
  intro i
  induction i with
  | zero => exact ⟨by simp [mf], by simp [mf], rfl, by simp [mf, mo, arrV_size]⟩
  | succ i ih =>
    obtain ⟨a, b, d, u⟩ := ih
    have hlt : T.heap.size < (mf T cA cI i).heap.size := by omega
    have hb' : ((mf T cA cI i).pushCell (mi cI)).heap[T.heap.size]? = some (mo cA T.heap.size i) := by rw [State.heap_pushCell_of_lt (h := hlt)]; exact b
    refine ⟨?_, State.heap_setCell_self hb', by simp [mf, d], ?_⟩
    · show (((mf T cA cI i).pushCell (mi cI)).setCell T.heap.size (mo cA T.heap.size (i + 1))).heap.size = _
      rw [size_setCell, size_pushCell, a]
      exact Nat.add_assoc _ _ _
    · simp [mf, u, mi, arrV_size, Nat.succ_mul]; omega
theorem mf_top (T : State) (f : JFrame) (cA cI : ClassId) : ∀ i, mf (T.setTop f) cA cI i = (mf T cA cI i).setTop f := by
  intro i
  induction i with
  | zero => rfl
  | succ i ih => simp only [mf, ih, State.heap_setTop, State.pushCell_setTop, State.setCell_setTop]
theorem mf_old (T : State) (cA cI : ClassId) {a : Addr} (ha : a < T.heap.size) : ∀ i, (mf T cA cI i).heap[a]? = T.heap[a]? := by
  intro i
  induction i with
  | zero => exact State.heap_pushCell_of_lt _ _ ha
  | succ i ih =>
    have f1 := (mf_facts T cA cI i).1
    have hlt : a < (mf T cA cI i).heap.size := by rw [f1]; exact Nat.lt_of_lt_of_le ha (by omega)
    show (((mf T cA cI i).pushCell (mi cI)).setCell T.heap.size _).heap[a]? = _
    rw [State.heap_setCell_other (Nat.ne_of_gt ha), State.heap_pushCell_of_lt (h := hlt)]
    exact ih
theorem mf_row (T : State) (cA cI : ClassId) : ∀ i j, j < i → (mf T cA cI i).heap[T.heap.size + 1 + j]? = some (mi cI) := by
  intro i
  induction i with
  | zero => intro j h; omega
  | succ i ih =>
    intro j h
    have f1 := (mf_facts T cA cI i).1
    show (((mf T cA cI i).pushCell (mi cI)).setCell T.heap.size _).heap[T.heap.size + 1 + j]? = _
    rw [State.heap_setCell_other (show T.heap.size ≠ T.heap.size + 1 + j by omega)]
    by_cases hj : j < i
    · have hlt : T.heap.size + 1 + j < (mf T cA cI i).heap.size := by omega
      rw [State.heap_pushCell_of_lt (h := hlt)]
      exact ih j hj
    · have e : j = i := by omega
      subst e
      rw [← f1]
      exact State.heap_pushCell_size _ _
section MNW
variable {E : CtlPost} {e : Env} {d : Bool} {acts : List Action} {s : State}
theorem mn_arr {c comp : ClassId} {k : Class} {type : FieldType} {len : Nat} {init : Value} (hk : s.vm.classes[c]? = some k) (hkind : k.kind = .array comp type)
    (hlimit : ¬ len > e.platform.arrayLengthLimit) (hheap : ¬ len * componentBytes type > e.platform.maxHeapBytes) (hfit : fits type init = true) (hdef : init.isDefault = true) {Q : Addr → Pre}
    (h1 : s.heap.size < e.platform.maxCells) (h2 : s.slotsUsed + len ≤ e.platform.maxSlots)
    (hq : Q s.heap.size d acts (s.pushCell (arrV c len (fun _ => init)))) : wp (Jvm.newArray c len init) Q E e d acts s := by
  have hfits : ∀ i v, (Array.replicate len init)[i]? = some v → s.fitsSlot c .none i v = true := by
    intro i v hv
    simp only [Array.getElem?_replicate] at hv
    split at hv
    · cases hv; simp [State.fitsSlot, State.slotType?, hk, hkind, hfit]
    · cases hv
  have hda : allocActs (Array.replicate len init) s.heap.size acts = acts := by
    have hall : ((Array.replicate len init).all (·.isDefault)) = true := by
      rw [Array.all_replicate]; split <;> simp [hdef]
    unfold allocActs; rw [if_pos hall]
  rw [← arrV_new] at hq
  simp only [Jvm.newArray, Jvm.arrayFits, wp_bind', Jvm.W.ask, Jvm.W.ite, hlimit, if_false, wp_pure', Jvm.W.theClass, hk, hkind, hheap, Jvm.W.alloc, Jvm.W.stop, Option.some.injEq, exists_eq_left', Array.size_replicate, hda]
  rw [if_neg (by omega)]
  exact ⟨h1, h2, hfits, hq⟩
end MNW
section MNX
variable {E : CtlPost} {e : Env} {d : Bool} {acts : List Action} {s : State}
theorem mn_make1 {comp cc : ClassId} {kc : Class} (hkc : s.vm.classes[comp]? = some kc) (hkindc : kc.kind = .array cc .int) (hl2 : ¬ 6 > e.platform.arrayLengthLimit) (hh2 : ¬ 6 * componentBytes .int > e.platform.maxHeapBytes)
    (h1 : s.heap.size < e.platform.maxCells) (h2 : s.slotsUsed + 6 ≤ e.platform.maxSlots) {Q : Addr → Pre} (hq : Q s.heap.size d acts (s.pushCell (mi comp))) : wp (multianewarray.make comp [(6 : Int32)]) Q E e d acts s := by
  have hm : ¬ (6 : Int32) < 0 := by decide
  rw [multianewarray.make]
  simp only [wp_bind', Jvm.W.ite, hm, if_false, wp_pure', Jvm.W.theClass, hkc, hkindc, Option.some.injEq, exists_eq_left']
  exact mn_arr hkc hkindc hl2 hh2 rfl rfl h1 h2 hq
theorem mn_make2 {c comp cc : ClassId} {k kc : Class} (hk : s.vm.classes[c]? = some k) (hkind : k.kind = .array comp (.array .int)) (hkc : s.vm.classes[comp]? = some kc) (hkindc : kc.kind = .array cc .int)
    (hl1 : ¬ 12 > e.platform.arrayLengthLimit) (hh1 : ¬ 12 * componentBytes (.array .int) > e.platform.maxHeapBytes) (hl2 : ¬ 6 > e.platform.arrayLengthLimit) (hh2 : ¬ 6 * componentBytes .int > e.platform.maxHeapBytes)
    (hc : s.heap.size + 1 + 12 ≤ e.platform.maxCells) (hs : s.slotsUsed + 12 + 72 ≤ e.platform.maxSlots) {Q : Addr → Pre} (hq : ∀ d' acts', Q s.heap.size d' acts' (mf s c comp 12)) : wp (multianewarray.make c [(12 : Int32), (6 : Int32)]) Q E e d acts s := by
  have hn : ¬ (12 : Int32) < 0 := by decide
  have hfind : ([(6 : Int32)].find? (· < 0)) = none := by decide
  rw [multianewarray.make]
  simp only [wp_bind', Jvm.W.ite, hn, if_false, wp_pure', Jvm.W.theClass, hk, hkind, Option.some.injEq, exists_eq_left']
  refine mn_arr (len := 12) hk hkind hl1 hh1 rfl rfl (by omega) (by omega) ?_
  simp only [hfind]
  rw [ite_self, wp_bind', Std.Legacy.Range.forIn_eq_forIn_range']
  have hsz : ([:(12 : Int32).toNatClampNeg] : Std.Legacy.Range).size = 12 := by decide
  rw [hsz]
  show wp (forIn (List.range' 0 12 1) PUnit.unit _) _ E e d acts _
  refine wp_forIn_inv (fun rest s' => ∃ i, i ≤ 12 ∧ rest = List.range' i (12 - i) ∧ s' = mf s c comp i) _ _ ⟨0, Nat.zero_le _, rfl, by simp only [mf, mo]; congr 2⟩ ?_ ?_
  · rintro x rest s' d' acts' Q' ⟨i, hi, hl, rfl⟩ hnext
    have hlt : i < 12 := by
      rcases Nat.lt_or_ge i 12 with h | h
      · exact h
      · rw [show 12 - i = 0 from by omega] at hl; simp at hl
    obtain ⟨rfl, hrest⟩ : x = i ∧ rest = List.range' (i + 1) (12 - (i + 1)) := by
      rw [show 12 - i = (12 - (i + 1)) + 1 from by omega, List.range'_succ] at hl
      exact ⟨(List.cons.inj hl).1, (List.cons.inj hl).2⟩
    obtain ⟨f1, f2, f3, f4⟩ := mf_facts s c comp x
    simp only [wp_bind']
    refine mn_make1 (by rw [f3]; exact hkc) hkindc hl2 hh2 (by rw [f1]; omega) (by rw [f4]; omega) ?_
    have hlt0 : s.heap.size < (mf s c comp x).heap.size := by rw [f1]; omega
    simp only [wp_bind', Jvm.W.writeLoc, wp_pure']
    refine ⟨mo c s.heap.size x, by rw [State.heap_pushCell_of_lt (h := hlt0)]; exact f2, by simp [mo, arrV], by unfold mo; rw [arrV_size]; exact hlt, ?_, hnext _ _ _ ⟨x + 1, hlt, hrest, ?_⟩⟩
    · show State.fitsSlot _ c .none x _ = true
      simp [State.fitsSlot, State.slotType?, f3, hk, hkind, fits]
    · rw [f1, mo_step]; rfl
  · rintro s' d' acts' ⟨i, hi, hl, rfl⟩
    have hiN : i = 12 := by
      rcases Nat.lt_or_ge i 12 with h | h
      · rw [show 12 - i = (12 - (i + 1)) + 1 from by omega, List.range'_succ] at hl; cases hl
      · omega
    subst hiN
    simp only [wp_pure']
    exact hq _ _
end MNX
section PMM
variable {p : Program} {l : Launch} {e : Env} {R : Room} {s : State} {m : MethodId} {args : Array Value} {below : List Frame} {meth : Method} {c : Code} {H : Heap} {locs : List Loc} {cells slots : Nat} {Q : State → Prop}
variable {cc : ByteArray} {pc nL index : Nat} {ls : Array Slot} {rest : List Value} {G : pm_G} {H0 : Heap} {M : pm_M} {T : State}
theorem mn_stand (X : Stand p l e R s m args below meth c T locs cells slots) (cA cI : ClassId) : ∀ i, Stand p l e R s m args below meth c (mf T cA cI i) locs (cells + 1 + i) (slots + 12 + i * 6) := by
  intro i
  induction i with
  | zero =>
    have h := X.pushed (mo cA T.heap.size 0)
    rw [show (mo cA T.heap.size 0).slots.size = 12 from arrV_size _ _ _] at h
    simpa [mf] using h
  | succ i ih =>
    obtain ⟨f1, f2, f3, f4⟩ := mf_facts T cA cI i
    have hlt0 : T.heap.size < (mf T cA cI i).heap.size := by rw [f1]; omega
    have hcell : ((mf T cA cI i).pushCell (mi cI)).heap[T.heap.size]? = some (mo cA T.heap.size i) := by rw [State.heap_pushCell_of_lt (h := hlt0)]; exact f2
    have h := (ih.pushed (mi cI)).stored hcell i (.ref (T.heap.size + 1 + i))
    rw [show (mi cI).slots.size = 6 from arrV_size _ _ _, mo_step] at h
    have h2 := Stand.forget (locs := locs) h (fun q hq => by
      rw [List.mem_singleton.mp hq]
      exact X.same.2.1)
    have e3 : slots + 12 + (i + 1) * 6 = slots + 12 + i * 6 + 6 := by omega
    rw [e3]
    exact h2
end PMM
