/-! THE PURE MEMORY. Cells by their offset from the law's own start: the i-th cell that the run makes has the offset i. mI, mL, mR: the ints, longs and references at a place of a cell; mT its kind, mN its length, mZ how many cells there are. Kinds 0..9: the objects by their places in vwCl; 10 byte[], 11 int[], 12 long[], 13 boolean[], 14 Rule[], 15 Slot[], 16 int[][] -/
abbrev pm_M : Type := (Nat → Nat → Int32) × (Nat → Nat → Int64) × (Nat → Nat → Option Nat) × (Nat → Nat) × (Nat → Nat) × Nat
def mI (M : pm_M) : Nat → Nat → Int32 := M.1
def mL (M : pm_M) : Nat → Nat → Int64 := M.2.1
def mR (M : pm_M) : Nat → Nat → Option Nat := M.2.2.1
def mT (M : pm_M) : Nat → Nat := M.2.2.2.1
def mN (M : pm_M) : Nat → Nat := M.2.2.2.2.1
def mZ (M : pm_M) : Nat := M.2.2.2.2.2
def pm_up {α : Type} (f : Nat → Nat → α) (a k : Nat) (v : α) : Nat → Nat → α := fun b j => if b = a ∧ j = k then v else f b j
def sI (M : pm_M) (a k : Nat) (v : Int32) : pm_M := (pm_up M.1 a k v, M.2)
def sL (M : pm_M) (a k : Nat) (v : Int64) : pm_M := (M.1, pm_up M.2.1 a k v, M.2.2)
def sR (M : pm_M) (a k : Nat) (v : Option Nat) : pm_M := (M.1, M.2.1, pm_up M.2.2.1 a k v, M.2.2.2)
/-- a new cell of the kind t with n places, all 0 or null -/
def sN (M : pm_M) (t n : Nat) : pm_M := (fun b j => if b = mZ M then 0 else mI M b j, fun b j => if b = mZ M then 0 else mL M b j, fun b j => if b = mZ M then none else mR M b j, fun b => if b = mZ M then t else mT M b, fun b => if b = mZ M then n else mN M b, mZ M + 1)
/-- n longs copied -/
def sC (M : pm_M) (a i b j n : Nat) : pm_M := (M.1, fun d => if d = b then va_cpy (mL M a) (mL M b) i j n else mL M d, M.2.2)
/-- new int[n][k] -/
def sM (M : pm_M) (n k : Nat) : pm_M := (fun b j => if mZ M ≤ b then 0 else mI M b j, fun b j => if mZ M ≤ b then 0 else mL M b j, fun b j => if mZ M ≤ b then (if b = mZ M ∧ j < n then some (mZ M + 1 + j) else none) else mR M b j, fun b => if mZ M ≤ b then (if b = mZ M then 16 else 11) else mT M b, fun b => if mZ M ≤ b then (if b = mZ M then n else k) else mN M b, mZ M + 1 + n)
/-- the kind that a reference at place k of a cell of kind t points to; 99: an int lies there -/
def pm_rt : Nat → Nat → Nat
  | 0, 0 => 11 | 0, 1 => 11
  | 1, 1 => 4 | 1, 2 => 4
  | 2, 0 => 11
  | 3, 0 => 5
  | 4, 4 => 10
  | 5, 0 => 12
  | 6, 0 => 12 | 6, 1 => 11
  | 7, 0 => 16 | 7, 1 => 16 | 7, 2 => 11
  | 8, 0 => 15 | 8, 1 => 14 | 8, 2 => 11 | 8, 3 => 11 | 8, 4 => 3 | 8, 5 => 6 | 8, 6 => 0 | 8, 7 => 2 | 8, 8 => 7
  | 9, 2 => 11 | 9, 4 => 13 | 9, 5 => 10 | 9, 6 => 11 | 9, 7 => 11 | 9, 8 => 11 | 9, 9 => 11 | 9, 10 => 11 | 9, 11 => 11 | 9, 12 => 11 | 9, 13 => 12 | 9, 14 => 12 | 9, 18 => 11 | 9, 19 => 11 | 9, 20 => 11 | 9, 21 => 11 | 9, 22 => 11 | 9, 23 => 10 | 9, 24 => 11 | 9, 25 => 11
  | 14, _ => 4
  | 15, _ => 5
  | 16, _ => 11
  | _, _ => 99
def pm_nf : Nat → Nat
  | 0 => 3 | 1 => 5 | 2 => 2 | 3 => 3 | 4 => 5 | 5 => 3 | 6 => 6 | 7 => 5 | 8 => 12 | 9 => 26 | _ => 0
abbrev pm_G : Type := va_G × (Nat → ClassId)
def pm_rf (z : Nat) (x : Option Nat) : Value := va_rf (x.map (fun q => z + q))
def pm_val (z : Nat) (M : pm_M) (t a k : Nat) : Value := if pm_rt t k = 99 then .int (mI M a k) else pm_rf z (mR M a k)
def pm_fs (z : Nat) (M : pm_M) (t a : Nat) : List Value := (List.range (pm_nf t)).map (fun k => pm_val z M t a k)
def pm_cell (G : pm_G) (z : Nat) (M : pm_M) (a : Nat) : va_E :=
  if mT M a < 10 then .inr (mT M a, pm_fs z M (mT M a) a)
  else if mT M a = 12 then .inl (G.2 12, mN M a, .inr (.inl (mL M a)))
  else if mT M a < 14 then .inl (G.2 (mT M a), mN M a, .inl (mI M a))
  else .inl (G.2 (mT M a), mN M a, .inr (.inr (.inr (.inr (fun j => (mR M a j).map (fun q => z + q))))))
def pm_W (G : pm_G) (z : Nat) (M : pm_M) : va_W := (List.range (mZ M)).map (fun a => (z + a, pm_cell G z M a))
def pm_is (M : pm_M) (a t : Nat) : Prop := a < mZ M ∧ mT M a = t
def pm_T (M : pm_M) : Prop := ∀ a k b : Nat, a < mZ M → mR M a k = some b → pm_is M b (pm_rt (mT M a) k)
def pm_I (G : pm_G) (H0 : Heap) (M : pm_M) (H : Heap) (locs : List Loc) : Prop :=
  H.size = H0.size + mZ M ∧ va_P G.1 vwCl (pm_W G H0.size M) H ∧ va_S (fun q : Nat => H0.size ≤ q) H0 H locs ∧ pm_T M
/-- kinds and lengths stay -/
def pm_X (M M' : pm_M) : Prop := mZ M ≤ mZ M' ∧ ∀ a, a < mZ M → mT M' a = mT M a ∧ mN M' a = mN M a
theorem pm_X.rf {M : pm_M} : pm_X M M := ⟨Nat.le_refl _, fun _ _ => ⟨rfl, rfl⟩⟩
theorem pm_X.tr {M M' M'' : pm_M} (h : pm_X M M') (g : pm_X M' M'') : pm_X M M'' := ⟨Nat.le_trans h.1 g.1, fun a ha => by
  have h1 := h.2 a ha
  have h2 := g.2 a (Nat.lt_of_lt_of_le ha h.1)
  exact ⟨h2.1.trans h1.1, h2.2.trans h1.2⟩⟩
theorem pm_is.x {M M' : pm_M} {a t : Nat} (h : pm_is M a t) (g : pm_X M M') : pm_is M' a t := ⟨Nat.lt_of_lt_of_le h.1 g.1, (g.2 a h.1).1.trans h.2⟩
theorem pm_X.n {M : pm_M} {t n : Nat} : pm_X M (sN M t n) := ⟨Nat.le_succ _, fun a ha => ⟨if_neg (Nat.ne_of_lt ha), if_neg (Nat.ne_of_lt ha)⟩⟩
theorem pm_X.m {M : pm_M} {n k : Nat} : pm_X M (sM M n k) := ⟨by show mZ M ≤ mZ M + 1 + n; omega, fun a ha => ⟨if_neg (Nat.not_le.mpr ha), if_neg (Nat.not_le.mpr ha)⟩⟩
theorem pm_is.new {M : pm_M} {t n : Nat} : pm_is (sN M t n) (mZ M) t := ⟨Nat.lt_succ_self _, if_pos rfl⟩
theorem pm_up_s {α : Type} {f : Nat → Nat → α} {a k : Nat} {v : α} : pm_up f a k v a k = v := if_pos ⟨rfl, rfl⟩
theorem pm_up_n {α : Type} {f : Nat → Nat → α} {a k b j : Nat} {v : α} (h : ¬ (b = a ∧ j = k)) : pm_up f a k v b j = f b j := if_neg h
theorem pm_up_r {α : Type} {f : Nat → Nat → α} {a k b : Nat} {v : α} (h : b ≠ a) : pm_up f a k v b = f b := funext fun _ => pm_up_n (fun q => h q.1)
theorem pm_get {G : pm_G} {z : Nat} {M : pm_M} {a : Nat} (h : a < mZ M) : (pm_W G z M)[a]? = some (z + a, pm_cell G z M a) := by
  simp [pm_W, h]
theorem pm_get' {G : pm_G} {z : Nat} {M : pm_M} {a : Nat} {q : Nat × va_E} (h : (pm_W G z M)[a]? = some q) : a < mZ M ∧ q = (z + a, pm_cell G z M a) := by
  have hl := (List.getElem?_eq_some_iff.mp h).1
  have hz : a < mZ M := by simpa [pm_W] using hl
  rw [pm_get hz] at h
  exact ⟨hz, (Option.some.inj h).symm⟩
theorem pm_D {G : pm_G} {z : Nat} {M : pm_M} : va_D (fun q : Nat => z ≤ q) (pm_W G z M) := by
  refine ⟨fun i j x y hi hj hxy => ?_, fun k q hk => ?_⟩
  · have h1 := (pm_get' hi).2
    have h2 := (pm_get' hj).2
    rw [h1, h2] at hxy
    exact Nat.add_left_cancel hxy
  · rw [(pm_get' hk).2]
    exact Nat.le_add_right _ _
theorem pm_set {G : pm_G} {z : Nat} {M M' : pm_M} {a : Nat} {e : va_E} (hZ : mZ M' = mZ M) (he : e = pm_cell G z M' a) (ho : ∀ b, b ≠ a → pm_cell G z M' b = pm_cell G z M b) : (pm_W G z M).set a (z + a, e) = pm_W G z M' := by
  apply List.ext_getElem?
  intro i
  by_cases hi : i < mZ M
  · by_cases e1 : i = a
    · subst e1
      rw [List.getElem?_set_self (by simpa [pm_W] using hi), pm_get (by rw [hZ]; exact hi), he]
    · rw [List.getElem?_set_ne (Ne.symm e1), pm_get hi, pm_get (by rw [hZ]; exact hi), ho i e1]
  · rw [List.getElem?_eq_none (by simp [pm_W]; omega), List.getElem?_eq_none (by simp [pm_W]; omega)]
theorem pm_W_push {G : pm_G} {z : Nat} {M M' : pm_M} {e : va_E} (hZ : mZ M' = mZ M + 1) (he : e = pm_cell G z M' (mZ M)) (ho : ∀ b, b < mZ M → pm_cell G z M' b = pm_cell G z M b) : pm_W G z M ++ [(z + mZ M, e)] = pm_W G z M' := by
  unfold pm_W
  rw [hZ, List.range_succ, List.map_append, List.map_singleton, he]
  congr 1
  apply List.map_congr_left
  intro b hb
  rw [ho b (List.mem_range.mp hb)]
theorem pm_cell_o {G : pm_G} {z : Nat} {M : pm_M} {a t : Nat} (h : mT M a = t) (ht : t < 10) : pm_cell G z M a = .inr (t, pm_fs z M t a) := by
  subst h
  exact if_pos ht
theorem pm_cell_i {G : pm_G} {z : Nat} {M : pm_M} {a t : Nat} (h : mT M a = t) (ht : t = 10 ∨ t = 11 ∨ t = 13) : pm_cell G z M a = .inl (G.2 t, mN M a, .inl (mI M a)) := by
  subst h
  unfold pm_cell
  rw [if_neg (by omega), if_neg (by omega), if_pos (by omega)]
theorem pm_cell_l {G : pm_G} {z : Nat} {M : pm_M} {a : Nat} (h : mT M a = 12) : pm_cell G z M a = .inl (G.2 12, mN M a, .inr (.inl (mL M a))) := by
  unfold pm_cell
  rw [if_neg (by omega), if_pos (by omega)]
theorem pm_cell_r {G : pm_G} {z : Nat} {M : pm_M} {a t : Nat} (h : mT M a = t) (ht : 14 ≤ t) : pm_cell G z M a = .inl (G.2 t, mN M a, .inr (.inr (.inr (.inr (fun j => (mR M a j).map (fun q => z + q)))))) := by
  subst h
  unfold pm_cell
  rw [if_neg (by omega), if_neg (by omega), if_neg (by omega)]
theorem pm_fs_len {z : Nat} {M : pm_M} {t a : Nat} : (pm_fs z M t a).length = pm_nf t := by simp [pm_fs]
theorem pm_fs_at {z : Nat} {M : pm_M} {t a k : Nat} (h : k < pm_nf t) : (pm_fs z M t a)[k]? = some (pm_val z M t a k) := by simp [pm_fs, h]
theorem pm_fs_set {z : Nat} {M M' : pm_M} {t a k : Nat} {v : Value} (hv : pm_val z M' t a k = v) (ho : ∀ j, j ≠ k → pm_val z M' t a j = pm_val z M t a j) : (pm_fs z M t a).set k v = pm_fs z M' t a := by
  apply List.ext_getElem?
  intro i
  by_cases hi : i < pm_nf t
  · by_cases e1 : i = k
    · subst e1
      rw [List.getElem?_set_self (by rw [pm_fs_len]; exact hi), pm_fs_at hi, hv]
    · rw [List.getElem?_set_ne (Ne.symm e1), pm_fs_at hi, pm_fs_at hi, ho i e1]
  · rw [List.getElem?_eq_none (by simp [pm_fs]; omega), List.getElem?_eq_none (by simp [pm_fs]; omega)]
theorem pm_cell_same {G : pm_G} {z : Nat} {M M' : pm_M} {b : Nat} (hI : mI M' b = mI M b) (hL : mL M' b = mL M b) (hR : mR M' b = mR M b) (hT : mT M' b = mT M b) (hN : mN M' b = mN M b) : pm_cell G z M' b = pm_cell G z M b := by
  unfold pm_cell pm_fs pm_val
  rw [hI, hL, hR, hT, hN]
/-! what holds of the tables, everywhere -/
def pm_tys (G : pm_G) : List (ClassId × FieldType) := [(G.2 10, .byte), (G.2 11, .int), (G.2 12, .long), (G.2 13, .boolean), (G.2 14, .object RX5), (G.2 15, .object RX6), (G.2 16, .array .int)]
def pm_nest : Cond → Bool
  | .fieldLinkNest _ _ _ _ _ _ => true
  | .methodLinkNest _ _ _ _ => true
  | _ => false
def yX1_fits : MethodName := ⟨RX1, "fits", "(I)Z"⟩
def pm_Fw (U : State) : Prop := va_Fw RX0 yX1_fits yX0_fits U ∧ va_Fw RX2 yX1_fits yX2_fits U ∧ va_Fw RX3 yX1_fits yX3_fits U ∧ va_Fw RX7 yX1_fits yX7_fits U ∧ va_Fw RX8 yX1_fits yX8_fits U
/-- the class of int[][] has int[] for its component -/
def pm_A2 (G : pm_G) (U : State) : Prop := ∃ k : Class, U.vm.classes[G.2 16]? = some k ∧ k.kind = .array (G.2 11) (.array .int)
theorem pm_A2.moved {G : pm_G} {u U : State} (hvm : u.vm.Alike U.vm) (h : pm_A2 G u) : pm_A2 G U := by
  obtain ⟨k, h1, h2⟩ := h
  obtain ⟨k', hk', he⟩ := hvm.2.2 _ _ h1
  exact ⟨k', hk', by rw [he]; exact h2⟩
def pm_AO (G : pm_G) (U : State) : Prop := va_AO RX5 U ∧ va_AO RX6 U ∧ pm_A2 G U
def pm_K (G : pm_G) (U : State) : Prop := va_K G.1 vwCl (pm_tys G) U ∧ (∀ w ∈ lw_tbl, goodWord w = true → w.before #[] U = true) ∧ (∀ w ∈ lw_tbl, pm_nest w = true → va_Nw w U) ∧ pm_Fw U ∧ pm_AO G U
theorem pm_K.warm {G : pm_G} {s U : State} (hW : s.WarmedH U.vm) (h : pm_K G s) : pm_K G U := by
  obtain ⟨h1, h2, h3, ⟨f1, f2, f3, f4, f5⟩, g1, g2, g3⟩ := h
  refine ⟨h1.moved hW.alike, fun w hw hg => word_at hW (good_of_word hg) (h2 w hw hg), fun w hw hg => ?_, ⟨f1.moved (by decide) hW.alike, f2.moved (by decide) hW.alike, f3.moved (by decide) hW.alike, f4.moved (by decide) hW.alike, f5.moved (by decide) hW.alike⟩, g1.moved hW.alike, g2.moved hW.alike, g3.moved hW.alike⟩
  have h4 := h3 w hw hg
  cases w <;> first | (exact va_Nw.warmF hW h4) | (exact va_Nw.warmM hW h4) | (exact absurd hg (by simp [pm_nest]))
def pm_tbl : List Cond := lw_tbl.filter goodWord
theorem pm_tbl_ok {G : pm_G} {s : State} {args : Array Value} (h : pm_K G s) : ∀ w ∈ pm_tbl, w.before args s = true := by
  intro w hw
  obtain ⟨h1, h2⟩ := List.mem_filter.mp hw
  exact word_at (State.WarmedH.refl s) (good_of_word h2) (h.2.1 w h1 h2)
/-- what holds throughout a method's body -/
def pm_E (G : pm_G) (p : Program) (s : State) (m : MethodId) (args : Array Value) (meth : Method) (c : Code) (cc : ByteArray) (nL : Nat) (own : String) : Prop :=
  p.tables.exec = Jvm.exec ∧ c.code = cc ∧ c.maxLocals = nL ∧ s.vm.findClass own = some m.cls ∧ (∀ w ∈ pm_tbl, w.before args s = true) ∧ pm_K G s ∧ meth.locks = false
