theorem pm_rf_cat (z : Nat) (x : Option Nat) : (pm_rf z x).category = 1 := by cases x <;> rfl
def pm_isC (M : pm_M) (q : Nat) : Prop := q < mZ M ∧ (mT M q = 0 ∨ mT M q = 1 ∨ mT M q = 2 ∨ mT M q = 6 ∨ mT M q = 7)
theorem pm_isC.of {M : pm_M} {q t : Nat} (h : pm_is M q t) (ht : t = 0 ∨ t = 1 ∨ t = 2 ∨ t = 6 ∨ t = 7) : pm_isC M q := ⟨h.1, by rw [h.2]; exact ht⟩
theorem pm_isC.x {M M' : pm_M} {q : Nat} (h : pm_isC M q) (g : pm_X M M') : pm_isC M' q := ⟨Nat.lt_of_lt_of_le h.1 g.1, by rw [(g.2 q h.1).1]; exact h.2⟩
def pm_Pi (P : Int32 → pm_M → Prop) : Option Value → pm_M → Prop := fun o M' => ∃ r : Int32, o = some (.int r) ∧ P r M'
def pm_Pl (P : Int64 → pm_M → Prop) : Option Value → pm_M → Prop := fun o M' => ∃ r : Int64, o = some (.long r) ∧ P r M'
def pm_Pv (P : pm_M → Prop) : Option Value → pm_M → Prop := fun o M' => o = none ∧ P M'
def pm_Po (z t : Nat) (P : Option Nat → pm_M → Prop) : Option Value → pm_M → Prop := fun o M' => ∃ x : Option Nat, o = some (pm_rf z x) ∧ (∀ b, x = some b → pm_is M' b t) ∧ P x M'
def pm_Pc (z : Nat) (P : Nat → pm_M → Prop) : Option Value → pm_M → Prop := fun o M' => ∃ q : Nat, o = some (.ref (z + q)) ∧ pm_isC M' q ∧ P q M'
theorem pm_nb {v : Int32} (h : v = 0 ∨ v = 1) : narrow .boolean (.int v) = .int v := by rcases h with rfl | rfl <;> rfl
theorem pm_room {n s r : Nat} (h : n ≤ 4096) (hs : s + 4096 ≤ r) : s + n ≤ r := by omega
theorem pm_wide {n s k : Nat} (h : n ≤ 4096) (hs : s + 4096 = k) : s + n ≤ k := by omega
theorem pm_cases {x : Int32} {P : Prop} (lo n : Nat) (h1 : ∀ j : Nat, j < n → x = nI (lo + j) → P) (h2 : (∀ j : Nat, j < n → ¬ x = nI (lo + j)) → P) : P := by
  by_cases h : ∃ j, j < n ∧ x = nI (lo + j)
  · obtain ⟨j, hj, hx⟩ := h
    exact h1 j hj hx
  · exact h2 (fun j hj hx => h ⟨j, hj, hx⟩)
theorem pm_out {x : Int32} {lo n : Nat} {hi : Int} (h : ∀ j : Nat, j < n → ¬ x = nI (lo + j)) (hn : lo + n < 2 ^ 31 := by decide) (hh : hi = (lo : Int) + n - 1 := by decide) : x.toInt < (lo : Int) ∨ hi < x.toInt := by
  by_cases h1 : x.toInt < (lo : Int)
  · exact Or.inl h1
  · right
    by_cases h2 : hi < x.toInt
    · exact h2
    · exfalso
      refine h (x.toInt - lo).toNat (by omega) ?_
      apply Int32.toInt_inj.mp
      rw [nI_toInt (by omega)]
      omega
section PMH
variable {p : Program} {l : Launch} {e : Env} {R : Room} {s : State} {m : MethodId} {args : Array Value} {below : List Frame} {meth : Method} {c : Code} {H : Heap} {locs : List Loc} {cells slots : Nat} {Q : State → Prop} {G : pm_G} {H0 : Heap} {M : pm_M}
theorem pm_nrm {cells' slots' : Nat} {g g2 : JFrame} (h1 : cells = cells') (h2 : slots = slots') (h3 : g = g2) (kk : W p l e R s m args below meth c H locs cells' slots' Q g2) : W p l e R s m args below meth c H locs cells slots Q g := by
  subst h1; subst h2; subst h3; exact kk
theorem pm_nrm2 {A B : Prop} (f : A → B) (a : A) : B := f a
theorem pm_C_mono {y : MethodName} {bytes : ByteArray} {maxL : Nat} {ret : Option FieldType} {rm : Room} {avs : List Value} {P P' : Option Value → pm_M → Prop} (hp : ∀ o M', P o M' → P' o M') (h : pm_C l G H0 y bytes maxL ret rm avs M P) : pm_C l G H0 y bytes maxL ret rm avs M P' := by
  unfold pm_C Met at h ⊢
  refine MetFree.mono h (fun _ _ q => q) (fun _ _ _ _ _ q => q) (fun a st o t hP hq => ?_)
  obtain ⟨⟨r, M', e1, e2, e3, e4⟩, h2⟩ := hq
  exact ⟨⟨r, M', e1, hp _ _ e2, e3, e4⟩, h2⟩
theorem pm_Pi_pure {y : MethodName} {bytes : ByteArray} {maxL : Nat} {ret : Option FieldType} {rm : Room} {avs : List Value} {K : Int32 → pm_M → Prop} (h : pm_C l G H0 y bytes maxL ret rm avs M (pm_Pi (fun r9 M9 => M = M9 ∧ K r9 M))) : pm_C l G H0 y bytes maxL ret rm avs M (pm_Pi K) := by
  have hp : ∀ o M', pm_Pi (fun r9 M9 => M = M9 ∧ K r9 M) o M' → pm_Pi K o M' := by
    intro o M' h
    obtain ⟨r, h1, h2, h3⟩ := h
    exact ⟨r, h1, by rw [← h2]; exact h3⟩
  exact pm_C_mono hp h
/-- as pm_start, by the method's own name -/
theorem pm_startF {y : MethodName} {bytes : ByteArray} {maxL : Nat} {ret : Option FieldType} {rm : Room} {avs : List Value} {Post : Option Value → pm_M → Prop} (hy : plainFor y = true) (hlen : (lg_sl avs).length ≤ maxL)
    (body : ∀ (p : Program) (e : Env) (s : State) (m : MethodId) (args : Array Value) (below : List Frame) (meth : Method) (c : Code) (H : Heap) (ls : Array Slot), pm_E G p s m args meth c bytes maxL y.cls → meth.sig.returnType = ret → meth.name = y.name → pm_I G H0 M H [] → lv_has ls maxL (lv_args 0 avs) →
      W p l e rm s m args below meth c H [] 0 0 (pm_Z G H0 M Post below args s rm.cells rm.slots) (F0 m 0 ls [])) : pm_C l G H0 y bytes maxL ret rm avs M Post := by
  unfold pm_C Met
  refine MetFree.of_bodySF (code := bytes) (maxLocals := maxL) (ret := ret) hy ?_ ?_
  · intro args s m h hn
    obtain ⟨meth, c, h1, h2, h3, h4, h5, h6, -, -⟩ := Cond.code_spec hn (atoms_spec (ws := [Cond.code y bytes maxL ret]) h _ List.mem_cons_self)
    exact ⟨meth, c, h1, h2, h3, h4, h5, h6⟩
  · intro p e s m args below meth c s₁ B hml hv _
    obtain ⟨rfl, hI, hK⟩ := hv
    have hown : s.vm.findClass y.cls = some m.cls := findClass_of_methodNamed B.named
    have hl := lv_entry avs (n := maxL) hlen
    have hh0 : s₁.heap = s.heap := by rw [B.state]; rfl
    have hb := body p e s m avs.toArray below meth c s.heap _ ⟨B.exec, B.bytes, hml, hown, pm_tbl_ok hK, hK, B.notSynchronized⟩ B.returns (name_of_methodNamed B.named B.method).1 hI hl
    obtain ⟨t, a1, o, b1, b2, b3⟩ := hb s₁ hh0 (Stand.of_body B)
    rw [lg_entry_eq]
    exact ⟨t, o, a1, b1, b2, ⟨b3.1, b3.2⟩⟩
end PMH
