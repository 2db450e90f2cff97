section PMM
variable {p : Program} {l : Launch} {e : Env} {R : Room} {s : State} {m : MethodId} {args : Array Value} {below : List Frame} {meth : Method} {c : Code} {H : Heap} {locs : List Loc} {cells slots : Nat} {Q : State → Prop}
variable {cc : ByteArray} {pc nL index : Nat} {ls : Array Slot} {rest : List Value} {G : pm_G} {H0 : Heap} {M : pm_M}
theorem pm_mnew (E : pm_E G p s m args meth c cc nL RX8) (hI : pm_I G H0 M H locs) (hl : Cond.classLink RX8 index "[[I" ∈ pm_tbl) (hcells : cells + 13 ≤ R.cells) (hslots : slots + 84 ≤ R.slots) (hdg : decode cc pc = .ok (.multianewarray index 2, 4))
    (kk : ∀ (H1 : Heap) (M1 : pm_M), M1 = sM M 12 6 → pm_X M M1 → pm_is M1 (mZ M) 16 → pm_I G H0 M1 H1 locs → W p l e R s m args below meth c H1 locs (cells + 13) (slots + 84) Q (F0 m (pc + 4) ls (.ref (H0.size + mZ M) :: rest))) : W p l e R s m args below meth c H locs cells slots Q (F0 m pc ls (.int 6 :: .int 12 :: rest)) := by
  sorry
end PMM
