/-! told: marks -/
def lb (x : Int64) (j : Nat) : Bool := x.toBitVec.getLsbD j
theorem sh64 : ∀ k, k < 64 → (((nI k).toInt64 &&& 63).toBitVec.smod 64) = BitVec.ofNat 64 k := by decide +kernel
theorem lb_0 (j : Nat) : lb 0 j = false := by
  unfold lb
  show (0#64).getLsbD j = false
  simp
theorem lb_or (x : Int64) {k j : Nat} (hk : k < 64) (hj : j < 64) : lb (x ||| ((1 : Int64) <<< ((nI k).toInt64 &&& 63))) j = (lb x j || decide (k = j)) := by
  unfold lb
  rw [Int64.toBitVec_or, Int64.toBitVec_shiftLeft, sh64 k hk, BitVec.getLsbD_or, BitVec.shiftLeft_eq', BitVec.getLsbD_shiftLeft, BitVec.toNat_ofNat, Nat.mod_eq_of_lt (show k < 2 ^ 64 by omega)]
  show (x.toBitVec.getLsbD j || (decide (j < 64) && !decide (j < k) && (1#64).getLsbD (j - k))) = _
  have e : (1#64).getLsbD (j - k) = decide (j - k = 0) := by
    rw [BitVec.getLsbD_ofNat, show (1 : Nat) = 2 ^ 0 from rfl, Nat.testBit_two_pow]
    have : decide (j - k < 64) = true := decide_eq_true (by omega)
    rw [this, Bool.true_and]
    exact decide_eq_decide.mpr ⟨fun h => h.symm, fun h => h.symm⟩
  rw [e, decide_eq_true hj, Bool.true_and]
  congr 1
  by_cases q : k = j
  · subst q; simp
  · rw [decide_eq_false q]
    by_cases z : j < k
    · rw [decide_eq_true z]; rfl
    · rw [decide_eq_false (show ¬ j - k = 0 by omega), Bool.and_false]
theorem lb_get (x : Int64) {k : Nat} (hk : k < 64) : ((x >>> ((nI k).toInt64 &&& 63)) &&& 1 = 0) ↔ lb x k = false := by
  have e1 : (x >>> ((nI k).toInt64 &&& 63)).toBitVec = x.toBitVec.sshiftRight k := by
    rw [Int64.toBitVec_shiftRight, sh64 k hk, BitVec.sshiftRight_eq']
    congr 1
    simp
    omega
  have e2 : (x.toBitVec.sshiftRight k).getLsbD 0 = x.toBitVec.getLsbD k := by
    rw [BitVec.getLsbD_sshiftRight, if_pos (by omega)]
    show (!decide (64 ≤ 0) && x.toBitVec.getLsbD (k + 0)) = _
    rw [decide_eq_false (by decide)]
    rfl
  rw [← Int64.toBitVec_inj]
  show ((x >>> ((nI k).toInt64 &&& 63)).toBitVec &&& 1#64 = 0#64) ↔ _
  rw [e1]
  unfold lb
  rw [← e2]
  constructor
  · intro h
    have h0 := congrArg (fun v : BitVec 64 => v.getLsbD 0) h
    have h1 : (x.toBitVec.sshiftRight k &&& 1#64).getLsbD 0 = (0#64).getLsbD 0 := h0
    rw [BitVec.getLsbD_and, show (1#64).getLsbD 0 = true from rfl, Bool.and_true] at h1
    rw [h1]
    rfl
  · intro h
    apply BitVec.eq_of_getLsbD_eq
    intro i hi
    rw [BitVec.getLsbD_and]
    by_cases z : i = 0
    · subst z
      rw [h]
      rfl
    · have : (1#64).getLsbD i = false := by
        rw [BitVec.getLsbD_ofNat]
        have : Nat.testBit 1 i = false := by
          rw [show (1 : Nat) = 2 ^ 0 from rfl, Nat.testBit_two_pow]
          exact decide_eq_false (by omega)
        rw [this]; simp
      rw [this]; simp
