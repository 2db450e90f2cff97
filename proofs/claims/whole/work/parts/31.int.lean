/-! ints that are sets -/
theorem nI_and (a b : Nat) : nI a &&& nI b = nI (a &&& b) := by
  apply Int32.toBitVec_inj.1
  show BitVec.ofNat 32 a &&& BitVec.ofNat 32 b = BitVec.ofNat 32 (a &&& b)
  apply BitVec.eq_of_getLsbD_eq
  intro i hi
  simp [hi]
theorem nI_or (a b : Nat) : nI a ||| nI b = nI (a ||| b) := by
  apply Int32.toBitVec_inj.1
  show BitVec.ofNat 32 a ||| BitVec.ofNat 32 b = BitVec.ofNat 32 (a ||| b)
  apply BitVec.eq_of_getLsbD_eq
  intro i hi
  simp [hi]
theorem nI_xor (a b : Nat) : nI a ^^^ nI b = nI (a ^^^ b) := by
  apply Int32.toBitVec_inj.1
  show BitVec.ofNat 32 a ^^^ BitVec.ofNat 32 b = BitVec.ofNat 32 (a ^^^ b)
  apply BitVec.eq_of_getLsbD_eq
  intro i hi
  simp [hi]
theorem nI_b1 : ∀ i, i < 31 → (1 : Int32) <<< (nI i &&& 31) = nI (b1 i) := by decide +kernel
theorem nI_inv (k m : Nat) : nI k &&& (nI m ^^^ (-1)) = nI (df k m) := by
  apply Int32.toBitVec_inj.1
  show BitVec.ofNat 32 k &&& (BitVec.ofNat 32 m ^^^ (-1 : Int32).toBitVec) = BitVec.ofNat 32 (df k m)
  have h1 : (-1 : Int32).toBitVec = BitVec.allOnes 32 := by decide
  rw [h1]
  apply BitVec.eq_of_getLsbD_eq
  intro i hi
  simp only [BitVec.getLsbD_and, BitVec.getLsbD_xor, BitVec.getLsbD_ofNat, BitVec.getLsbD_allOnes, hi, decide_true, df_bit, Bool.true_and]
  cases k.testBit i <;> cases m.testBit i <;> rfl
theorem nI_bitN {k i : Nat} (hk : k < 2 ^ 31) (hi : i < 31) : (nI k >>> (nI i &&& 31)) &&& 1 = nI (if k.testBit i = true then 1 else 0) := by
  have e : ∀ i, i < 31 → ((nI i &&& 31).toBitVec.smod 32).toNat = i := by decide +kernel
  rw [pk_shrN hk _ i (e i hi), show (1 : Int32) = nI 1 from rfl, nI_and]
  congr 1
  rw [← Nat.shiftRight_eq_div_pow, Nat.and_one_is_mod]
  have : k.testBit i = decide (k >>> i % 2 = 1) := by
    rw [Nat.testBit_eq_decide_div_mod_eq, Nat.shiftRight_eq_div_pow]
  rw [this]
  have h2 : k >>> i % 2 = 0 ∨ k >>> i % 2 = 1 := by omega
  rcases h2 with h | h <;> simp [h]
def bcI (a0 : Int32) : Int32 :=
  let x1 := a0 - ((a0.toUInt32 >>> ((1 : Int32).toUInt32 &&& Int32.toUInt32 31)).toInt32 &&& (1431655765 : Int32))
  let x3 := (x1 &&& (858993459 : Int32)) + ((x1.toUInt32 >>> ((2 : Int32).toUInt32 &&& Int32.toUInt32 31)).toInt32 &&& (858993459 : Int32))
  let x5 := (x3 + (x3.toUInt32 >>> ((4 : Int32).toUInt32 &&& Int32.toUInt32 31)).toInt32) &&& (252645135 : Int32)
  let x7 := x5 + (x5.toUInt32 >>> ((8 : Int32).toUInt32 &&& Int32.toUInt32 31)).toInt32
  let x9 := x7 + (x7.toUInt32 >>> ((16 : Int32).toUInt32 &&& Int32.toUInt32 31)).toInt32
  x9 &&& (63 : Int32)
theorem w_bitCount {a : Int32} {M : pm_M} {Post : Int32 → Prop} (h : Post (bcI a)) : w_J6_bitCount_0f7a4 a M Post := by
  unfold w_J6_bitCount_0f7a4
  intro x1 e1 x3 e3 x5 e5 x7 e7 x9 e9
  subst e1; subst e3; subst e5; subst e7; subst e9
  exact h
def bcN (k : Nat) : Nat :=
  let x1 := k - (k / 2 &&& 1431655765)
  let x3 := (x1 &&& 858993459) + (x1 / 4 &&& 858993459)
  let x5 := (x3 + x3 / 16) &&& 252645135
  let x7 := x5 + x5 / 256
  let x9 := x7 + x7 / 65536
  x9 &&& 63
theorem bcI_bcN {k : Nat} (hk : k < 65536) : bcI (nI k) = nI (bcN k) := by
  have sh : ∀ (n : Nat) (c : Int32) (j : Nat), n < 2 ^ 32 → ((c.toUInt32 &&& Int32.toUInt32 31).toBitVec % 32).toNat = j → ((nI n).toUInt32 >>> (c.toUInt32 &&& Int32.toUInt32 31)).toInt32 = nI (n / 2 ^ j) := fun n c j hn hs => pk_ushrN hn c j hs
  have l1 : k / 2 &&& 1431655765 ≤ k := Nat.le_trans Nat.and_le_left (Nat.div_le_self _ _)
  have e1 : nI k - (((nI k).toUInt32 >>> ((1 : Int32).toUInt32 &&& Int32.toUInt32 31)).toInt32 &&& (1431655765 : Int32)) = nI (k - (k / 2 &&& 1431655765)) := by
    rw [sh k 1 1 (by omega) (by decide), show (1431655765 : Int32) = nI 1431655765 from rfl, nI_and, pk_sub l1]
  unfold bcI bcN
  dsimp only
  rw [e1]
  have b1 : k - (k / 2 &&& 1431655765) < 65536 := by omega
  generalize k - (k / 2 &&& 1431655765) = y1 at b1 ⊢
  have e3 : (nI y1 &&& (858993459 : Int32)) + (((nI y1).toUInt32 >>> ((2 : Int32).toUInt32 &&& Int32.toUInt32 31)).toInt32 &&& (858993459 : Int32)) = nI ((y1 &&& 858993459) + (y1 / 4 &&& 858993459)) := by
    rw [sh y1 2 2 (by omega) (by decide), show (858993459 : Int32) = nI 858993459 from rfl, nI_and, nI_and, nI_add]
  rw [e3]
  have b3 : (y1 &&& 858993459) + (y1 / 4 &&& 858993459) < 131072 := by
    have a1 : y1 &&& 858993459 ≤ y1 := Nat.and_le_left
    have a2 : y1 / 4 &&& 858993459 ≤ y1 / 4 := Nat.and_le_left
    omega
  generalize (y1 &&& 858993459) + (y1 / 4 &&& 858993459) = y3 at b3 ⊢
  have e5 : (nI y3 + ((nI y3).toUInt32 >>> ((4 : Int32).toUInt32 &&& Int32.toUInt32 31)).toInt32) &&& (252645135 : Int32) = nI ((y3 + y3 / 16) &&& 252645135) := by
    rw [sh y3 4 4 (by omega) (by decide), show (252645135 : Int32) = nI 252645135 from rfl, nI_add, nI_and]
  rw [e5]
  have b5 : (y3 + y3 / 16) &&& 252645135 < 262144 := by
    have a1 : (y3 + y3 / 16) &&& 252645135 ≤ y3 + y3 / 16 := Nat.and_le_left
    omega
  generalize (y3 + y3 / 16) &&& 252645135 = y5 at b5 ⊢
  have e7 : nI y5 + ((nI y5).toUInt32 >>> ((8 : Int32).toUInt32 &&& Int32.toUInt32 31)).toInt32 = nI (y5 + y5 / 256) := by
    rw [sh y5 8 8 (by omega) (by decide), nI_add]
  rw [e7]
  generalize hy7 : y5 + y5 / 256 = y7
  have e9 : nI y7 + ((nI y7).toUInt32 >>> ((16 : Int32).toUInt32 &&& Int32.toUInt32 31)).toInt32 = nI (y7 + y7 / 65536) := by
    rw [sh y7 16 16 (by omega) (by decide), nI_add]
  rw [e9, show (63 : Int32) = nI 63 from rfl, nI_and]
def bcF (k : Nat) : Nat := k % 2 + k / 2 % 2 + k / 4 % 2 + k / 8 % 2 + k / 16 % 2 + k / 32 % 2 + k / 64 % 2 + k / 128 % 2 + k / 256 % 2 + k / 512 % 2 + k / 1024 % 2 + k / 2048 % 2 + k / 4096 % 2 + k / 8192 % 2 + k / 16384 % 2 + k / 32768 % 2
theorem bc_bcF (k : Nat) : bc k = bcF k := by
  have e : ∀ i, (if k.testBit i = true then 1 else 0) = k / 2 ^ i % 2 := by
    intro i
    rw [Nat.testBit_eq_decide_div_mod_eq]
    have : k / 2 ^ i % 2 = 0 ∨ k / 2 ^ i % 2 = 1 := by omega
    rcases this with h | h <;> simp [h]
  unfold bc bcF
  simp only [bcn, e]
  simp
theorem bcN_0 : ((List.range 64).all fun h => (List.range 64).all fun l => bcN (0 + 64 * h + l) == bcF (0 + 64 * h + l)) = true := by decide +kernel
theorem bcN_1 : ((List.range 64).all fun h => (List.range 64).all fun l => bcN (4096 + 64 * h + l) == bcF (4096 + 64 * h + l)) = true := by decide +kernel
theorem bcN_2 : ((List.range 64).all fun h => (List.range 64).all fun l => bcN (8192 + 64 * h + l) == bcF (8192 + 64 * h + l)) = true := by decide +kernel
theorem bcN_3 : ((List.range 64).all fun h => (List.range 64).all fun l => bcN (12288 + 64 * h + l) == bcF (12288 + 64 * h + l)) = true := by decide +kernel
theorem bcN_4 : ((List.range 64).all fun h => (List.range 64).all fun l => bcN (16384 + 64 * h + l) == bcF (16384 + 64 * h + l)) = true := by decide +kernel
theorem bcN_5 : ((List.range 64).all fun h => (List.range 64).all fun l => bcN (20480 + 64 * h + l) == bcF (20480 + 64 * h + l)) = true := by decide +kernel
theorem bcN_6 : ((List.range 64).all fun h => (List.range 64).all fun l => bcN (24576 + 64 * h + l) == bcF (24576 + 64 * h + l)) = true := by decide +kernel
theorem bcN_7 : ((List.range 64).all fun h => (List.range 64).all fun l => bcN (28672 + 64 * h + l) == bcF (28672 + 64 * h + l)) = true := by decide +kernel
theorem bcN_8 : ((List.range 64).all fun h => (List.range 64).all fun l => bcN (32768 + 64 * h + l) == bcF (32768 + 64 * h + l)) = true := by decide +kernel
theorem bcN_9 : ((List.range 64).all fun h => (List.range 64).all fun l => bcN (36864 + 64 * h + l) == bcF (36864 + 64 * h + l)) = true := by decide +kernel
theorem bcN_10 : ((List.range 64).all fun h => (List.range 64).all fun l => bcN (40960 + 64 * h + l) == bcF (40960 + 64 * h + l)) = true := by decide +kernel
theorem bcN_11 : ((List.range 64).all fun h => (List.range 64).all fun l => bcN (45056 + 64 * h + l) == bcF (45056 + 64 * h + l)) = true := by decide +kernel
theorem bcN_12 : ((List.range 64).all fun h => (List.range 64).all fun l => bcN (49152 + 64 * h + l) == bcF (49152 + 64 * h + l)) = true := by decide +kernel
theorem bcN_13 : ((List.range 64).all fun h => (List.range 64).all fun l => bcN (53248 + 64 * h + l) == bcF (53248 + 64 * h + l)) = true := by decide +kernel
theorem bcN_14 : ((List.range 64).all fun h => (List.range 64).all fun l => bcN (57344 + 64 * h + l) == bcF (57344 + 64 * h + l)) = true := by decide +kernel
theorem bcN_15 : ((List.range 64).all fun h => (List.range 64).all fun l => bcN (61440 + 64 * h + l) == bcF (61440 + 64 * h + l)) = true := by decide +kernel
theorem bcN_ok {c k : Nat} (h : ((List.range 64).all fun h => (List.range 64).all fun l => bcN (4096 * c + 64 * h + l) == bcF (4096 * c + 64 * h + l)) = true) (h1 : 4096 * c ≤ k) (h2 : k < 4096 * c + 4096) : bcN k = bc k := by
  have h3 := List.all_eq_true.mp h ((k - 4096 * c) / 64) (List.mem_range.mpr (by omega))
  have h4 := List.all_eq_true.mp h3 ((k - 4096 * c) % 64) (List.mem_range.mpr (by omega))
  rw [show 4096 * c + 64 * ((k - 4096 * c) / 64) + (k - 4096 * c) % 64 = k by omega] at h4
  rw [bc_bcF]
  exact eq_of_beq h4
theorem bcI_nI {k : Nat} (hk : k < 65536) : bcI (nI k) = nI (bc k) := by
  rw [bcI_bcN hk]
  congr 1
  have hc : k / 4096 < 16 := by omega
  match hq : k / 4096, hc with
  | 0, _ => exact bcN_ok (c := 0) bcN_0 (by omega) (by omega)
  | 1, _ => exact bcN_ok (c := 1) bcN_1 (by omega) (by omega)
  | 2, _ => exact bcN_ok (c := 2) bcN_2 (by omega) (by omega)
  | 3, _ => exact bcN_ok (c := 3) bcN_3 (by omega) (by omega)
  | 4, _ => exact bcN_ok (c := 4) bcN_4 (by omega) (by omega)
  | 5, _ => exact bcN_ok (c := 5) bcN_5 (by omega) (by omega)
  | 6, _ => exact bcN_ok (c := 6) bcN_6 (by omega) (by omega)
  | 7, _ => exact bcN_ok (c := 7) bcN_7 (by omega) (by omega)
  | 8, _ => exact bcN_ok (c := 8) bcN_8 (by omega) (by omega)
  | 9, _ => exact bcN_ok (c := 9) bcN_9 (by omega) (by omega)
  | 10, _ => exact bcN_ok (c := 10) bcN_10 (by omega) (by omega)
  | 11, _ => exact bcN_ok (c := 11) bcN_11 (by omega) (by omega)
  | 12, _ => exact bcN_ok (c := 12) bcN_12 (by omega) (by omega)
  | 13, _ => exact bcN_ok (c := 13) bcN_13 (by omega) (by omega)
  | 14, _ => exact bcN_ok (c := 14) bcN_14 (by omega) (by omega)
  | 15, _ => exact bcN_ok (c := 15) bcN_15 (by omega) (by omega)
  | c + 16, hc => exact absurd hc (by omega)
/-- an int that is a set of n things, or isn't -/
theorem set_cases {n : Nat} (hn : n ≤ 12) (x : Int32) : (x < 0 ∨ nI (2 ^ n - 1) < x) ∨ ∃ s, s < 2 ^ n ∧ x = nI s := by
  have hp : 2 ^ n ≤ 4096 := Nat.pow_le_pow_right (by decide) hn
  have hp0 := Nat.two_pow_pos n
  by_cases h : x < 0
  · exact Or.inl (Or.inl h)
  · obtain ⟨j, hj, rfl⟩ := nI_of h
    by_cases q : j < 2 ^ n
    · exact Or.inr ⟨j, q, rfl⟩
    · exact Or.inl (Or.inr (nI_lt (by omega) hj))
theorem ix_cases {n : Nat} (hn : n < 2 ^ 31) (x : Int32) : (x < 0 ∨ nI n ≤ x) ∨ ∃ j, j < n ∧ x = nI j := by
  by_cases h : x < 0
  · exact Or.inl (Or.inl h)
  · obtain ⟨j, hj, rfl⟩ := nI_of h
    by_cases q : j < n
    · exact Or.inr ⟨j, q, rfl⟩
    · exact Or.inl (Or.inr (nI_le (by omega) hj))
