/-! what stands after the two constructors -/
def pm_0 : pm_M := (fun _ _ => 0, fun _ _ => 0, fun _ _ => none, fun _ => 0, fun _ => 0, 0)
def dk0 : pm_M := sN pm_0 8 0
def dk1 : pm_M := sR (sN dk0 15 10) 0 0 (some (mZ dk0))
def dk2 : pm_M := sR (sN dk1 14 24) 0 1 (some (mZ dk1))
def dk3 : pm_M := sR (sN dk2 11 12) 0 2 (some (mZ dk2))
def dk4 : pm_M := sR (sN dk3 11 12) 0 3 (some (mZ dk3))
def dk4b : pm_M := sN dk4 3 0
def dk5 : pm_M := sR dk4b 0 4 (some (mZ dk4))
def dk6 : pm_M := sN dk5 6 0
def dk7 : pm_M := sR (sN dk6 12 64) (mZ dk5) 0 (some (mZ dk6))
def dk8 : pm_M := sR (sN dk7 11 150) (mZ dk5) 1 (some (mZ dk7))
def dk9 : pm_M := sR dk8 0 5 (some (mZ dk5))
def dk10 : pm_M := sN dk9 0 0
def dk11 : pm_M := sR (sN dk10 11 40) (mZ dk9) 0 (some (mZ dk10))
def dk12 : pm_M := sR (sN dk11 11 40) (mZ dk9) 1 (some (mZ dk11))
def dk13 : pm_M := sR dk12 0 6 (some (mZ dk9))
def dk14 : pm_M := sN dk13 2 0
def dk15 : pm_M := sR (sN dk14 11 12) (mZ dk13) 0 (some (mZ dk14))
def dk16 : pm_M := sR dk15 0 7 (some (mZ dk13))
def dk17 : pm_M := sN dk16 7 0
def dk18 : pm_M := sR (sM dk17 12 6) (mZ dk16) 0 (some (mZ dk17))
def dk19 : pm_M := sR (sM dk18 12 6) (mZ dk16) 1 (some (mZ dk18))
def dk20 : pm_M := sR (sN dk19 11 12) (mZ dk16) 2 (some (mZ dk19))
def dk21 : pm_M := sI dk20 (mZ dk16) 3 2
def dk22 : pm_M := sI dk21 (mZ dk16) 4 1
def dk23 : pm_M := sR dk22 0 8 (some (mZ dk16))
def ds : Nat → pm_M
  | 0 => dk23
  | i + 1 => sR (sI (sR (sN (sN (ds i) 5 0) 12 200) (mZ (ds i)) 0 (some (mZ (sN (ds i) 5 0)))) (mZ (ds i)) 1 (-1)) 1 i (some (mZ (ds i)))
def da : Nat → pm_M
  | 0 => sI (sI (sI (ds 10) 0 9 8) 0 10 (((1 : Int32) <<< ((8 : Int32) &&& 31)) - (1 : Int32))) 0 11 0
  | i + 1 => sI (da i) 3 i 1
def dz : pm_M := sI (sI (sI (da 12) 6 3 0) 6 4 0) 6 5 0
def mk0 : pm_M := sN dz 9 0
def mk1 : pm_M := sI (sI mk0 62 0 8) 62 1 255
def mk2 : pm_M := sR (sN mk1 11 12) 62 2 (some (mZ mk1))
def mk3 : pm_M := sR (sN mk2 13 98304) 62 4 (some (mZ mk2))
def mk4 : pm_M := sR (sN mk3 10 98304) 62 5 (some (mZ mk3))
def mk5 : pm_M := sR (sN mk4 11 24) 62 6 (some (mZ mk4))
def mk6 : pm_M := sR (sN mk5 11 24) 62 7 (some (mZ mk5))
def mk7 : pm_M := sR (sN mk6 11 24) 62 8 (some (mZ mk6))
def mk8 : pm_M := sR (sN mk7 11 24) 62 9 (some (mZ mk7))
def mk9 : pm_M := sR (sN mk8 11 3) 62 10 (some (mZ mk8))
def mk10 : pm_M := sR (sN mk9 11 10) 62 11 (some (mZ mk9))
def mk11 : pm_M := sR (sN mk10 11 10) 62 12 (some (mZ mk10))
def mk12 : pm_M := sR (sN mk11 12 2000) 62 13 (some (mZ mk11))
def mk13 : pm_M := sR (sN mk12 12 200) 62 14 (some (mZ mk12))
def mk14 : pm_M := sR (sN mk13 11 200) 62 18 (some (mZ mk13))
def mk15 : pm_M := sR (sN mk14 11 200) 62 19 (some (mZ mk14))
def mk16 : pm_M := sR (sN mk15 11 16) 62 20 (some (mZ mk15))
def mk17 : pm_M := sR (sN mk16 11 72) 62 21 (some (mZ mk16))
def mk18 : pm_M := sR (sN mk17 11 72) 62 22 (some (mZ mk17))
def mk19 : pm_M := sR (sN mk18 10 4096) 62 23 (some (mZ mk18))
def mk20 : pm_M := sR (sN mk19 11 12) 62 24 (some (mZ mk19))
def mk21 : pm_M := sR (sN mk20 11 12) 62 25 (some (mZ mk20))
def ma : Nat → pm_M
  | 0 => sI (sI (sI mk21 62 0 8) 62 1 (((1 : Int32) <<< ((8 : Int32) &&& 31)) - (1 : Int32))) 62 3 0
  | i + 1 => sI (ma i) 63 i 1
def mb : Nat → pm_M
  | 0 => ma 12
  | i + 1 => sI (mb i) 70 i 0
theorem z_0 : mZ pm_0 = 0 := rfl
theorem ds_ok : ∀ i, i < 11 → mR (ds i) 0 0 = some 1 ∧ mN (ds i) 1 = 10 := by decide +kernel
theorem da_ok : ∀ i, i < 13 → mR (da i) 0 2 = some 3 ∧ mN (da i) 3 = 12 ∧ mR (da i) 0 5 = some 6 := by decide +kernel
theorem ma_ok : ∀ i, i < 13 → mR (ma i) 62 2 = some 63 ∧ mN (ma i) 63 = 12 := by decide +kernel
theorem mb_ok : ∀ i, i < 4 → mR (mb i) 62 10 = some 70 ∧ mN (mb i) 70 = 3 := by decide +kernel
theorem z_dz : mZ dz = 62 := by decide +kernel
