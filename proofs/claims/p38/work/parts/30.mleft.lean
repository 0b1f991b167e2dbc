def nL (n : Nat) : Int64 := Int64.ofNat n
theorem nL_add {a b : Nat} : nL a + nL b = nL (a + b) := (Int64.ofNat_add a b).symm
theorem nL_mul {a b : Nat} : nL a * nL b = nL (a * b) := (Int64.ofNat_mul a b).symm
theorem nL_rem {a m : Nat} (ha : a < 2 ^ 63) (hm : m < 2 ^ 63) : nL a - nL a / nL m * nL m = nL (a % m) := by
  unfold nL
  rw [← Int64.ofNat_div ha hm, ← Int64.ofNat_mul, ← Int64.ofNat_sub _ _ (Nat.div_mul_le_self a m)]
  congr 1
  have := Nat.div_add_mod a m
  rw [Nat.mul_comm] at this
  omega
theorem nL_i {a : Nat} : (nL a).toInt32 = nI a := Int64.toInt32_ofNat'
theorem nI_toL {a : Nat} (h : a < 2 ^ 31) : (nI a).toInt64 = nL a := by
  refine Int32.toInt64_ofNat' ?_
  rw [show Int32.maxValue.toInt = 2147483647 by decide]
  omega
theorem nL_0 : (0 : Int64) = nL 0 := rfl
theorem nL_1 : (1 : Int64) = nL 1 := rfl
theorem nL_2 : (2 : Int64) = nL 2 := rfl
theorem nL_M : (1000000007 : Int64) = nL 1000000007 := rfl
theorem nL_Mz : (nL 1000000007 = nL 0) ↔ False := by decide
section LeftS
variable {hi hi' : Nat → Nat → Int32} {hl : Nat → Nat → Int64} {σ σ' : Sa} {H : List Sa} {V : Nat → Option Tr} {B : List Nat}
end LeftS

