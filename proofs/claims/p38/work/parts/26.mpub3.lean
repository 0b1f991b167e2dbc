section Pub3
variable {hi hi' : Nat → Nat → Int32} {hl : Nat → Nat → Int64} {σ σ' : Sa} {H : List Sa} {V : Nat → Option Tr} {B : List Nat}
theorem isR_of {x : Int32} {n : Nat} (hn : n < 2 ^ 31) (h : isR x n = true) : x = nI (iN x) ∧ iN x < n := by
  unfold isR at h
  rw [decide_eq_true_eq, nI_0] at h
  obtain ⟨k, hk, rfl⟩ := nI_of2 (M := nI n) (n := n) (nI_toInt hn) (Int32.not_lt.mpr h.1) (Int32.le_of_lt h.2)
  rw [nI_ltI (by omega) hn] at h
  unfold iN
  rw [nI_clamp (by omega)]
  exact ⟨rfl, h.2⟩
end Pub3

