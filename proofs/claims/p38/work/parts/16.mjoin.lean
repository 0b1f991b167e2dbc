section JoinS
variable {hi : Nat → Nat → Int32} {hl : Nat → Nat → Int64} {r : Nat} {F : List (Nat × Nat)} {C : List Nat}
theorem L_lst {t : Tr} (h : isL t = true) (d : Nat) : lst1 d t = (len t, d) ∧ fst1 d t = (len t, d) ∧ fl d t = [(len t, d)] ∧ nlv t = 1 := by
  cases t <;> first | exact ⟨rfl, rfl, rfl, rfl⟩ | cases h
end JoinS

