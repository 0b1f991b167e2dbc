def insT (s : Nat) (T R : Tr) (k : Nat) : Tr := joinT s (joinT s (splitT s T k).1 R) (splitT s T k).2
def outT (s : Nat) (T : Tr) (a b : Nat) : Tr × Tr := (joinT s (splitT s T a).1 (splitT s (splitT s T a).2 (b - a)).2, (splitT s (splitT s T a).2 (b - a)).1)
def mon (k n : Nat) (m : Int32) : Int32 := if nI k ≤ m then m + nI n else m
def mbk (a b : Nat) (m : Int32) : Int32 := if nI b < m then m - nI (b - a) else if nI a ≤ m then nI a else m
section ChangeS
variable {hi : Nat → Nat → Int32} {hl : Nat → Nat → Int64}
theorem splitT_len {s k : Nat} {T : Tr} (hs : s ≤ 16) (hT : vt T) (hk : k ≤ len T) : len (splitT s T k).1 = k ∧ len (splitT s T k).2 = len T - k := by
  obtain ⟨-, -, a, b⟩ := splitT_vt hs hT hk
  unfold len at *
  rw [a, b, List.length_take_of_le hk, List.length_drop]
  exact ⟨rfl, rfl⟩
end ChangeS

