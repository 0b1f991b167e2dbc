/-- what undo restores: text, ring (its ropes, how many), marks, leaf size, balancing, builds -/
abbrev Sa : Type := Tr × (Nat → Tr) × Nat × (Nat → Int32) × Nat × Int32 × Int32
/-- a state that can be -/
def SV : Sa → Prop := fun (T, ring, rc, _, s, _, _) => vt T ∧ len T ≤ 400 ∧ (∀ i, i < 4 → vt (ring i) ∧ len (ring i) ≤ 400) ∧ rc ≤ 4 ∧ 2 ≤ s ∧ s ≤ 16
def consR (R : Tr) (ring : Nat → Tr) : Nat → Tr
  | 0 => R
  | i + 1 => ring i
def balO (T : Tr) (bal bd : Int32) : Tr × Int32 := if bal = nI 1 ∧ ¬ balT T = true then (rebT T, bd + nI 1) else (T, bd)
section StateS
variable {hi : Nat → Nat → Int32} {hl : Nat → Nat → Int64}
end StateS

