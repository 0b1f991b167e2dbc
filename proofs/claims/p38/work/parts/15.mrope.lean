def sm (l : List (Nat × Nat)) : Nat := (l.map fun p => p.1).sum
theorem sm_app {a b : List (Nat × Nat)} : sm (a ++ b) = sm a + sm b := by unfold sm; rw [List.map_append, List.sum_append]
theorem sm_succ {F : List (Nat × Nat)} {k : Nat} (h : k < F.length) : sm (F.take (k + 1)) = sm (F.take k) + F[k].1 := by
  rw [List.take_succ_eq_append_getElem h, sm_app]; unfold sm; simp
section RopeS
variable {hi : Nat → Nat → Int32} {hl : Nat → Nat → Int64} {r : Nat} {F : List (Nat × Nat)} {C : List Nat}
end RopeS

