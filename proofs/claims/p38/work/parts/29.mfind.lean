theorem vt_c {T : Tr} (h : vt T) : ∀ x ∈ ch T, x < 128 := by
  rcases h with rfl | h
  · intro x hx; cases hx
  · exact vn_c h
theorem getD_mem {l : List Nat} {i : Nat} (h : i < l.length) : l.getD i 0 ∈ l := by
  rw [List.getD_eq_getElem?_getD, List.getElem?_eq_getElem h]
  exact List.getElem_mem h
section FindS
variable {hi hi' : Nat → Nat → Int32} {hl : Nat → Nat → Int64} {σ σ' : Sa} {H : List Sa} {V : Nat → Option Tr} {B : List Nat}
end FindS

