theorem UN.le {hi : Nat → Nat → Int32} {a m k : Nat} (h : UN hi a m) (hk : k ≤ m) : UN hi a k := ⟨h.1, h.2.1, h.2.2.1, h.2.2.2.1, Nat.le_trans hk h.2.2.2.2⟩
/-- a call that makes nodes: it ends with a number that stands for T; m are free still -/
def MK (hi : Nat → Nat → Int32) (hl : Nat → Nat → Int64) (a m : Nat) (T : Tr) : Option Value → Hp → Prop := fun v h' => ∃ n a' hi' hl', v = some (.int (nI n)) ∧ h' = (66, hi', hl', rf0) ∧ a ≤ a' ∧ UN hi' a' m ∧ Nf hi hi' ∧ NS (Al (hi 9) a) hi hi' hl hl' ∧ isT (Al (hi' 9) a') hi' hl' T n
section JoinsC
variable {A : Nat → Prop} {hi : Nat → Nat → Int32} {hl : Nat → Nat → Int64} {a m : Nat}
theorem isT.kids {X : Tr} {x : Nat} (vX : vn X) (h : isT A hi hl X x) : ∃ l r, hi 3 x = nI l ∧ hi 4 x = nI r ∧ isT A hi hl (tl X) l ∧ isT A hi hl (tR X) r ∧ vt (tl X) ∧ vt (tR X) := by
  induction X, vX using vn_ind with
  | h1 l h0 l1 l2 =>
    cases l with
    | nil => exact absurd rfl h0
    | cons c cs => exact ⟨0, 0, h.2.1.1, h.2.1.2, rfl, rfl, Or.inl rfl, Or.inl rfl⟩
  | h2 p q vp vq i1 i2 =>
    obtain ⟨_, _, _, l, r, q1, q2, q3, q4⟩ := h
    exact ⟨l, r, q1, q2, q3, q4, Or.inr vp, Or.inr vq⟩
theorem isN_vn {X : Tr} (h : vn X) : isN X = false := by
  induction X, h using vn_ind with
  | h1 l h0 l1 l2 =>
    cases l with
    | nil => exact absurd rfl h0
    | cons c cs => rfl
  | h2 p q vp vq i1 i2 => rfl
theorem isL_vn {X : Tr} (hv : vt X) (h : isL X = true) : vn X := by
  rcases hv with rfl | hv
  · cases h
  · exact hv
end JoinsC
