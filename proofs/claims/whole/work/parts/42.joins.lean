theorem UN.le {hi : Nat → Nat → Int32} {a m k : Nat} (h : UN hi a m) (hk : k ≤ m) : UN hi a k := ⟨h.1, h.2.1, h.2.2.1, h.2.2.2.1, Nat.le_trans hk h.2.2.2.2⟩
/-- a call that makes nodes: it ends with a number that stands for T; m are free still -/
def MK (hi : Nat → Nat → Int32) (hl : Nat → Nat → Int64) (a m : Nat) (T : Tr) : Option Value → Hp → Prop := fun v h' => ∃ n a' hi' hl', v = some (.int (nI n)) ∧ h' = (66, hi', hl', rf0) ∧ a ≤ a' ∧ UN hi' a' m ∧ Nf hi hi' ∧ NS (Al (hi 9) a) hi hi' hl hl' ∧ isT (Al (hi' 9) a') hi' hl' T n
