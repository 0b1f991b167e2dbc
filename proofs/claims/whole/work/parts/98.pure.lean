theorem law_pure (b Ln : Nat) (xs : Nat → Int32) (hL : Ln ≤ 2048) : ∃ h', b_L_law b Ln xs (locsOf 4 [.retAddr b], [], h00) = some (.inr (.inr (some (.int 1), h'))) ∧ h'.1 = 66 := sorry
