section Pub2
variable {hi hi' : Nat → Nat → Int32} {hl : Nat → Nat → Int64} {σ σ' : Sa} {H : List Sa} {V : Nat → Option Tr} {B : List Nat}
theorem why_ok {x y : Int32} {n : Nat} (hn : n ≤ 400) (h : ¬ whyO x y n < 0) : x = nI (iN x) ∧ y = nI (iN y) ∧ iN x < iN y ∧ iN y ≤ n := by
  unfold whyO at h
  split at h
  · exact absurd (by decide) h
  · next h1 =>
    split at h
    · exact absurd (by decide) h
    · next h2 =>
      have a : isP x n = true := Decidable.not_not.mp (fun z => h1 (Or.inl z))
      have b : isP y n = true := Decidable.not_not.mp (fun z => h1 (Or.inr z))
      obtain ⟨a1, a2⟩ := isP_nI (by omega) a
      obtain ⟨b1, b2⟩ := isP_nI (by omega) b
      refine ⟨a1, b1, ?_, b2⟩
      rw [a1, b1, nI_leI (by omega) (by omega)] at h2
      omega
theorem balO_ok {T : Tr} {bal bd : Int32} (h : vt T) (hl : len T ≤ 400) : vt (balO T bal bd).1 ∧ len (balO T bal bd).1 = len T := by
  unfold balO
  split
  · obtain ⟨a, b⟩ := rebT_vt h hl
    exact ⟨a, by unfold len; rw [b]⟩
  · exact ⟨h, rfl⟩
theorem insT_ok {s k : Nat} {T R : Tr} (hs : s ≤ 16) (hT : vt T) (hR : vt R) (hk : k ≤ len T) : vt (insT s T R k) ∧ len (insT s T R k) = len T + len R ∧ ch (insT s T R k) = (ch T).take k ++ ch R ++ (ch T).drop k := by
  obtain ⟨x1, x2, x3, x4⟩ := splitT_vt hs hT hk
  obtain ⟨y1, y2⟩ := splitT_len hs hT hk
  have j1 := joinT_vt (s := s) x1 hR hs
  have e : ch (insT s T R k) = (ch T).take k ++ ch R ++ (ch T).drop k := by unfold insT; rw [joinT_ch j1 x2, joinT_ch x1 hR, x3, x4]
  exact ⟨joinT_vt j1 x2 hs, by unfold insT; rw [joinT_len j1 x2, joinT_len x1 hR]; omega, e⟩
theorem outT_ok {s a b : Nat} {T : Tr} (hs : s ≤ 16) (hT : vt T) (hab : a ≤ b) (hb : b ≤ len T) : vt (outT s T a b).1 ∧ vt (outT s T a b).2 ∧ len (outT s T a b).1 = len T - (b - a) ∧ len (outT s T a b).2 = b - a ∧ ch (outT s T a b).1 = (ch T).take a ++ (ch T).drop b ∧ ch (outT s T a b).2 = ((ch T).drop a).take (b - a) := by
  obtain ⟨x1, x2, x3, x4⟩ := splitT_vt hs hT (k := a) (by omega)
  obtain ⟨y1, y2⟩ := splitT_len hs hT (k := a) (by omega)
  obtain ⟨u1, u2', u3, u4⟩ := splitT_vt hs x2 (k := b - a) (by omega)
  obtain ⟨v1, v2⟩ := splitT_len hs x2 (k := b - a) (by omega)
  refine ⟨joinT_vt x1 u2' hs, u1, by unfold outT; rw [joinT_len x1 u2']; omega, v1, ?_, ?_⟩
  · unfold outT; rw [joinT_ch x1 u2', x3, u4, x4, List.drop_drop, show a + (b - a) = b by omega]
  · unfold outT; rw [u3, x4]
end Pub2

