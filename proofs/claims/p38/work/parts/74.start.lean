set_option maxRecDepth 100000 in
theorem LR_ok : (LR.all fun e => decide (e.1 < 55) && (match e.2.1 with | none => e.2.2 == none | some j => decide (j < 12))) = true := by decide +kernel
set_option maxRecDepth 100000 in
theorem rfL_ok : (rfL.all fun e => decide (e.1 < 55) && decide (e.2.1 < 12)) = true := by decide +kernel
set_option maxRecDepth 100000 in
theorem LR_eq : ((List.range 55).all fun k => (List.range 12).all fun j => rfOf LR k j == rf0 k j) = true := by decide +kernel
theorem LR_out {k j : Nat} (h : 55 ≤ k ∨ 12 ≤ j) : rfOf LR k j = none := by
  unfold rfOf
  cases e : LR.find? (fun q => q.1 == k && (q.2.1 == none || q.2.1 == some j)) with
  | none => rfl
  | some q =>
    have h1 := List.find?_some e
    have h2 := List.all_eq_true.mp LR_ok q (List.mem_of_find?_eq_some e)
    obtain ⟨a, b, c⟩ := q
    simp only [Bool.and_eq_true, Bool.or_eq_true, beq_iff_eq, decide_eq_true_eq] at h1 h2
    obtain ⟨h1a, h1b⟩ := h1
    obtain ⟨h2a, h2b⟩ := h2
    rcases h1b with rfl | rfl
    · have : c = none := by simpa using h2b
      rw [this]; rfl
    · have : j < 12 := by simpa using h2b
      omega
theorem rf0_out {k j : Nat} (h : 55 ≤ k ∨ 12 ≤ j) : rf0 k j = none := by
  unfold rf0
  cases e : rfL.find? (fun q => q.1 == k && q.2.1 == j) with
  | none => rfl
  | some q =>
    have h1 := List.find?_some e
    have h2 := List.all_eq_true.mp rfL_ok q (List.mem_of_find?_eq_some e)
    simp only [Bool.and_eq_true, beq_iff_eq, decide_eq_true_eq] at h1 h2
    omega
theorem rf_start : rfOf LR = rf0 := by
  funext k j
  by_cases h : 55 ≤ k ∨ 12 ≤ j
  · rw [LR_out h, rf0_out h]
  · have h1 := List.all_eq_true.mp LR_eq k (List.mem_range.mpr (by omega))
    have h2 := List.all_eq_true.mp h1 j (List.mem_range.mpr (by omega))
    exact beq_iff_eq.mp h2
theorem hi_zero {l : List (Nat × Option Nat × Int32)} {k : Nat} (h : (l.all fun e => !(e.1 == k) || e.2.2 == 0) = true) (j : Nat) : hiOf l k j = 0 := by
  unfold hiOf
  cases e : l.find? (fun q => q.1 == k && (q.2.1 == none || q.2.1 == some j)) with
  | none => rfl
  | some q =>
    have h1 := List.find?_some e
    have h2 := List.all_eq_true.mp h q (List.mem_of_find?_eq_some e)
    simp only [Bool.and_eq_true, Bool.or_eq_true, beq_iff_eq, Bool.not_eq_true', beq_eq_false_iff_ne] at h1 h2
    rcases h2 with z | z
    · exact absurd h1.1 z
    · show q.2.2 = 0
      exact z
def S00 : St := ((.nil, fun _ => .nil, 0, fun _ => -5, 8, nI 1, nI 0), [], fun _ => none, [])
set_option maxRecDepth 100000 in
theorem LI_z9 (j : Nat) : hiOf LI 9 j = 0 := hi_zero (by decide +kernel) j
set_option maxRecDepth 100000 in
theorem LI_z51 (j : Nat) : hiOf LI 51 j = 0 := hi_zero (by decide +kernel) j
set_option maxRecDepth 100000 in
theorem LI_z52 (j : Nat) : hiOf LI 52 j = 0 := hi_zero (by decide +kernel) j
set_option maxRecDepth 100000 in
theorem LI_z0 (j : Nat) : hiOf LI 0 j = 0 := hi_zero (by decide +kernel) j
set_option maxRecDepth 100000 in
theorem LI_z31 (j : Nat) : hiOf LI 31 j = 0 := hi_zero (by decide +kernel) j
set_option maxRecDepth 100000 in
theorem LI_at : hiOf LI 2 7 = nI 1 ∧ hiOf LI 2 8 = nI 19999 ∧ (hiOf LI 28 2 = nI 0 ∧ hiOf LI 28 3 = nI 8 ∧ hiOf LI 28 4 = nI 1 ∧ hiOf LI 28 5 = nI 0 ∧ hiOf LI 28 6 = nI 0) ∧ (hiOf LI 29 0 = -5 ∧ hiOf LI 29 1 = -5 ∧ hiOf LI 29 2 = -5 ∧ hiOf LI 29 3 = -5) := by decide +kernel
theorem RC_start : RC (hiOf LI) z64 S00 := by
  obtain ⟨a1, a2, ⟨b2, b3, b4, b5, b6⟩, ⟨c0, c1, c2, c3⟩⟩ := LI_at
  have eu : unr (hiOf LI 9) 1 = 19999 := cnt_full 19999 1 fun k _ _ => LI_z9 k
  refine ⟨1, 0, ⟨Nat.le_refl _, by decide, a1, by rw [eu]; exact a2, Nat.zero_le _⟩, ⟨by decide, LI_z31 1, LI_z31 2, ⟨b2, b3, b4, b6, four (g := hiOf LI 29) (h := fun _ => -5) c0 c1 c2 c3, ⟨0, b5, rfl⟩, fun i hi0 => by omega⟩, fun i τ h => (by cases h), fun v hv => ⟨LI_z52 v, LI_z51 v⟩, LI_z0 9, fun i hi0 => (by cases hi0), fun i hi0 => (by cases hi0)⟩⟩
theorem VV_start : VV S00 := ⟨⟨Or.inl rfl, Nat.zero_le _, fun i _ => ⟨Or.inl rfl, Nat.zero_le _⟩, Nat.zero_le _, by decide, by decide⟩, fun τ h => (by cases h), Nat.zero_le _, fun v T h => (by cases h), Nat.zero_le _, fun c h => (by cases h)⟩
section KeepS
variable {hi hi' : Nat → Nat → Int32} {hl : Nat → Nat → Int64} {S : St}
theorem RC.kc (h : RC hi hl S) (hv : VV S) (k : KC hi hi') : RC hi' hl S := by
  obtain ⟨σ, H, V, B⟩ := S
  obtain ⟨a, o, hu, h1, h2, h3, h4, h5, h6, h7, h8, h9⟩ := h
  obtain ⟨v1, v2, v3, v4, v5, v6⟩ := hv
  have n : Nr hi hi' := ⟨k 3 (by decide), k 4 (by decide), k 5 (by decide), k 6 (by decide), k 9 (by decide)⟩
  have sl : ∀ i, 33 ≤ slo6 o i ∧ slo6 o i ≤ 48 := fun i => by unfold slo6; omega
  have ec : ∀ c, isC c → rgL hi' c = rgL hi c := fun c hc => rgL.eq (k c (by have := hc.lt; omega)) (k (c + 2) (by have := hc.lt; omega))
  refine ⟨a, o, hu.eq (k 2 (by decide)) (k 9 (by decide)), h1, by rw [k 31 (by decide)]; exact h2, by rw [k 31 (by decide)]; exact h3, ?_, fun i τ hτ => ?_, fun v hv => ?_, by rw [k 0 (by decide)]; exact h7, by rw [k 53 (by decide)]; exact h8, fun i hi0 => ?_⟩
  · rw [n.2.2.2.2]; exact h4.keep v1 n (k 28 (by decide)) (k 29 (by decide)) (k 30 (by decide))
  · rw [n.2.2.2.2]
    have := sl i
    exact (h5 i τ hτ).keep (v2 τ (List.mem_of_getElem? hτ)) n (k _ (by omega)) (k _ (by omega)) (k _ (by omega))
  · rw [n.2.2.2.2]; exact (h6 v hv).keep (fun T z => (v4 v T z).1) n (k 51 (by decide)) (k 52 (by decide))
  · rw [ec _ slo6_C, ec _ (by split; exact slo6_C; exact isC.n)]
    exact h9 i hi0
end KeepS

