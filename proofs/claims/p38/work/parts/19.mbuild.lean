def bl : Nat → Nat → Nat → Nat
  | 0, _, _ => 0
  | d + 1, k, n => if n ≤ 1 then 0 else if k < (n + 1) / 2 then 1 + bl d k ((n + 1) / 2) else 1 + bl d (k - (n + 1) / 2) (n - (n + 1) / 2)
def leavesOk (L : List Tr) : Prop := ∀ t ∈ L, vn t ∧ isL t = true
theorem buildT_fl : ∀ (d : Nat) (L : List Tr), leavesOk L → L.length ≤ 2 ^ d → ∀ e, (fl e (buildT (d + 1) L)).length = L.length ∧ ∀ i t, L[i]? = some t → (fl e (buildT (d + 1) L))[i]? = some (len t, e + bl (d + 1) i L.length)
  | d, L, hL, hn, e => by
    unfold buildT
    by_cases h0 : L.length = 0
    · rw [if_pos h0]
      refine ⟨by rw [h0]; rfl, fun i t hi => ?_⟩
      have := (List.getElem?_eq_some_iff.mp hi).1
      omega
    · rw [if_neg h0]
      by_cases h1 : L.length = 1
      · rw [if_pos h1]
        match L, h1 with
        | [t], _ =>
          have ht := hL t List.mem_cons_self
          obtain ⟨-, -, a3, -⟩ := L_lst ht.2 e
          show (fl e t).length = 1 ∧ _
          rw [show ([t] : List Tr).headD .nil = t from rfl, a3]
          refine ⟨rfl, fun i u hi => ?_⟩
          have hlt := (List.getElem?_eq_some_iff.mp hi).1
          have : i = 0 := by simpa using hlt
          subst this
          cases hi
          rfl
      · rw [if_neg h1]
        have hh : (L.length + 1) / 2 ≤ L.length := by omega
        cases d with
        | zero => simp at hn; omega
        | succ d =>
          have e2 : 2 ^ (d + 1) = 2 * 2 ^ d := by rw [Nat.pow_succ]; omega
          have t1 : (L.take ((L.length + 1) / 2)).length = (L.length + 1) / 2 := List.length_take_of_le hh
          have t2 : (L.drop ((L.length + 1) / 2)).length = L.length - (L.length + 1) / 2 := List.length_drop
          obtain ⟨a1, a2⟩ := buildT_fl d (L.take ((L.length + 1) / 2)) (fun t ht => hL t (List.mem_of_mem_take ht)) (by rw [t1]; omega) (e + 1)
          obtain ⟨b1, b2⟩ := buildT_fl d (L.drop ((L.length + 1) / 2)) (fun t ht => hL t (List.mem_of_mem_drop ht)) (by rw [t2]; omega) (e + 1)
          rw [t1] at a1 a2
          rw [t2] at b1 b2
          refine ⟨by rw [fl_p, List.length_append, a1, b1]; omega, fun i t hi => ?_⟩
          rw [fl_p]
          have hil := (List.getElem?_eq_some_iff.mp hi).1
          conv => rhs; unfold bl
          rw [if_neg (by omega)]
          by_cases c : i < (L.length + 1) / 2
          · rw [if_pos c, List.getElem?_append_left (by rw [a1]; exact c), a2 i t (by rw [List.getElem?_take, if_pos c]; exact hi), Nat.add_assoc]
          · rw [if_neg c, List.getElem?_append_right (by rw [a1]; omega), a1, b2 (i - (L.length + 1) / 2) t (by rw [List.getElem?_drop, show (L.length + 1) / 2 + (i - (L.length + 1) / 2) = i by omega]; exact hi), Nat.add_assoc]
theorem buildT_ch : ∀ (d : Nat) (L : List Tr), L.length ≤ 2 ^ d → ch (buildT (d + 1) L) = (L.map ch).flatten
  | d, L, hn => by
    unfold buildT
    by_cases h0 : L.length = 0
    · rw [if_pos h0, List.length_eq_zero_iff.mp h0]; rfl
    · rw [if_neg h0]
      by_cases h1 : L.length = 1
      · rw [if_pos h1]
        match L, h1 with
        | [t], _ => simp
      · rw [if_neg h1]
        cases d with
        | zero => simp at hn; omega
        | succ d =>
          have e2 : 2 ^ (d + 1) = 2 * 2 ^ d := by rw [Nat.pow_succ]; omega
          have t1 : (L.take ((L.length + 1) / 2)).length = (L.length + 1) / 2 := List.length_take_of_le (by omega)
          have t2 : (L.drop ((L.length + 1) / 2)).length = L.length - (L.length + 1) / 2 := List.length_drop
          show ch (buildT (d + 1) _) ++ ch (buildT (d + 1) _) = _
          rw [buildT_ch d _ (by rw [t1]; omega), buildT_ch d _ (by rw [t2]; omega), ← List.flatten_append, ← List.map_append, List.take_append_drop]
theorem buildT_vn : ∀ (d : Nat) (L : List Tr), leavesOk L → L.length ≤ 2 ^ d → L ≠ [] → vn (buildT (d + 1) L)
  | d, L, hL, hn, hne => by
    have h0 : L.length ≠ 0 := fun z => hne (List.length_eq_zero_iff.mp z)
    unfold buildT
    rw [if_neg h0]
    by_cases h1 : L.length = 1
    · rw [if_pos h1]
      match L, h1 with
      | [t], _ => exact (hL t List.mem_cons_self).1
    · rw [if_neg h1]
      cases d with
      | zero => simp at hn; omega
      | succ d =>
        have e2 : 2 ^ (d + 1) = 2 * 2 ^ d := by rw [Nat.pow_succ]; omega
        have t1 : (L.take ((L.length + 1) / 2)).length = (L.length + 1) / 2 := List.length_take_of_le (by omega)
        have t2 : (L.drop ((L.length + 1) / 2)).length = L.length - (L.length + 1) / 2 := List.length_drop
        exact ⟨buildT_vn d _ (fun t ht => hL t (List.mem_of_mem_take ht)) (by rw [t1]; omega) (fun z => by rw [z] at t1; simp at t1; omega), buildT_vn d _ (fun t ht => hL t (List.mem_of_mem_drop ht)) (by rw [t2]; omega) (fun z => by rw [z] at t2; simp at t2; omega)⟩
/-- the leaves of a rope -/
theorem lvs_ok {t : Tr} (h : vn t) : leavesOk (lvs t) ∧ (lvs t).length = nlv t ∧ ((lvs t).map ch).flatten = ch t ∧ ∀ (d i : Nat) (p : Nat × Nat), (fl d t)[i]? = some p → ∃ u, (lvs t)[i]? = some u ∧ len u = p.1 := by
  induction t, h using vn_ind with
  | h1 l h0 h1 h2 =>
    have e : lvs (lf l) = [lf l] := by cases l with | nil => exact absurd rfl h0 | cons c cs => rfl
    rw [e]
    refine ⟨fun t ht => ?_, by rw [nlv_lf h0]; rfl, by simp, fun d i p hp => ?_⟩
    · cases List.mem_singleton.mp ht; exact ⟨vn_lf h0 h1 h2, isL_lf h0⟩
    · rw [fl_lf h0] at hp
      have hlt := (List.getElem?_eq_some_iff.mp hp).1
      have : i = 0 := by simpa using hlt
      subst this
      cases hp
      exact ⟨_, rfl, by unfold len; rw [ch_lf]⟩
  | h2 a b ha hb i1 i2 =>
    obtain ⟨a1, a2, a3, a4⟩ := i1
    obtain ⟨b1, b2, b3, b4⟩ := i2
    refine ⟨fun t ht => ?_, ?_, ?_, fun d i p hp => ?_⟩
    · rcases List.mem_append.mp (show t ∈ lvs a ++ lvs b from ht) with q | q
      · exact a1 t q
      · exact b1 t q
    · show (lvs a ++ lvs b).length = _; rw [List.length_append, a2, b2, nlv_p ha hb]
    · show ((lvs a ++ lvs b).map ch).flatten = ch a ++ ch b; rw [List.map_append, List.flatten_append, a3, b3]
    · rw [fl_p] at hp
      show ∃ u, (lvs a ++ lvs b)[i]? = some u ∧ _
      by_cases c : i < nlv a
      · rw [List.getElem?_append_left (by rw [fl_len ha]; exact c)] at hp
        rw [List.getElem?_append_left (by rw [a2]; exact c)]
        exact a4 _ _ _ hp
      · rw [List.getElem?_append_right (by rw [fl_len ha]; omega), fl_len ha] at hp
        rw [List.getElem?_append_right (by rw [a2]; omega), a2]
        exact b4 _ _ _ hp
def rebT (t : Tr) : Tr := buildT 21 (lvs t)
theorem rebT_vt {t : Tr} (h : vt t) (hl : len t ≤ 400) : vt (rebT t) ∧ ch (rebT t) = ch t := by
  rcases h with rfl | h
  · exact ⟨Or.inl rfl, rfl⟩
  · obtain ⟨a1, a2, a3, -⟩ := lvs_ok h
    have := nlv_len h
    have hp := nlv_pos h
    have e : (lvs t).length ≤ 2 ^ 20 := by rw [a2]; exact Nat.le_trans (show nlv t ≤ 400 by omega) (by decide)
    exact ⟨Or.inr (buildT_vn 20 _ a1 e (fun z => by rw [z] at a2; simp at a2; omega)), by unfold rebT; rw [buildT_ch 20 _ e, a3]⟩
/-- the leaves with their levels in a rope built anew -/
def rl (F : List (Nat × Nat)) (k : Nat) : List (Nat × Nat) := (List.range F.length).map fun i => ((F.getD i (0, 0)).1, if i < k then bl 21 i F.length else (F.getD i (0, 0)).2)
section BuildS
variable {hi : Nat → Nat → Int32} {hl : Nat → Nat → Int64} {r : Nat} {F : List (Nat × Nat)} {C : List Nat}
end BuildS

