def csz (s : Nat) : Nat → Nat → List (Nat × Nat)
  | 0, _ => []
  | n + 1, m => if m = 0 then [] else (min s m, 0) :: csz s n (m - s)
theorem csz_len {s : Nat} (hs : 2 ≤ s) : ∀ n m, (csz s n m).length ≤ m
  | 0, m => Nat.zero_le _
  | n + 1, m => by
    unfold csz
    split
    · simp
    · have := csz_len hs n (m - s)
      simp only [List.length_cons]; omega
theorem chunks_ok {s : Nat} (hs : 2 ≤ s) (hs2 : s ≤ 16) : ∀ (n : Nat) (l : List Nat), l.length ≤ n → (∀ x ∈ l, x < 128) → leavesOk (chunks s n l) ∧ ((chunks s n l).map ch).flatten = l ∧ (chunks s n l).map (fun t => (len t, 0)) = csz s n l.length
  | 0, l, hn, _ => by
    have : l = [] := List.length_eq_zero_iff.mp (Nat.le_zero.mp hn)
    subst this
    exact ⟨fun t ht => (by cases ht), rfl, rfl⟩
  | n + 1, l, hn, hc => by
    unfold chunks csz
    by_cases h0 : l.length = 0
    · rw [if_pos h0, if_pos h0, List.length_eq_zero_iff.mp h0]
      exact ⟨fun t ht => (by cases ht), rfl, rfl⟩
    · rw [if_neg h0, if_neg h0]
      obtain ⟨a1, a2, a3⟩ := chunks_ok hs hs2 n (l.drop s) (by rw [List.length_drop]; omega) (fun x hx => hc x (List.mem_of_mem_drop hx))
      have hne : l.take s ≠ [] := fun z => by have e := congrArg List.length z; rw [List.length_take, List.length_nil] at e; omega
      refine ⟨fun t ht => ?_, ?_, ?_⟩
      · rcases List.mem_cons.mp ht with rfl | q
        · exact ⟨vn_lf hne (by rw [List.length_take]; omega) (fun x hx => hc x (List.mem_of_mem_take hx)), isL_lf hne⟩
        · exact a1 t q
      · rw [List.map_cons, List.flatten_cons, a2, ch_lf, List.take_append_drop]
      · rw [List.map_cons, a3, List.length_drop]
        congr 1
        unfold len; rw [ch_lf, List.length_take]
theorem makeT_ok {s : Nat} (hs : 2 ≤ s) (hs2 : s ≤ 16) {l : List Nat} (hl : l.length ≤ 400) (hc : ∀ x ∈ l, x < 128) : vt (makeT s l) ∧ ch (makeT s l) = l ∧ rl (csz s l.length l.length) (csz s l.length l.length).length = fl 0 (makeT s l) := by
  obtain ⟨a1, a2, a3⟩ := chunks_ok hs hs2 l.length l (Nat.le_refl _) hc
  have hlen : (chunks s l.length l).length = (csz s l.length l.length).length := by rw [← a3, List.length_map]
  have hle := csz_len hs l.length l.length
  have e : (chunks s l.length l).length ≤ 2 ^ 20 := by rw [hlen]; exact Nat.le_trans (show _ ≤ 400 by omega) (by decide)
  obtain ⟨b1, b2⟩ := buildT_fl 20 _ a1 e 0
  refine ⟨?_, by unfold makeT; rw [buildT_ch 20 _ e, a2], ?_⟩
  · by_cases h : chunks s l.length l = []
    · left; unfold makeT; rw [h]; rfl
    · right; exact buildT_vn 20 _ a1 e h
  · refine List.ext_getElem? fun i => ?_
    by_cases hi : i < (csz s l.length l.length).length
    · have hi2 : i < (chunks s l.length l).length := by omega
      have h3 : (csz s l.length l.length)[i]? = some (len (chunks s l.length l)[i], 0) := by
        rw [← a3, List.getElem?_map, List.getElem?_eq_getElem hi2]; rfl
      unfold makeT
      rw [b2 i _ (List.getElem?_eq_getElem hi2), hlen, Nat.zero_add]
      simp only [rl, List.getElem?_map, List.getElem?_range hi, Option.map_some, if_pos hi]
      rw [List.getD_eq_getElem?_getD, h3]
      rfl
    · rw [List.getElem?_eq_none (by simp only [rl, List.length_map, List.length_range]; omega), List.getElem?_eq_none (by unfold makeT; rw [b1, hlen]; omega)]
theorem fbs_le : ∀ n, (fbs n).1 ≤ 800 ∧ (fbs n).2 ≤ 2 * (fbs n).1 ∧ (fbs n).1 ≤ (fbs n).2
  | 0 => by decide
  | n + 1 => by
    obtain ⟨a, b, c⟩ := fbs_le n
    unfold fbs
    split
    · exact ⟨by dsimp only; omega, by dsimp only; omega, by dsimp only; omega⟩
    · exact ⟨a, b, c⟩
theorem fbs_stop {k : Nat} (h : ¬ (fbs k).1 ≤ 400) : ∀ j, fbs (k + j) = fbs k
  | 0 => rfl
  | j + 1 => by
    have e := fbs_stop h j
    show (if (fbs (k + j)).1 ≤ 400 then _ else fbs (k + j)) = _
    rw [e, if_neg h]
section TextS
variable {hi : Nat → Nat → Int32} {hl : Nat → Nat → Int64} {r : Nat} {F : List (Nat × Nat)} {C : List Nat}
end TextS

