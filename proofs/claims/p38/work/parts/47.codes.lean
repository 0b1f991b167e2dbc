section CodesS
variable {hi : Nat → Nat → Int32} {hl : Nat → Nat → Int64} {a m : Nat}
/-- a piece of the characters -/
def pc (C : List Nat) (o k : Nat) : List Nat := (C.drop o).take k
theorem pc_len {C : List Nat} {o k : Nat} (h : o + k ≤ C.length) : (pc C o k).length = k := by unfold pc; rw [List.length_take, List.length_drop]; omega
theorem pc_s {C : List Nat} {o k : Nat} (h : o + k < C.length) : pc C o k ++ [C.getD (o + k) 0] = pc C o (k + 1) := by
  unfold pc
  rw [List.take_succ_eq_append_getElem (by rw [List.length_drop]; omega), List.getElem_drop, List.getD_eq_getElem?_getD, List.getElem?_eq_getElem h]
  rfl
theorem pc_c {C : List Nat} {o k : Nat} (h : ∀ c ∈ C, c < 128) : ∀ c ∈ pc C o k, c < 128 := fun c hc => h c (List.mem_of_mem_drop (List.mem_of_mem_take hc))
/-- one code goes into the leaf x -/
def CodeQ (hi : Nat → Nat → Int32) (hl : Nat → Nat → Int64) (a m s : Nat) (C : List Nat) (i q : Nat) (x : Nat) (hi' : Nat → Nat → Int32) (hl' : Nat → Nat → Int64) : Prop :=
  ∃ a0 r, a ≤ a0 ∧ i = q * s + r ∧ r ≤ s ∧ hi' 13 q = nI x ∧ a0 ≤ x ∧ x < 20000 ∧ hi 9 x = nI 0 ∧ UN hi' (x + 1) (m + (2 * C.length - (q + 1))) ∧ Nw hi hi' ∧ NS (Al (hi 9) a) hi hi' hl hl' ∧ LN hi' hl' x (pc C (q * s) r) ∧ ∀ j, j < q → ∃ y, hi' 13 j = nI y ∧ isT (Al (hi 9) a0) hi' hl' (lf (pc C (j * s) s)) y
def CodeI (hi : Nat → Nat → Int32) (hl : Nat → Nat → Int64) (a m s : Nat) (C : List Nat) (i lc x : Nat) (hi' : Nat → Nat → Int32) (hl' : Nat → Nat → Int64) : Prop :=
  (i = 0 ∧ lc = 0 ∧ x = 0 ∧ hi' = hi ∧ hl' = hl) ∨ (∃ q, lc = q + 1 ∧ q * s < i ∧ CodeQ hi hl a m s C i q x hi' hl')
/-- a new leaf is begun -/
theorem code_new {Nx : Nat} {s i lc x : Nat} {C : List Nat} {hi' : Nat → Nat → Int32} {hl' : Nat → Nat → Int64} (hs : 0 < s) (hi0 : i < C.length) (hC : ∀ c ∈ C, c < 128) (hs16 : s ≤ 16) (hu : UN hi a (m + 2 * C.length)) (h : CodeI hi hl a m s C i lc x hi' hl') (hx : x = 0 ∨ hi' 5 x = nI s) {P : Option Value → Hp → Prop}
    (K : ∀ n hi2 hl2, n < 20000 → CodeQ hi hl a m s C i lc n (cu hi2 13 (upd (hi2 13) lc (nI n))) hl2 → P (some (.int (nI n))) (Nx + 55, hi2, hl2, rf0)) : Does m_X1_newLeaf [.ref 2] (Nx + 55, hi', hl', rf0) P := by
  rcases h with ⟨rfl, rfl, rfl, rfl, rfl⟩ | ⟨q, rfl, hq, a0, r, ha0, hir, hrs, h13, hx0, hx2, hx9, un, nw, ns, ln, hall⟩
  · refine does_mono (p_newLeaf (m := m + (2 * C.length - 1)) (hu.le (by omega))) ?_
    rintro v h' ⟨n, h1, l1, rfl, rfl, n1, n2, n3, un, nf, ns, ln⟩
    refine K n h1 l1 n2 ⟨a, 0, Nat.le_refl _, by simp, Nat.zero_le _, by rw [cu_s, upd_s], n1, n2, n3, (un.cu (by decide) (by decide)).le (by omega), nf.nw.cu (by decide), fun k hk => ?_, ?_, fun j hj => by omega⟩
    · rw [cu_n (a := 3) (by decide), cu_n (a := 4) (by decide), cu_n (a := 5) (by decide), cu_n (a := 6) (by decide)]; exact ns k hk
    · unfold LN
      rw [cu_n (a := 3) (by decide), cu_n (a := 4) (by decide), cu_n (a := 5) (by decide), cu_n (a := 6) (by decide)]
      exact ln
  · have e9 : hi' 9 = hi 9 := nw 9 (by decide)
    have hrs2 : r = s := by
      rcases hx with z | z
      · have := hu.1; omega
      · have e := ln.2.1
        rw [z, pc_len (by omega)] at e
        have := (nI_eq (by omega) (by omega)).mp e
        omega
    subst hrs2
    refine does_mono (p_newLeaf (m := m + (2 * C.length - (q + 1 + 1))) (un.le (by have : q * 1 ≤ q * r := Nat.mul_le_mul_left q hs; omega))) ?_
    rintro v h' ⟨n, h1, l1, rfl, rfl, n1, n2, n3, un1, nf, ns1, ln1⟩
    rw [e9] at n3 ns1
    have nA : ¬ Al (hi 9) (x + 1) n := fun z => by
      rcases z with z | z
      · omega
      · exact z n3
    have Nsc : NS (Al (hi 9) (x + 1)) hi' (cu h1 13 (upd (h1 13) (q + 1) (nI n))) hl' l1 := fun k hk => by
      rw [cu_n (a := 3) (by decide), cu_n (a := 4) (by decide), cu_n (a := 5) (by decide), cu_n (a := 6) (by decide)]; exact ns1 k hk
    have up : ∀ k, Al (hi 9) a0 k → Al (hi 9) (x + 1) k := Al.mono (by omega)
    refine K n h1 l1 n2 ⟨x + 1, 0, by omega, by rw [Nat.succ_mul]; omega, Nat.zero_le _, by rw [cu_s, upd_s], n1, n2, n3, un1.cu (by decide) (by decide), (nw.tr nf.nw).cu (by decide), ns.tr (Al.mono (by omega)) Nsc, ?_, fun j hj => ?_⟩
    · unfold LN
      rw [cu_n (a := 3) (by decide), cu_n (a := 4) (by decide), cu_n (a := 5) (by decide), cu_n (a := 6) (by decide)]
      exact ln1
    · have e13 : cu h1 13 (upd (h1 13) (q + 1) (nI n)) 13 j = hi' 13 j := by rw [cu_s, upd_n (by omega), nf 13 (by decide) (by decide)]
      rw [e13]
      have hl0 : ∀ k, k ≤ q → pc C (k * r) r ≠ [] := fun k hk z => by
        have e := congrArg List.length z
        have : k * r ≤ q * r := Nat.mul_le_mul_right _ hk
        rw [pc_len (by omega), List.length_nil] at e
        omega
      rcases Nat.lt_or_ge j q with z | z
      · obtain ⟨y, y1, y2⟩ := hall j z
        exact ⟨y, y1, y2.ext (NS.tr (fun k hk => Nsc k (up k hk)) (fun _ h => h) NS.rf) up (Or.inr (vn_lf (hl0 j (by omega)) (by unfold pc; rw [List.length_take]; omega) (pc_c hC)))⟩
      · have : j = q := by omega
        subst this
        refine ⟨x, h13, (((isT_lf (A := Al (hi 9) (x + 1)) (hl0 j (Nat.le_refl _))).mpr ⟨⟨by have := hu.1; omega, hx2, Or.inl (by omega)⟩, ln⟩).ext Nsc (fun _ h => h) (Or.inr (vn_lf (hl0 j (Nat.le_refl _)) (by unfold pc; rw [List.length_take]; omega) (pc_c hC))))⟩
/-- the code is appended -/
theorem code_app {Nx : Nat} {s i q x : Nat} {C : List Nat} {hi' : Nat → Nat → Int32} {hl' : Nat → Nat → Int64} (hs16 : s ≤ 16) (hi0 : i < C.length) (hC : ∀ c ∈ C, c < 128) (ha : 1 ≤ a) (h : CodeQ hi hl a m s C i q x hi' hl') (hr : i < q * s + s) {P : Option Value → Hp → Prop}
    (K : ∀ hi2 hl2, CodeQ hi hl a m s C (i + 1) q x hi2 hl2 → P none (Nx + 55, hi2, hl2, rf0)) : Does m_X1_append [.ref 2, .int (nI x), .int (nI (C.getD i 0))] (Nx + 55, hi', hl', rf0) P := by
  obtain ⟨a0, r, ha0, rfl, hrs, h13, hx0, hx2, hx9, un, nw, ns, ln, hall⟩ := h
  obtain ⟨w3, w5, w6, w7, w8⟩ := ln
  have pl : (pc C (q * s) r).length = r := pc_len (by omega)
  refine does_mono (p_append (hi := hi') (hl := hl') (n := x) (C := pc C (q * s) r) (c := C.getD (q * s + r) 0) (by omega) hx2 (pc_c hC) (hC _ (getD_mem hi0)) (by omega) w5 w7 w8) ?_
  rintro v h' ⟨rfl, hl3, rfl, e1, e2, e3⟩
  rw [pc_s hi0] at e2 e3
  have xA : ¬ Al (hi 9) a0 x := fun z => by
    rcases z with z | z
    · omega
    · exact z hx9
  have Nsc : NS (Al (hi 9) a0) hi' (cu hi' 5 (upd (hi' 5) x (nI ((pc C (q * s) r).length + 1)))) hl' hl3 := fun k hk => by
    have kx : k ≠ x := fun z => xA (z ▸ hk)
    rw [cu_n (a := 3) (by decide), cu_n (a := 4) (by decide), cu_s, cu_n (a := 6) (by decide), upd_n kx]
    exact ⟨rfl, rfl, rfl, rfl, e1 7 k kx, e1 8 k kx⟩
  refine K _ hl3 ⟨a0, r + 1, ha0, by omega, by omega, by rw [cu_n (by decide)]; exact h13, hx0, hx2, hx9, un.cu (by decide) (by decide), nw.cu (by decide), ns.tr (Al.mono ha0) Nsc, ⟨?_, ?_, ?_, e2, e3⟩, fun j hj => ?_⟩
  · rw [cu_n (a := 3) (by decide), cu_n (a := 4) (by decide)]; exact w3
  · rw [cu_s, upd_s, pl, pc_len (by omega)]
  · rw [cu_n (a := 6) (by decide)]; exact w6
  · obtain ⟨y, y1, y2⟩ := hall j hj
    refine ⟨y, by rw [cu_n (by decide)]; exact y1, ?_⟩
    have hl0 : pc C (j * s) s ≠ [] := fun z => by
      have e := congrArg List.length z
      have : (j + 1) * s ≤ q * s := Nat.mul_le_mul_right _ hj
      rw [Nat.succ_mul] at this
      rw [pc_len (by omega), List.length_nil] at e
      subst e
      omega
    exact y2.ext Nsc (fun _ h => h) (Or.inr (vn_lf hl0 (by unfold pc; rw [List.length_take]; omega) (pc_c hC)))
end CodesS

