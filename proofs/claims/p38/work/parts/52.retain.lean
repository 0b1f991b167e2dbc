/-- the nodes of a rope are reached -/
def Cov (hi : Nat → Nat → Int32) (f : Nat → Int32) : Tr → Nat → Prop
  | .append a b, n => f n ≠ nI 0 ∧ Cov hi f a (iN (hi 3 n)) ∧ Cov hi f b (iN (hi 4 n))
  | .nest _ _, n => f n ≠ nI 0
  | _, _ => True
/-- what a reached node of at most K characters is made of is reached -/
def LC (hi : Nat → Nat → Int32) (f : Nat → Int32) (K : Nat) : Prop := ∀ k, k < 20000 → f k ≠ nI 0 → iN (hi 5 k) ≤ K → iN (hi 3 k) ≠ 0 → f (iN (hi 3 k)) ≠ nI 0 ∧ f (iN (hi 4 k)) ≠ nI 0
/-- the nodes of a rope -/
def ndH (hi : Nat → Nat → Int32) : Nat → Nat → List Nat
  | 0, _ => []
  | d + 1, n => if n = 0 then [] else n :: (ndH hi d (iN (hi 3 n)) ++ ndH hi d (iN (hi 4 n)))
section RetS
variable {hi : Nat → Nat → Int32} {hl : Nat → Nat → Int64} {A : Nat → Prop}
theorem iN_nI {n : Nat} (h : n < 2 ^ 31) : iN (nI n) = n := nI_clamp h
theorem isT.kidsN {X Y : Tr} {n : Nat} (vX : vn X) (vY : vn Y) (h : isT A hi hl (.append X Y) n) : isT A hi hl X (iN (hi 3 n)) ∧ isT A hi hl Y (iN (hi 4 n)) := by
  obtain ⟨l, r, q1, q2, q3, q4⟩ := h.2.2.2
  obtain ⟨z1, z2, z3, z4⟩ := isT.left vX vY q3 q4
  rw [q1, q2, iN_nI (by omega), iN_nI (by omega)]
  exact ⟨q3, q4⟩
theorem isT.leafN {D : List Nat} {n : Nat} (d0 : D ≠ []) (h : isT A hi hl (lf D) n) : iN (hi 3 n) = 0 ∧ iN (hi 4 n) = 0 := by
  obtain ⟨-, ⟨e1, e2⟩, -⟩ := (isT_lf d0).mp h
  rw [e1, e2]
  exact ⟨rfl, rfl⟩
theorem cov_lf {f : Nat → Int32} {D : List Nat} {n : Nat} (d0 : D ≠ []) : Cov hi f (lf D) n ↔ f n ≠ nI 0 := by
  cases D with
  | nil => exact absurd rfl d0
  | cons c cs => exact Iff.rfl
theorem cov_of {f : Nat → Int32} {K : Nat} (hL : LC hi f K) {T : Tr} (vT : vn T) : ∀ n, isT A hi hl T n → len T ≤ K → len T < 2 ^ 31 → f n ≠ nI 0 → Cov hi f T n := by
  induction T, vT using vn_ind with
  | h1 D d0 d1 d2 => intro n h _ _ hf; exact (cov_lf d0).mpr hf
  | h2 X Y vX vY i1 i2 =>
    intro n h hK hb hf
    have lp0 : len (.append X Y) = len X + len Y := len_p
    obtain ⟨k1, k2⟩ := h.kidsN vX vY
    have e5 : iN (hi 5 n) = len (.append X Y) := by rw [(h.pos (T := .append X Y) ⟨vX, vY⟩).2.2.2.1, iN_nI hb]
    have := hL n (h.pos (T := .append X Y) ⟨vX, vY⟩).2.1 hf (by omega) (by have := (k1.pos vX).1; omega)
    exact ⟨hf, i1 _ k1 (by omega) (by omega) this.1, i2 _ k2 (by omega) (by omega) this.2⟩
/-- a rope whose nodes are reached stands for itself still -/
theorem cov_isT {hi' : Nat → Nat → Int32} {f : Nat → Int32} {b : Nat} {T : Tr} (vT : vn T) (e3 : hi' 3 = hi 3) (e4 : hi' 4 = hi 4) (e5 : hi' 5 = hi 5) (e6 : hi' 6 = hi 6) : ∀ n, isT A hi hl T n → Cov hi f T n → isT (Al f b) hi' hl T n := by
  induction T, vT using vn_ind with
  | h1 D d0 d1 d2 =>
    intro n h hc
    obtain ⟨⟨x1, x2, x3⟩, ln⟩ := (isT_lf d0).mp h
    refine (isT_lf d0).mpr ⟨⟨x1, x2, Or.inr ((cov_lf d0).mp hc)⟩, ?_⟩
    unfold LN
    rw [e3, e4, e5, e6]
    exact ln
  | h2 X Y vX vY i1 i2 =>
    intro n h hc
    obtain ⟨l, r, q1, q2, q3, q4⟩ := h.2.2.2
    obtain ⟨z1, z2, z3, z4⟩ := isT.left vX vY q3 q4
    obtain ⟨c1, c2, c3⟩ := hc
    rw [q1, iN_nI (by omega)] at c2
    rw [q2, iN_nI (by omega)] at c3
    refine ⟨⟨h.1.1, h.1.2.1, Or.inr c1⟩, by rw [e5]; exact h.2.1, by rw [e6]; exact h.2.2.1, l, r, by rw [e3]; exact q1, by rw [e4]; exact q2, i1 l q3 c2, i2 r q4 c3⟩
theorem nd_size {T : Tr} (vT : vn T) : ∀ d n k, isT A hi hl T n → len T < 2 ^ 31 → k ∈ ndH hi d n → iN (hi 5 k) ≤ len T := by
  induction T, vT using vn_ind with
  | h1 D d0 d1 d2 =>
    intro d n k h hb hk
    cases d with
    | zero => cases hk
    | succ d =>
      obtain ⟨e1, e2⟩ := h.leafN d0
      unfold ndH at hk
      rw [e1, e2] at hk
      have z0 : ndH hi d 0 = [] := by cases d <;> simp [ndH]
      rw [z0] at hk
      split at hk
      · cases hk
      · have : k = n := by simpa using hk
        rw [this, (h.pos (vn_lf d0 d1 d2)).2.2.2.1, iN_nI hb]
        exact Nat.le_refl _
  | h2 X Y vX vY i1 i2 =>
    intro d n k h hb hk
    have lp0 : len (.append X Y) = len X + len Y := len_p
    obtain ⟨k1, k2⟩ := h.kidsN vX vY
    cases d with
    | zero => cases hk
    | succ d =>
      unfold ndH at hk
      split at hk
      · cases hk
      · rcases List.mem_cons.mp hk with z | z
        · rw [z, (h.pos (T := .append X Y) ⟨vX, vY⟩).2.2.2.1, iN_nI hb]
          exact Nat.le_refl _
        · rcases List.mem_append.mp z with z | z
          · have := i1 d _ k k1 (by omega) z; omega
          · have := i2 d _ k k2 (by omega) z; omega
theorem nd_len {T : Tr} (vT : vn T) : ∀ d n, isT A hi hl T n → (ndH hi d n).length ≤ 2 * nlv T - 1 := by
  induction T, vT using vn_ind with
  | h1 D d0 d1 d2 =>
    intro d n h
    rw [nlv_lf d0]
    cases d with
    | zero => exact Nat.zero_le _
    | succ d =>
      obtain ⟨e1, e2⟩ := h.leafN d0
      have z0 : ndH hi d 0 = [] := by cases d <;> simp [ndH]
      unfold ndH
      rw [e1, e2, z0]
      split <;> simp
  | h2 X Y vX vY i1 i2 =>
    intro d n h
    rw [nlv_p vX vY]
    obtain ⟨k1, k2⟩ := h.kidsN vX vY
    have p1 := nlv_pos vX
    have p2 := nlv_pos vY
    cases d with
    | zero => exact Nat.zero_le _
    | succ d =>
      unfold ndH
      have := i1 d _ k1
      have := i2 d _ k2
      split
      · exact Nat.zero_le _
      · rw [List.length_cons, List.length_append]; omega
theorem nd_self {d n : Nat} (hn : n ≠ 0) : n ∈ ndH hi (d + 1) n := by
  unfold ndH
  rw [if_neg hn]
  exact List.mem_cons_self ..
theorem nd_left {d n k : Nat} (hn : n ≠ 0) (h : k ∈ ndH hi d (iN (hi 3 n))) : k ∈ ndH hi (d + 1) n := by
  unfold ndH
  rw [if_neg hn]
  exact List.mem_cons_of_mem _ (List.mem_append_left _ h)
theorem nd_right {d n k : Nat} (hn : n ≠ 0) (h : k ∈ ndH hi d (iN (hi 4 n))) : k ∈ ndH hi (d + 1) n := by
  unfold ndH
  rw [if_neg hn]
  exact List.mem_cons_of_mem _ (List.mem_append_right _ h)
end RetS
/-- the retaining of a rope goes on: what it has come to -/
def RtK (Nx : Nat) (hi : Nat → Nat → Int32) (hl : Nat → Nat → Int64) (rope : Int32) (Q : Rs → Prop) (K d n c seen : Nat) (f w : Nat → Int32) : Prop :=
  ∀ f' w' x seen', seen' ≤ seen → (∀ k, f k ≠ nI 0 → f' k ≠ nI 0) → (∀ k, f' k ≠ nI 0 → f k ≠ nI 0 ∨ k ∈ ndH hi d n) → f' n ≠ nI 0 → LC hi f' K → (∀ i, i < c → w' i = w i) → x < 20000 → (x = 0 ∨ f' x ≠ nI 0) → Run (lp b_X1_retain_l0) ([.ref 2, .int rope, .int (nI x), .int (nI c), .int (nI seen')], [], (Nx + 55, cu (cu hi 9 f') 10 w', hl, rf0)) Q
section RetainS
variable {hi : Nat → Nat → Int32} {hl : Nat → Nat → Int64} {rope : Int32} {Q : Rs → Prop}
theorem upd1 {f : Nat → Int32} {n k : Nat} (h : f k ≠ nI 0) : upd f n (nI 1) k ≠ nI 0 := by
  by_cases e : k = n
  · rw [e, upd_s]; decide
  · rw [upd_n e]; exact h
/-- nothing to mark: what waits on top is taken -/
theorem rt_pop {Nx : Nat} {x c seen : Nat} {f w : Nat → Int32} (hx : x < 20000) (hx2 : x = 0 ∨ f x ≠ nI 0) (hc : c < 400) (hs : seen < 40000) (K : Run (lp b_X1_retain_l0) ([.ref 2, .int rope, .int (w c), .int (nI c), .int (nI (seen + 1))], [], (Nx + 55, cu (cu hi 9 f) 10 w, hl, rf0)) Q) :
    Run (lp b_X1_retain_l0) ([.ref 2, .int rope, .int (nI x), .int (nI (c + 1)), .int (nI seen)], [], (Nx + 55, cu (cu hi 9 f) 10 w, hl, rf0)) Q := by
  rw [run_lp]
  conv => arg 1; unfold b_X1_retain_l0
  by_cases x0 : x = 0
  · subst x0
    simp (disch := omega) only [run_sq, sqQ_l, sqQ_r, run_bk, bkQ_l, bkQ_0, bkQ_1, bkQ_2, bkQ_3, bkQ_r, rtQ_r, lpQ_l, lpQ_0, lpQ_1, lpQ_2, lpQ_r, r_push, r_iload, r_lload, r_aload, r_istore, r_lstore, r_astore, r_iinc, r_ib, r_ibz, r_lb, r_lbz, r_lsh, r_lcmp, r_i2l, r_l2i, r_dup, r_pop, r_dup2, r_br, r_nop, r_ifnull_r, r_ifnull_n, r_ifnonnull_r, r_ifnonnull_n, r_iret, r_zret, r_lret, r_aret_r, r_aret_n, r_vret, r_geti, r_getr, r_puti, r_putr, r_ald, r_ast, r_zst, r_lld, r_lst, r_qld, r_qst, r_alen, r_max, r_min, r_cpy, r_new, r_newa, r_oini, r_call, r_callV, r_callI, r_if_eq, r_icmp_eq, r_if_ne, r_icmp_ne, r_if_lt, r_icmp_lt, r_if_ge, r_icmp_ge, r_if_gt, r_icmp_gt, r_if_le, r_icmp_le, cat_i, cat_l, cat_r, cat_n, csum_0, csum_s, okst_0, okst_s, gD0, gDs, rv_s, rv_n, rcv_r, List.set_cons_zero, List.set_cons_succ, List.take_succ_cons, List.take_zero, List.take_nil, List.drop_succ_cons, List.drop_zero, List.drop_nil, List.reverse_cons, List.reverse_nil, List.nil_append, List.cons_append, List.append_nil, List.length_cons, List.length_nil, Option.toList_some, Option.toList_none, Value.int.injEq, Value.long.injEq, Value.ref.injEq, exists_eq_left, exists_eq_left', and_true, true_and, beq_self_eq_true, decide_eq_true_eq, not_false_eq_true, reduceCtorEq, argsL_0, argsL_i, argsL_r, argsL_l, locs_eq, List.replicate_succ, List.replicate_zero, rf_0_0, rf_0_1, rf_0_2, rf_0_3, rf_0_4, rf_0_5, rf_0_6, rf_0_7, rf_0_8, rf_0_10, rf_1_0, rf_1_1, rf_1_2, rf_1_3, rf_2_0, rf_2_1, rf_2_2, rf_2_3, rf_2_4, rf_2_5, rf_2_6, rf_2_9, rf_14_0, rf_14_1, rf_14_2, rf_14_3, rf_14_4, rf_14_5, rf_21_0, rf_21_1, rf_21_2, rf_21_3, rf_21_4, rf_21_5, rf_28_0, rf_28_1, rf_31_0, rf_32_0, rf_32_1, rf_32_2, rf_32_3, rf_32_4, rf_32_5, rf_33_0, rf_33_1, rf_36_0, rf_36_1, rf_39_0, rf_39_1, rf_42_0, rf_42_1, rf_45_0, rf_45_1, rf_48_0, rf_48_1, sh_0, sh_1, sh_2, sh_3, sh_4, sh_5, sh_6, sh_7, sh_8, sh_9, sh_10, sh_11, sh_12, sh_13, sh_14, sh_15, sh_16, sh_17, sh_18, sh_19, sh_20, sh_21, sh_22, sh_23, sh_24, sh_25, sh_26, sh_27, sh_28, sh_29, sh_30, sh_31, sh_32, sh_33, sh_34, sh_35, sh_36, sh_37, sh_38, sh_39, sh_40, sh_41, sh_42, sh_43, sh_44, sh_45, sh_46, sh_47, sh_48, sh_49, sh_50, sh_51, sh_52, sh_53, sh_54, sh_55, pk_mul, nI_add, nI_toInt, nI_clamp, pk_sub, nI_ltI, nI_leI, nI_eq, zge, zeq, zgt, zle, z0, one_I, bz0, bz1, bz2, bz3, bz4, bz5, Nat.add_zero, Nat.zero_add, nI_dec, nI_dec2, eqF, nn0, zltT, ltT, ltF, leT, leF, true_or, or_true, false_or, or_false, not_true_eq_false, false_implies, true_implies, and_false, false_and, ite_true, ite_false, if_true, if_false, cu_n, cu_s, Nat.add_sub_cancel]
    exact K
  · have hf : ¬ f x = 0 := by
      rcases hx2 with z | z
      · exact absurd z x0
      · exact z
    simp (disch := omega) only [run_sq, sqQ_l, sqQ_r, run_bk, bkQ_l, bkQ_0, bkQ_1, bkQ_2, bkQ_3, bkQ_r, rtQ_r, lpQ_l, lpQ_0, lpQ_1, lpQ_2, lpQ_r, r_push, r_iload, r_lload, r_aload, r_istore, r_lstore, r_astore, r_iinc, r_ib, r_ibz, r_lb, r_lbz, r_lsh, r_lcmp, r_i2l, r_l2i, r_dup, r_pop, r_dup2, r_br, r_nop, r_ifnull_r, r_ifnull_n, r_ifnonnull_r, r_ifnonnull_n, r_iret, r_zret, r_lret, r_aret_r, r_aret_n, r_vret, r_geti, r_getr, r_puti, r_putr, r_ald, r_ast, r_zst, r_lld, r_lst, r_qld, r_qst, r_alen, r_max, r_min, r_cpy, r_new, r_newa, r_oini, r_call, r_callV, r_callI, r_if_eq, r_icmp_eq, r_if_ne, r_icmp_ne, r_if_lt, r_icmp_lt, r_if_ge, r_icmp_ge, r_if_gt, r_icmp_gt, r_if_le, r_icmp_le, cat_i, cat_l, cat_r, cat_n, csum_0, csum_s, okst_0, okst_s, gD0, gDs, rv_s, rv_n, rcv_r, List.set_cons_zero, List.set_cons_succ, List.take_succ_cons, List.take_zero, List.take_nil, List.drop_succ_cons, List.drop_zero, List.drop_nil, List.reverse_cons, List.reverse_nil, List.nil_append, List.cons_append, List.append_nil, List.length_cons, List.length_nil, Option.toList_some, Option.toList_none, Value.int.injEq, Value.long.injEq, Value.ref.injEq, exists_eq_left, exists_eq_left', and_true, true_and, beq_self_eq_true, decide_eq_true_eq, not_false_eq_true, reduceCtorEq, argsL_0, argsL_i, argsL_r, argsL_l, locs_eq, List.replicate_succ, List.replicate_zero, rf_0_0, rf_0_1, rf_0_2, rf_0_3, rf_0_4, rf_0_5, rf_0_6, rf_0_7, rf_0_8, rf_0_10, rf_1_0, rf_1_1, rf_1_2, rf_1_3, rf_2_0, rf_2_1, rf_2_2, rf_2_3, rf_2_4, rf_2_5, rf_2_6, rf_2_9, rf_14_0, rf_14_1, rf_14_2, rf_14_3, rf_14_4, rf_14_5, rf_21_0, rf_21_1, rf_21_2, rf_21_3, rf_21_4, rf_21_5, rf_28_0, rf_28_1, rf_31_0, rf_32_0, rf_32_1, rf_32_2, rf_32_3, rf_32_4, rf_32_5, rf_33_0, rf_33_1, rf_36_0, rf_36_1, rf_39_0, rf_39_1, rf_42_0, rf_42_1, rf_45_0, rf_45_1, rf_48_0, rf_48_1, sh_0, sh_1, sh_2, sh_3, sh_4, sh_5, sh_6, sh_7, sh_8, sh_9, sh_10, sh_11, sh_12, sh_13, sh_14, sh_15, sh_16, sh_17, sh_18, sh_19, sh_20, sh_21, sh_22, sh_23, sh_24, sh_25, sh_26, sh_27, sh_28, sh_29, sh_30, sh_31, sh_32, sh_33, sh_34, sh_35, sh_36, sh_37, sh_38, sh_39, sh_40, sh_41, sh_42, sh_43, sh_44, sh_45, sh_46, sh_47, sh_48, sh_49, sh_50, sh_51, sh_52, sh_53, sh_54, sh_55, pk_mul, nI_add, nI_toInt, nI_clamp, pk_sub, nI_ltI, nI_leI, nI_eq, zge, zeq, zgt, zle, z0, one_I, bz0, bz1, bz2, bz3, bz4, bz5, Nat.add_zero, Nat.zero_add, nI_dec, nI_dec2, eqF, nn0, zltT, ltT, ltF, leT, leF, true_or, or_true, false_or, or_false, not_true_eq_false, false_implies, true_implies, and_false, false_and, ite_true, ite_false, if_true, if_false, cu_n, cu_s, Nat.add_sub_cancel, hf]
    exact K
/-- a node is marked, its right part waits -/
theorem rt_mark {Nx : Nat} {n c seen l r : Nat} {f w : Nat → Int32} (n1 : 1 ≤ n) (n2 : n < 20000) (hf : ¬ f n ≠ nI 0) (hc : c < 400) (hs : seen < 40000) (q1 : hi 3 n = nI l) (q2 : hi 4 n = nI r) (K : Run (lp b_X1_retain_l0) ([.ref 2, .int rope, .int (nI l), .int (nI (c + 1)), .int (nI (seen + 1))], [], (Nx + 55, cu (cu hi 9 (upd f n (nI 1))) 10 (upd w c (nI r)), hl, rf0)) Q) :
    Run (lp b_X1_retain_l0) ([.ref 2, .int rope, .int (nI n), .int (nI c), .int (nI seen)], [], (Nx + 55, cu (cu hi 9 f) 10 w, hl, rf0)) Q := by
  rw [run_lp]
  conv => arg 1; unfold b_X1_retain_l0
  have hf2 : f n = 0 := Decidable.not_not.mp hf
  simp (disch := omega) only [run_sq, sqQ_l, sqQ_r, run_bk, bkQ_l, bkQ_0, bkQ_1, bkQ_2, bkQ_3, bkQ_r, rtQ_r, lpQ_l, lpQ_0, lpQ_1, lpQ_2, lpQ_r, r_push, r_iload, r_lload, r_aload, r_istore, r_lstore, r_astore, r_iinc, r_ib, r_ibz, r_lb, r_lbz, r_lsh, r_lcmp, r_i2l, r_l2i, r_dup, r_pop, r_dup2, r_br, r_nop, r_ifnull_r, r_ifnull_n, r_ifnonnull_r, r_ifnonnull_n, r_iret, r_zret, r_lret, r_aret_r, r_aret_n, r_vret, r_geti, r_getr, r_puti, r_putr, r_ald, r_ast, r_zst, r_lld, r_lst, r_qld, r_qst, r_alen, r_max, r_min, r_cpy, r_new, r_newa, r_oini, r_call, r_callV, r_callI, r_if_eq, r_icmp_eq, r_if_ne, r_icmp_ne, r_if_lt, r_icmp_lt, r_if_ge, r_icmp_ge, r_if_gt, r_icmp_gt, r_if_le, r_icmp_le, cat_i, cat_l, cat_r, cat_n, csum_0, csum_s, okst_0, okst_s, gD0, gDs, rv_s, rv_n, rcv_r, List.set_cons_zero, List.set_cons_succ, List.take_succ_cons, List.take_zero, List.take_nil, List.drop_succ_cons, List.drop_zero, List.drop_nil, List.reverse_cons, List.reverse_nil, List.nil_append, List.cons_append, List.append_nil, List.length_cons, List.length_nil, Option.toList_some, Option.toList_none, Value.int.injEq, Value.long.injEq, Value.ref.injEq, exists_eq_left, exists_eq_left', and_true, true_and, beq_self_eq_true, decide_eq_true_eq, not_false_eq_true, reduceCtorEq, argsL_0, argsL_i, argsL_r, argsL_l, locs_eq, List.replicate_succ, List.replicate_zero, rf_0_0, rf_0_1, rf_0_2, rf_0_3, rf_0_4, rf_0_5, rf_0_6, rf_0_7, rf_0_8, rf_0_10, rf_1_0, rf_1_1, rf_1_2, rf_1_3, rf_2_0, rf_2_1, rf_2_2, rf_2_3, rf_2_4, rf_2_5, rf_2_6, rf_2_9, rf_14_0, rf_14_1, rf_14_2, rf_14_3, rf_14_4, rf_14_5, rf_21_0, rf_21_1, rf_21_2, rf_21_3, rf_21_4, rf_21_5, rf_28_0, rf_28_1, rf_31_0, rf_32_0, rf_32_1, rf_32_2, rf_32_3, rf_32_4, rf_32_5, rf_33_0, rf_33_1, rf_36_0, rf_36_1, rf_39_0, rf_39_1, rf_42_0, rf_42_1, rf_45_0, rf_45_1, rf_48_0, rf_48_1, sh_0, sh_1, sh_2, sh_3, sh_4, sh_5, sh_6, sh_7, sh_8, sh_9, sh_10, sh_11, sh_12, sh_13, sh_14, sh_15, sh_16, sh_17, sh_18, sh_19, sh_20, sh_21, sh_22, sh_23, sh_24, sh_25, sh_26, sh_27, sh_28, sh_29, sh_30, sh_31, sh_32, sh_33, sh_34, sh_35, sh_36, sh_37, sh_38, sh_39, sh_40, sh_41, sh_42, sh_43, sh_44, sh_45, sh_46, sh_47, sh_48, sh_49, sh_50, sh_51, sh_52, sh_53, sh_54, sh_55, pk_mul, nI_add, nI_toInt, nI_clamp, pk_sub, nI_ltI, nI_leI, nI_eq, zge, zeq, zgt, zle, z0, one_I, bz0, bz1, bz2, bz3, bz4, bz5, Nat.add_zero, Nat.zero_add, nI_dec, nI_dec2, eqF, nn0, zltT, ltT, ltF, leT, leF, true_or, or_true, false_or, or_false, not_true_eq_false, false_implies, true_implies, and_false, false_and, ite_true, ite_false, if_true, if_false, cu_n, cu_s, hf2, u2_cu, q1, q2]
  rw [cu_comm (k := 10) (q := 9) (by decide), cu_cu, cu_cu]
  exact K
theorem rt_down {Nx : Nat} {T : Tr} (vT : vn T) : ∀ (n c seen d K : Nat) (f w : Nat → Int32), isT (fun _ => True) hi hl T n → dp T + 1 ≤ d → len T ≤ K → K < 2 ^ 31 → c + dp T ≤ 399 → seen + 2 * (2 * nlv T - 1) < 40000 → LC hi f K → RtK Nx hi hl rope Q K d n c (seen + 2 * (2 * nlv T - 1)) f w →
    Run (lp b_X1_retain_l0) ([.ref 2, .int rope, .int (nI n), .int (nI c), .int (nI seen)], [], (Nx + 55, cu (cu hi 9 f) 10 w, hl, rf0)) Q := by
  induction T, vT using vn_ind with
  | h1 D d0 d1 d2 =>
    intro n c seen d K f w h hd hK hKb hc hs hL H
    obtain ⟨n1, n2, -, n5, -⟩ := h.pos (vn_lf d0 d1 d2)
    obtain ⟨-, ⟨e1, e2⟩, -⟩ := (isT_lf d0).mp h
    rw [nlv_lf d0] at hs H
    obtain ⟨d, rfl⟩ : ∃ j, d = j + 1 := ⟨d - 1, by omega⟩
    by_cases hf : f n ≠ nI 0
    · exact H f w n seen (by omega) (fun _ h => h) (fun _ h => Or.inl h) hf hL (fun _ _ => rfl) n2 (Or.inr hf)
    · refine rt_mark n1 n2 hf (by omega) (by omega) e1 e2 (rt_pop (by decide) (Or.inl rfl) (by omega) (by omega) ?_)
      rw [upd_s]
      refine H (upd f n (nI 1)) (upd w c (nI 0)) 0 (seen + 1 + 1) (by omega) (fun k => upd1) (fun k hk => ?_) (by rw [upd_s]; decide) (fun k kb hk h5 h3 => ?_) (fun i hi0 => upd_n (by omega)) (by decide) (Or.inl rfl)
      · by_cases e : k = n
        · subst e; exact Or.inr (nd_self (by omega))
        · rw [upd_n e] at hk; exact Or.inl hk
      · by_cases e : k = n
        · subst e; rw [e1] at h3; exact absurd rfl h3
        · rw [upd_n e] at hk
          have := hL k kb hk h5 h3
          exact ⟨upd1 this.1, upd1 this.2⟩
  | h2 X Y vX vY i1 i2 =>
    intro n c seen d K f w h hd hK hKb hc hs hL H
    have vT : vn (.append X Y) := ⟨vX, vY⟩
    obtain ⟨n1, n2, -, n5, -⟩ := h.pos vT
    obtain ⟨l, r, q1, q2, q3, q4⟩ := id h.2.2.2
    obtain ⟨z1, z2, z3, z4⟩ := isT.left vX vY q3 q4
    have el : iN (hi 3 n) = l := by rw [q1, iN_nI (by omega)]
    have er : iN (hi 4 n) = r := by rw [q2, iN_nI (by omega)]
    have lp0 : len (.append X Y) = len X + len Y := len_p
    have dp0 : dp (.append X Y) = 1 + max (dp X) (dp Y) := rfl
    have mL : dp X ≤ max (dp X) (dp Y) := Nat.le_max_left _ _
    have mR : dp Y ≤ max (dp X) (dp Y) := Nat.le_max_right _ _
    have pX := nlv_pos vX
    have pY := nlv_pos vY
    have lX := vn_len vX
    have lY := vn_len vY
    have e5 : iN (hi 5 n) = len X + len Y := by rw [n5, lp0, iN_nI (by omega)]
    rw [nlv_p vX vY] at hs H
    obtain ⟨d, rfl⟩ : ∃ j, d = j + 1 := ⟨d - 1, by omega⟩
    by_cases hf : f n ≠ nI 0
    · exact H f w n seen (by omega) (fun _ h => h) (fun _ h => Or.inl h) hf hL (fun _ _ => rfl) n2 (Or.inr hf)
    refine rt_mark n1 n2 hf (by omega) (by omega) q1 q2 ?_
    have L1 : LC hi (upd f n (nI 1)) (len X + len Y - 1) := fun k kb hk h5 h3 => by
      by_cases e : k = n
      · subst e; omega
      · rw [upd_n e] at hk
        have := hL k kb hk (by omega) h3
        exact ⟨upd1 this.1, upd1 this.2⟩
    refine i1 l (c + 1) (seen + 1) d (len X + len Y - 1) _ _ q3 (by omega) (by omega) (by omega) (by omega) (by omega) L1 ?_
    intro f2 w2 x seen2 hs2 mono2 new2 at2 L2 keep2 hx hx2
    refine rt_pop hx hx2 (by omega) (by omega) ?_
    rw [keep2 c (by omega), upd_s]
    refine i2 r c (seen2 + 1) d (len X + len Y - 1) f2 w2 q4 (by omega) (by omega) (by omega) (by omega) (by omega) L2 ?_
    intro f3 w3 x3 seen3 hs3 mono3 new3 at3 L3 keep3 hx3 hx32
    refine H f3 w3 x3 seen3 (by omega) (fun k hk => mono3 k (mono2 k (upd1 hk))) (fun k hk => ?_) (mono3 n (mono2 n (by rw [upd_s]; decide))) (fun k kb hk h5 h3 => ?_) (fun i hi0 => by rw [keep3 i hi0, keep2 i (by omega), upd_n (by omega)]) hx3 hx32
    · rcases new3 k hk with z | z
      · rcases new2 k z with z | z
        · by_cases e : k = n
          · subst e; exact Or.inr (nd_self (by omega))
          · rw [upd_n e] at z; exact Or.inl z
        · exact Or.inr (nd_left (by omega) (by rw [el]; exact z))
      · exact Or.inr (nd_right (by omega) (by rw [er]; exact z))
    · by_cases hsz : iN (hi 5 k) ≤ len X + len Y - 1
      · exact L3 k kb hk hsz h3
      · have s3 : f2 k ≠ nI 0 := by
          rcases new3 k hk with z | z
          · exact z
          · have := nd_size vY d r k q4 (by omega) z; omega
        have s2 : upd f n (nI 1) k ≠ nI 0 := by
          rcases new2 k s3 with z | z
          · exact z
          · have := nd_size vX d l k q3 (by omega) z; omega
        by_cases e : k = n
        · subst e
          rw [el, er]
          exact ⟨mono3 l at2, at3⟩
        · rw [upd_n e] at s2
          have := hL k kb s2 h5 h3
          exact ⟨mono3 _ (mono2 _ (upd1 this.1)), mono3 _ (mono2 _ (upd1 this.2))⟩
/-- one rope is retained -/
theorem p_retain {Nx : Nat} {T : Tr} {n : Nat} {f w : Nat → Int32} (vT : vt T) (h : isT (fun _ => True) hi hl T n) (h4 : len T ≤ 400) (hL : LC hi f 400) :
    Does m_X1_retain [.ref 2, .int (nI n)] (Nx + 55, cu (cu hi 9 f) 10 w, hl, rf0) (fun v h' => v = none ∧ ∃ f' w', h' = (Nx + 55, cu (cu hi 9 f') 10 w', hl, rf0) ∧ (∀ k, f k ≠ nI 0 → f' k ≠ nI 0) ∧ (∀ k, f' k ≠ nI 0 → f k ≠ nI 0 ∨ k ∈ ndH hi 400 n) ∧ (vn T → f' n ≠ nI 0) ∧ LC hi f' 400) := by
  refine does_of (by simp [argsL, Value.category]) ?_
  unfold b_X1_retain
  simp (disch := omega) only [run_sq, sqQ_l, sqQ_r, run_bk, bkQ_l, bkQ_0, bkQ_1, bkQ_2, bkQ_3, bkQ_r, rtQ_r, lpQ_l, lpQ_0, lpQ_1, lpQ_2, lpQ_r, r_push, r_iload, r_lload, r_aload, r_istore, r_lstore, r_astore, r_iinc, r_ib, r_ibz, r_lb, r_lbz, r_lsh, r_lcmp, r_i2l, r_l2i, r_dup, r_pop, r_dup2, r_br, r_nop, r_ifnull_r, r_ifnull_n, r_ifnonnull_r, r_ifnonnull_n, r_iret, r_zret, r_lret, r_aret_r, r_aret_n, r_vret, r_geti, r_getr, r_puti, r_putr, r_ald, r_ast, r_zst, r_lld, r_lst, r_qld, r_qst, r_alen, r_max, r_min, r_cpy, r_new, r_newa, r_oini, r_call, r_callV, r_callI, r_if_eq, r_icmp_eq, r_if_ne, r_icmp_ne, r_if_lt, r_icmp_lt, r_if_ge, r_icmp_ge, r_if_gt, r_icmp_gt, r_if_le, r_icmp_le, cat_i, cat_l, cat_r, cat_n, csum_0, csum_s, okst_0, okst_s, gD0, gDs, rv_s, rv_n, rcv_r, List.set_cons_zero, List.set_cons_succ, List.take_succ_cons, List.take_zero, List.take_nil, List.drop_succ_cons, List.drop_zero, List.drop_nil, List.reverse_cons, List.reverse_nil, List.nil_append, List.cons_append, List.append_nil, List.length_cons, List.length_nil, Option.toList_some, Option.toList_none, Value.int.injEq, Value.long.injEq, Value.ref.injEq, exists_eq_left, exists_eq_left', and_true, true_and, beq_self_eq_true, decide_eq_true_eq, not_false_eq_true, reduceCtorEq, argsL_0, argsL_i, argsL_r, argsL_l, locs_eq, List.replicate_succ, List.replicate_zero, rf_0_0, rf_0_1, rf_0_2, rf_0_3, rf_0_4, rf_0_5, rf_0_6, rf_0_7, rf_0_8, rf_0_10, rf_1_0, rf_1_1, rf_1_2, rf_1_3, rf_2_0, rf_2_1, rf_2_2, rf_2_3, rf_2_4, rf_2_5, rf_2_6, rf_2_9, rf_14_0, rf_14_1, rf_14_2, rf_14_3, rf_14_4, rf_14_5, rf_21_0, rf_21_1, rf_21_2, rf_21_3, rf_21_4, rf_21_5, rf_28_0, rf_28_1, rf_31_0, rf_32_0, rf_32_1, rf_32_2, rf_32_3, rf_32_4, rf_32_5, rf_33_0, rf_33_1, rf_36_0, rf_36_1, rf_39_0, rf_39_1, rf_42_0, rf_42_1, rf_45_0, rf_45_1, rf_48_0, rf_48_1, sh_0, sh_1, sh_2, sh_3, sh_4, sh_5, sh_6, sh_7, sh_8, sh_9, sh_10, sh_11, sh_12, sh_13, sh_14, sh_15, sh_16, sh_17, sh_18, sh_19, sh_20, sh_21, sh_22, sh_23, sh_24, sh_25, sh_26, sh_27, sh_28, sh_29, sh_30, sh_31, sh_32, sh_33, sh_34, sh_35, sh_36, sh_37, sh_38, sh_39, sh_40, sh_41, sh_42, sh_43, sh_44, sh_45, sh_46, sh_47, sh_48, sh_49, sh_50, sh_51, sh_52, sh_53, sh_54, sh_55, pk_mul, nI_add, nI_toInt, nI_clamp, pk_sub, nI_ltI, nI_leI, nI_eq, zge, zeq, zgt, zle, z0, one_I, bz0, bz1, bz2, bz3, bz4, bz5, Nat.add_zero, Nat.zero_add, nI_dec, nI_dec2, eqF, nn0, zltT, ltT, ltF, leT, leF, true_or, or_true, false_or, or_false, not_true_eq_false, false_implies, true_implies, and_false, false_and, ite_true, ite_false, if_true, if_false]
  have fin : ∀ (f' w' : Nat → Int32) (x seen' : Nat), seen' < 40000 → (∀ k, f k ≠ nI 0 → f' k ≠ nI 0) → (∀ k, f' k ≠ nI 0 → f k ≠ nI 0 ∨ k ∈ ndH hi 400 n) → (vn T → f' n ≠ nI 0) → LC hi f' 400 → x < 20000 → (x = 0 ∨ f' x ≠ nI 0) → Run (lp b_X1_retain_l0) ([.ref 2, .int (nI n), .int (nI x), .int (nI 0), .int (nI seen')], [], (Nx + 55, cu (cu hi 9 f') 10 w', hl, rf0)) (sqQ b_X1_retain_t0 (rtQ (fun v h' => v = none ∧ ∃ f' w', h' = (Nx + 55, cu (cu hi 9 f') 10 w', hl, rf0) ∧ (∀ k, f k ≠ nI 0 → f' k ≠ nI 0) ∧ (∀ k, f' k ≠ nI 0 → f k ≠ nI 0 ∨ k ∈ ndH hi 400 n) ∧ (vn T → f' n ≠ nI 0) ∧ LC hi f' 400))) := by
    intro f' w' x seen' hs m1 m2 m3 m4 hx hx2
    rw [run_lp]
    conv => arg 1; unfold b_X1_retain_l0
    by_cases x0 : x = 0
    · subst x0
      simp (disch := omega) only [run_sq, sqQ_l, sqQ_r, run_bk, bkQ_l, bkQ_0, bkQ_1, bkQ_2, bkQ_3, bkQ_r, rtQ_r, lpQ_l, lpQ_0, lpQ_1, lpQ_2, lpQ_r, r_push, r_iload, r_lload, r_aload, r_istore, r_lstore, r_astore, r_iinc, r_ib, r_ibz, r_lb, r_lbz, r_lsh, r_lcmp, r_i2l, r_l2i, r_dup, r_pop, r_dup2, r_br, r_nop, r_ifnull_r, r_ifnull_n, r_ifnonnull_r, r_ifnonnull_n, r_iret, r_zret, r_lret, r_aret_r, r_aret_n, r_vret, r_geti, r_getr, r_puti, r_putr, r_ald, r_ast, r_zst, r_lld, r_lst, r_qld, r_qst, r_alen, r_max, r_min, r_cpy, r_new, r_newa, r_oini, r_call, r_callV, r_callI, r_if_eq, r_icmp_eq, r_if_ne, r_icmp_ne, r_if_lt, r_icmp_lt, r_if_ge, r_icmp_ge, r_if_gt, r_icmp_gt, r_if_le, r_icmp_le, cat_i, cat_l, cat_r, cat_n, csum_0, csum_s, okst_0, okst_s, gD0, gDs, rv_s, rv_n, rcv_r, List.set_cons_zero, List.set_cons_succ, List.take_succ_cons, List.take_zero, List.take_nil, List.drop_succ_cons, List.drop_zero, List.drop_nil, List.reverse_cons, List.reverse_nil, List.nil_append, List.cons_append, List.append_nil, List.length_cons, List.length_nil, Option.toList_some, Option.toList_none, Value.int.injEq, Value.long.injEq, Value.ref.injEq, exists_eq_left, exists_eq_left', and_true, true_and, beq_self_eq_true, decide_eq_true_eq, not_false_eq_true, reduceCtorEq, argsL_0, argsL_i, argsL_r, argsL_l, locs_eq, List.replicate_succ, List.replicate_zero, rf_0_0, rf_0_1, rf_0_2, rf_0_3, rf_0_4, rf_0_5, rf_0_6, rf_0_7, rf_0_8, rf_0_10, rf_1_0, rf_1_1, rf_1_2, rf_1_3, rf_2_0, rf_2_1, rf_2_2, rf_2_3, rf_2_4, rf_2_5, rf_2_6, rf_2_9, rf_14_0, rf_14_1, rf_14_2, rf_14_3, rf_14_4, rf_14_5, rf_21_0, rf_21_1, rf_21_2, rf_21_3, rf_21_4, rf_21_5, rf_28_0, rf_28_1, rf_31_0, rf_32_0, rf_32_1, rf_32_2, rf_32_3, rf_32_4, rf_32_5, rf_33_0, rf_33_1, rf_36_0, rf_36_1, rf_39_0, rf_39_1, rf_42_0, rf_42_1, rf_45_0, rf_45_1, rf_48_0, rf_48_1, sh_0, sh_1, sh_2, sh_3, sh_4, sh_5, sh_6, sh_7, sh_8, sh_9, sh_10, sh_11, sh_12, sh_13, sh_14, sh_15, sh_16, sh_17, sh_18, sh_19, sh_20, sh_21, sh_22, sh_23, sh_24, sh_25, sh_26, sh_27, sh_28, sh_29, sh_30, sh_31, sh_32, sh_33, sh_34, sh_35, sh_36, sh_37, sh_38, sh_39, sh_40, sh_41, sh_42, sh_43, sh_44, sh_45, sh_46, sh_47, sh_48, sh_49, sh_50, sh_51, sh_52, sh_53, sh_54, sh_55, pk_mul, nI_add, nI_toInt, nI_clamp, pk_sub, nI_ltI, nI_leI, nI_eq, zge, zeq, zgt, zle, z0, one_I, bz0, bz1, bz2, bz3, bz4, bz5, Nat.add_zero, Nat.zero_add, nI_dec, nI_dec2, eqF, nn0, zltT, ltT, ltF, leT, leF, true_or, or_true, false_or, or_false, not_true_eq_false, false_implies, true_implies, and_false, false_and, ite_true, ite_false, if_true, if_false, cu_n, cu_s]
      exact ⟨f', w', rfl, m1, m2, m3, m4⟩
    · have hf : ¬ f' x = 0 := by
        rcases hx2 with z | z
        · exact absurd z x0
        · exact z
      simp (disch := omega) only [run_sq, sqQ_l, sqQ_r, run_bk, bkQ_l, bkQ_0, bkQ_1, bkQ_2, bkQ_3, bkQ_r, rtQ_r, lpQ_l, lpQ_0, lpQ_1, lpQ_2, lpQ_r, r_push, r_iload, r_lload, r_aload, r_istore, r_lstore, r_astore, r_iinc, r_ib, r_ibz, r_lb, r_lbz, r_lsh, r_lcmp, r_i2l, r_l2i, r_dup, r_pop, r_dup2, r_br, r_nop, r_ifnull_r, r_ifnull_n, r_ifnonnull_r, r_ifnonnull_n, r_iret, r_zret, r_lret, r_aret_r, r_aret_n, r_vret, r_geti, r_getr, r_puti, r_putr, r_ald, r_ast, r_zst, r_lld, r_lst, r_qld, r_qst, r_alen, r_max, r_min, r_cpy, r_new, r_newa, r_oini, r_call, r_callV, r_callI, r_if_eq, r_icmp_eq, r_if_ne, r_icmp_ne, r_if_lt, r_icmp_lt, r_if_ge, r_icmp_ge, r_if_gt, r_icmp_gt, r_if_le, r_icmp_le, cat_i, cat_l, cat_r, cat_n, csum_0, csum_s, okst_0, okst_s, gD0, gDs, rv_s, rv_n, rcv_r, List.set_cons_zero, List.set_cons_succ, List.take_succ_cons, List.take_zero, List.take_nil, List.drop_succ_cons, List.drop_zero, List.drop_nil, List.reverse_cons, List.reverse_nil, List.nil_append, List.cons_append, List.append_nil, List.length_cons, List.length_nil, Option.toList_some, Option.toList_none, Value.int.injEq, Value.long.injEq, Value.ref.injEq, exists_eq_left, exists_eq_left', and_true, true_and, beq_self_eq_true, decide_eq_true_eq, not_false_eq_true, reduceCtorEq, argsL_0, argsL_i, argsL_r, argsL_l, locs_eq, List.replicate_succ, List.replicate_zero, rf_0_0, rf_0_1, rf_0_2, rf_0_3, rf_0_4, rf_0_5, rf_0_6, rf_0_7, rf_0_8, rf_0_10, rf_1_0, rf_1_1, rf_1_2, rf_1_3, rf_2_0, rf_2_1, rf_2_2, rf_2_3, rf_2_4, rf_2_5, rf_2_6, rf_2_9, rf_14_0, rf_14_1, rf_14_2, rf_14_3, rf_14_4, rf_14_5, rf_21_0, rf_21_1, rf_21_2, rf_21_3, rf_21_4, rf_21_5, rf_28_0, rf_28_1, rf_31_0, rf_32_0, rf_32_1, rf_32_2, rf_32_3, rf_32_4, rf_32_5, rf_33_0, rf_33_1, rf_36_0, rf_36_1, rf_39_0, rf_39_1, rf_42_0, rf_42_1, rf_45_0, rf_45_1, rf_48_0, rf_48_1, sh_0, sh_1, sh_2, sh_3, sh_4, sh_5, sh_6, sh_7, sh_8, sh_9, sh_10, sh_11, sh_12, sh_13, sh_14, sh_15, sh_16, sh_17, sh_18, sh_19, sh_20, sh_21, sh_22, sh_23, sh_24, sh_25, sh_26, sh_27, sh_28, sh_29, sh_30, sh_31, sh_32, sh_33, sh_34, sh_35, sh_36, sh_37, sh_38, sh_39, sh_40, sh_41, sh_42, sh_43, sh_44, sh_45, sh_46, sh_47, sh_48, sh_49, sh_50, sh_51, sh_52, sh_53, sh_54, sh_55, pk_mul, nI_add, nI_toInt, nI_clamp, pk_sub, nI_ltI, nI_leI, nI_eq, zge, zeq, zgt, zle, z0, one_I, bz0, bz1, bz2, bz3, bz4, bz5, Nat.add_zero, Nat.zero_add, nI_dec, nI_dec2, eqF, nn0, zltT, ltT, ltF, leT, leF, true_or, or_true, false_or, or_false, not_true_eq_false, false_implies, true_implies, and_false, false_and, ite_true, ite_false, if_true, if_false, cu_n, cu_s, hf]
      exact ⟨f', w', rfl, m1, m2, m3, m4⟩
  rcases vT with rfl | vT
  · rw [h.nil]
    rw [h.nil] at fin
    exact fin f w 0 0 (by decide) (fun _ h => h) (fun _ h => Or.inl h) (fun z => z.elim) hL (by decide) (Or.inl rfl)
  · have a1 := dp_nlv vT
    have a2 := nlv_len vT
    exact rt_down vT n 0 0 400 400 f w h (by omega) h4 (by decide) (by omega) (by omega) hL fun f' w' x seen' hs m1 m2 m3 m4 _ hx hx2 => fin f' w' x seen' (by omega) m1 m2 (fun _ => m3) m4 hx hx2
end RetainS

