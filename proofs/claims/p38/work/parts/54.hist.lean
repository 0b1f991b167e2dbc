/-- the state c is as d was; nothing else has changed -/
def CP (c d : Nat) (hi hi' : Nat → Nat → Int32) : Prop := (∀ q, q ≠ c → q ≠ c + 1 → q ≠ c + 2 → hi' q = hi q) ∧ (∀ i, i < 4 → hi' (c + 1) i = hi (d + 1) i) ∧ (∀ i, i < 4 → hi' (c + 2) i = hi (d + 2) i) ∧ hi' c 2 = hi d 2 ∧ hi' c 3 = hi d 3 ∧ hi' c 4 = hi d 4 ∧ hi' c 5 = hi d 5 ∧ hi' c 6 = hi d 6
theorem cpy_cu {hi : Nat → Nat → Int32} {k : Nat} {f : Nat → Int32} : (fun a => if a = k then f else hi a) = cu hi k f := rfl
section HistS
variable {hi : Nat → Nat → Int32} {hl : Nat → Nat → Int64} {c d : Nat}
theorem p_takeFrom {Nx : Nat} (hc : isC c) (hd : isC d) (hne : c ≠ d) : Does m_X2_takeFrom [.ref c, .ref d] (Nx + 55, hi, hl, rf0) (fun v h' => v = none ∧ ∃ hi', h' = (Nx + 55, hi', hl, rf0) ∧ CP c d hi hi') := by
  have s0 := hc.h0
  have s1 := hc.h1
  have s2 := hc.h2
  have r0 := hc.f0
  have r1 := hc.f1
  have t0 := hd.h0
  have t1 := hd.h1
  have t2 := hd.h2
  have q0 := hd.f0
  have q1 := hd.f1
  have cl := hc.lt
  have dl := hd.lt
  have m3 : c % 3 = 0 ∨ c = 28 := by rcases hc with rfl | ⟨i, _, rfl⟩ <;> omega
  have n3 : d % 3 = 0 ∨ d = 28 := by rcases hd with rfl | ⟨i, _, rfl⟩ <;> omega
  refine does_of (by simp [argsL, Value.category]) ?_
  unfold b_X2_takeFrom
  simp (disch := omega) only [run_sq, sqQ_l, sqQ_r, run_bk, bkQ_l, bkQ_0, bkQ_1, bkQ_2, bkQ_3, bkQ_r, rtQ_r, lpQ_l, lpQ_0, lpQ_1, lpQ_2, lpQ_r, r_push, r_iload, r_lload, r_aload, r_istore, r_lstore, r_astore, r_iinc, r_ib, r_ibz, r_lb, r_lbz, r_lsh, r_lcmp, r_i2l, r_l2i, r_dup, r_pop, r_dup2, r_br, r_nop, r_ifnull_r, r_ifnull_n, r_ifnonnull_r, r_ifnonnull_n, r_iret, r_zret, r_lret, r_aret_r, r_aret_n, r_vret, r_geti, r_getr, r_puti, r_putr, r_ald, r_ast, r_zst, r_lld, r_lst, r_qld, r_qst, r_alen, r_max, r_min, r_cpy, r_new, r_newa, r_oini, r_call, r_callV, r_callI, r_if_eq, r_icmp_eq, r_if_ne, r_icmp_ne, r_if_lt, r_icmp_lt, r_if_ge, r_icmp_ge, r_if_gt, r_icmp_gt, r_if_le, r_icmp_le, cat_i, cat_l, cat_r, cat_n, csum_0, csum_s, okst_0, okst_s, gD0, gDs, rv_s, rv_n, rcv_r, List.set_cons_zero, List.set_cons_succ, List.take_succ_cons, List.take_zero, List.take_nil, List.drop_succ_cons, List.drop_zero, List.drop_nil, List.reverse_cons, List.reverse_nil, List.nil_append, List.cons_append, List.append_nil, List.length_cons, List.length_nil, Option.toList_some, Option.toList_none, Value.int.injEq, Value.long.injEq, Value.ref.injEq, exists_eq_left, exists_eq_left', and_true, true_and, beq_self_eq_true, decide_eq_true_eq, not_false_eq_true, reduceCtorEq, argsL_0, argsL_i, argsL_r, argsL_l, locs_eq, List.replicate_succ, List.replicate_zero, rf_0_0, rf_0_1, rf_0_2, rf_0_3, rf_0_4, rf_0_5, rf_0_6, rf_0_7, rf_0_8, rf_0_10, rf_1_0, rf_1_1, rf_1_2, rf_1_3, rf_2_0, rf_2_1, rf_2_2, rf_2_3, rf_2_4, rf_2_5, rf_2_6, rf_2_9, rf_14_0, rf_14_1, rf_14_2, rf_14_3, rf_14_4, rf_14_5, rf_21_0, rf_21_1, rf_21_2, rf_21_3, rf_21_4, rf_21_5, rf_28_0, rf_28_1, rf_31_0, rf_32_0, rf_32_1, rf_32_2, rf_32_3, rf_32_4, rf_32_5, rf_33_0, rf_33_1, rf_36_0, rf_36_1, rf_39_0, rf_39_1, rf_42_0, rf_42_1, rf_45_0, rf_45_1, rf_48_0, rf_48_1, sh_0, sh_1, sh_2, sh_3, sh_4, sh_5, sh_6, sh_7, sh_8, sh_9, sh_10, sh_11, sh_12, sh_13, sh_14, sh_15, sh_16, sh_17, sh_18, sh_19, sh_20, sh_21, sh_22, sh_23, sh_24, sh_25, sh_26, sh_27, sh_28, sh_29, sh_30, sh_31, sh_32, sh_33, sh_34, sh_35, sh_36, sh_37, sh_38, sh_39, sh_40, sh_41, sh_42, sh_43, sh_44, sh_45, sh_46, sh_47, sh_48, sh_49, sh_50, sh_51, sh_52, sh_53, sh_54, sh_55, pk_mul, nI_add, nI_toInt, nI_clamp, pk_sub, nI_ltI, nI_leI, nI_eq, zge, zeq, zgt, zle, z0, one_I, bz0, bz1, bz2, bz3, bz4, bz5, Nat.add_zero, Nat.zero_add, nI_dec, nI_dec2, eqF, nn0, zltT, ltT, ltF, leT, leF, true_or, or_true, false_or, or_false, not_true_eq_false, false_implies, true_implies, and_false, false_and, ite_true, ite_false, if_true, if_false, r_cpy, s0, s1, s2, r0, r1, t0, t1, t2, q0, q1, cpy_cu, u2_cu, cu_n, cu_s, cu_cu]
  refine ⟨_, rfl, fun q h1 h2 h3 => by rw [cu_n h1, cu_n h3, cu_n h2], fun i h => ?_, fun i h => ?_, ?_, ?_, ?_, ?_, ?_⟩
  · rw [cu_n (by omega), cu_n (by omega), cu_s]; exact cpy4_at h
  · rw [cu_n (by omega), cu_s]; exact cpy4_at h
  all_goals (rw [cu_s]; simp only [upd_s, upd_n (show (2 : Nat) ≠ 3 by decide), upd_n (show (2 : Nat) ≠ 4 by decide), upd_n (show (2 : Nat) ≠ 5 by decide), upd_n (show (2 : Nat) ≠ 6 by decide), upd_n (show (3 : Nat) ≠ 4 by decide), upd_n (show (3 : Nat) ≠ 5 by decide), upd_n (show (3 : Nat) ≠ 6 by decide), upd_n (show (4 : Nat) ≠ 5 by decide), upd_n (show (4 : Nat) ≠ 6 by decide), upd_n (show (5 : Nat) ≠ 6 by decide)])
theorem xor6 : ∀ t, t < 12 → 0 ≤ (nI t ^^^ nI 6) := by decide
theorem c_floorMod {h : Hp} {t : Nat} (ht : t < 12) : m_J9_floorMod_7cf53 [.int (nI t), .int (nI 6)] h = some (some (.int (nI (t % 6))), h) := by
  have hx := xor6 t ht
  have hr : nI t - nI t / nI 6 * nI 6 = nI (t % 6) := nI_rem (by omega) (by decide)
  refine does_eq (does_of (by simp [argsL, Value.category]) ?_)
  unfold b_J9_floorMod_7cf53
  simp (disch := omega) only [run_sq, sqQ_l, sqQ_r, run_bk, bkQ_l, bkQ_0, bkQ_1, bkQ_2, bkQ_3, bkQ_r, rtQ_r, lpQ_l, lpQ_0, lpQ_1, lpQ_2, lpQ_r, r_push, r_iload, r_lload, r_aload, r_istore, r_lstore, r_astore, r_iinc, r_ib, r_ibz, r_lb, r_lbz, r_lsh, r_lcmp, r_i2l, r_l2i, r_dup, r_pop, r_dup2, r_br, r_nop, r_ifnull_r, r_ifnull_n, r_ifnonnull_r, r_ifnonnull_n, r_iret, r_zret, r_lret, r_aret_r, r_aret_n, r_vret, r_geti, r_getr, r_puti, r_putr, r_ald, r_ast, r_zst, r_lld, r_lst, r_qld, r_qst, r_alen, r_max, r_min, r_cpy, r_new, r_newa, r_oini, r_call, r_callV, r_callI, r_if_eq, r_icmp_eq, r_if_ne, r_icmp_ne, r_if_lt, r_icmp_lt, r_if_ge, r_icmp_ge, r_if_gt, r_icmp_gt, r_if_le, r_icmp_le, cat_i, cat_l, cat_r, cat_n, csum_0, csum_s, okst_0, okst_s, gD0, gDs, rv_s, rv_n, rcv_r, List.set_cons_zero, List.set_cons_succ, List.take_succ_cons, List.take_zero, List.take_nil, List.drop_succ_cons, List.drop_zero, List.drop_nil, List.reverse_cons, List.reverse_nil, List.nil_append, List.cons_append, List.append_nil, List.length_cons, List.length_nil, Option.toList_some, Option.toList_none, Value.int.injEq, Value.long.injEq, Value.ref.injEq, exists_eq_left, exists_eq_left', and_true, true_and, beq_self_eq_true, decide_eq_true_eq, not_false_eq_true, reduceCtorEq, argsL_0, argsL_i, argsL_r, argsL_l, locs_eq, List.replicate_succ, List.replicate_zero, rf_0_0, rf_0_1, rf_0_2, rf_0_3, rf_0_4, rf_0_5, rf_0_6, rf_0_7, rf_0_8, rf_0_10, rf_1_0, rf_1_1, rf_1_2, rf_1_3, rf_2_0, rf_2_1, rf_2_2, rf_2_3, rf_2_4, rf_2_5, rf_2_6, rf_2_9, rf_14_0, rf_14_1, rf_14_2, rf_14_3, rf_14_4, rf_14_5, rf_21_0, rf_21_1, rf_21_2, rf_21_3, rf_21_4, rf_21_5, rf_28_0, rf_28_1, rf_31_0, rf_32_0, rf_32_1, rf_32_2, rf_32_3, rf_32_4, rf_32_5, rf_33_0, rf_33_1, rf_36_0, rf_36_1, rf_39_0, rf_39_1, rf_42_0, rf_42_1, rf_45_0, rf_45_1, rf_48_0, rf_48_1, sh_0, sh_1, sh_2, sh_3, sh_4, sh_5, sh_6, sh_7, sh_8, sh_9, sh_10, sh_11, sh_12, sh_13, sh_14, sh_15, sh_16, sh_17, sh_18, sh_19, sh_20, sh_21, sh_22, sh_23, sh_24, sh_25, sh_26, sh_27, sh_28, sh_29, sh_30, sh_31, sh_32, sh_33, sh_34, sh_35, sh_36, sh_37, sh_38, sh_39, sh_40, sh_41, sh_42, sh_43, sh_44, sh_45, sh_46, sh_47, sh_48, sh_49, sh_50, sh_51, sh_52, sh_53, sh_54, sh_55, pk_mul, nI_add, nI_toInt, nI_clamp, pk_sub, nI_ltI, nI_leI, nI_eq, zge, zeq, zgt, zle, z0, one_I, bz0, bz1, bz2, bz3, bz4, bz5, Nat.add_zero, Nat.zero_add, nI_dec, nI_dec2, eqF, nn0, zltT, ltT, ltF, leT, leF, true_or, or_true, false_or, or_false, not_true_eq_false, false_implies, true_implies, and_false, false_and, ite_true, ite_false, if_true, if_false, hx, hr]
theorem rf32 {j : Nat} (h : j < 6) : rf0 32 j = some (33 + 3 * j) := by
  match j, h with
  | 0, _ => exact rf_32_0
  | 1, _ => exact rf_32_1
  | 2, _ => exact rf_32_2
  | 3, _ => exact rf_32_3
  | 4, _ => exact rf_32_4
  | 5, _ => exact rf_32_5
  | j + 6, h => omega
theorem c_savedState {Nx : Nat} {o k : Nat} (ho : o < 6) (hk : k < 6) (h1 : hi 31 1 = nI o) : m_X0_savedState [.ref 31, .int (nI k)] (Nx + 55, hi, hl, rf0) = some (some (.ref (33 + 3 * ((o + k) % 6))), (Nx + 55, hi, hl, rf0)) := by
  have hr := rf32 (j := (o + k) % 6) (by omega)
  have hm : (o + k) % 6 < 6 := by omega
  refine does_eq (does_of (by simp [argsL, Value.category]) ?_)
  unfold b_X0_savedState
  simp (disch := omega) only [run_sq, sqQ_l, sqQ_r, run_bk, bkQ_l, bkQ_0, bkQ_1, bkQ_2, bkQ_3, bkQ_r, rtQ_r, lpQ_l, lpQ_0, lpQ_1, lpQ_2, lpQ_r, r_push, r_iload, r_lload, r_aload, r_istore, r_lstore, r_astore, r_iinc, r_ib, r_ibz, r_lb, r_lbz, r_lsh, r_lcmp, r_i2l, r_l2i, r_dup, r_pop, r_dup2, r_br, r_nop, r_ifnull_r, r_ifnull_n, r_ifnonnull_r, r_ifnonnull_n, r_iret, r_zret, r_lret, r_aret_r, r_aret_n, r_vret, r_geti, r_getr, r_puti, r_putr, r_ald, r_ast, r_zst, r_lld, r_lst, r_qld, r_qst, r_alen, r_max, r_min, r_cpy, r_new, r_newa, r_oini, r_call, r_callV, r_callI, r_if_eq, r_icmp_eq, r_if_ne, r_icmp_ne, r_if_lt, r_icmp_lt, r_if_ge, r_icmp_ge, r_if_gt, r_icmp_gt, r_if_le, r_icmp_le, cat_i, cat_l, cat_r, cat_n, csum_0, csum_s, okst_0, okst_s, gD0, gDs, rv_s, rv_n, rcv_r, List.set_cons_zero, List.set_cons_succ, List.take_succ_cons, List.take_zero, List.take_nil, List.drop_succ_cons, List.drop_zero, List.drop_nil, List.reverse_cons, List.reverse_nil, List.nil_append, List.cons_append, List.append_nil, List.length_cons, List.length_nil, Option.toList_some, Option.toList_none, Value.int.injEq, Value.long.injEq, Value.ref.injEq, exists_eq_left, exists_eq_left', and_true, true_and, beq_self_eq_true, decide_eq_true_eq, not_false_eq_true, reduceCtorEq, argsL_0, argsL_i, argsL_r, argsL_l, locs_eq, List.replicate_succ, List.replicate_zero, rf_0_0, rf_0_1, rf_0_2, rf_0_3, rf_0_4, rf_0_5, rf_0_6, rf_0_7, rf_0_8, rf_0_10, rf_1_0, rf_1_1, rf_1_2, rf_1_3, rf_2_0, rf_2_1, rf_2_2, rf_2_3, rf_2_4, rf_2_5, rf_2_6, rf_2_9, rf_14_0, rf_14_1, rf_14_2, rf_14_3, rf_14_4, rf_14_5, rf_21_0, rf_21_1, rf_21_2, rf_21_3, rf_21_4, rf_21_5, rf_28_0, rf_28_1, rf_31_0, rf_32_0, rf_32_1, rf_32_2, rf_32_3, rf_32_4, rf_32_5, rf_33_0, rf_33_1, rf_36_0, rf_36_1, rf_39_0, rf_39_1, rf_42_0, rf_42_1, rf_45_0, rf_45_1, rf_48_0, rf_48_1, sh_0, sh_1, sh_2, sh_3, sh_4, sh_5, sh_6, sh_7, sh_8, sh_9, sh_10, sh_11, sh_12, sh_13, sh_14, sh_15, sh_16, sh_17, sh_18, sh_19, sh_20, sh_21, sh_22, sh_23, sh_24, sh_25, sh_26, sh_27, sh_28, sh_29, sh_30, sh_31, sh_32, sh_33, sh_34, sh_35, sh_36, sh_37, sh_38, sh_39, sh_40, sh_41, sh_42, sh_43, sh_44, sh_45, sh_46, sh_47, sh_48, sh_49, sh_50, sh_51, sh_52, sh_53, sh_54, sh_55, pk_mul, nI_add, nI_toInt, nI_clamp, pk_sub, nI_ltI, nI_leI, nI_eq, zge, zeq, zgt, zle, z0, one_I, bz0, bz1, bz2, bz3, bz4, bz5, Nat.add_zero, Nat.zero_add, nI_dec, nI_dec2, eqF, nn0, zltT, ltT, ltF, leT, leF, true_or, or_true, false_or, or_false, not_true_eq_false, false_implies, true_implies, and_false, false_and, ite_true, ite_false, if_true, if_false, h1]
  simp only [does_at (c_floorMod (h := (Nx + 55, hi, hl, rf0)) (t := o + k) (by omega)), r_call, r_callV, run_sq, sqQ_l, List.take_succ_cons, List.take_zero, List.take_nil, List.drop_succ_cons, List.drop_zero, List.drop_nil, List.reverse_cons, List.reverse_nil, List.nil_append, List.cons_append, List.append_nil]
  simp (disch := omega) only [run_sq, sqQ_l, sqQ_r, run_bk, bkQ_l, bkQ_0, bkQ_1, bkQ_2, bkQ_3, bkQ_r, rtQ_r, lpQ_l, lpQ_0, lpQ_1, lpQ_2, lpQ_r, r_push, r_iload, r_lload, r_aload, r_istore, r_lstore, r_astore, r_iinc, r_ib, r_ibz, r_lb, r_lbz, r_lsh, r_lcmp, r_i2l, r_l2i, r_dup, r_pop, r_dup2, r_br, r_nop, r_ifnull_r, r_ifnull_n, r_ifnonnull_r, r_ifnonnull_n, r_iret, r_zret, r_lret, r_aret_r, r_aret_n, r_vret, r_geti, r_getr, r_puti, r_putr, r_ald, r_ast, r_zst, r_lld, r_lst, r_qld, r_qst, r_alen, r_max, r_min, r_cpy, r_new, r_newa, r_oini, r_call, r_callV, r_callI, r_if_eq, r_icmp_eq, r_if_ne, r_icmp_ne, r_if_lt, r_icmp_lt, r_if_ge, r_icmp_ge, r_if_gt, r_icmp_gt, r_if_le, r_icmp_le, cat_i, cat_l, cat_r, cat_n, csum_0, csum_s, okst_0, okst_s, gD0, gDs, rv_s, rv_n, rcv_r, List.set_cons_zero, List.set_cons_succ, List.take_succ_cons, List.take_zero, List.take_nil, List.drop_succ_cons, List.drop_zero, List.drop_nil, List.reverse_cons, List.reverse_nil, List.nil_append, List.cons_append, List.append_nil, List.length_cons, List.length_nil, Option.toList_some, Option.toList_none, Value.int.injEq, Value.long.injEq, Value.ref.injEq, exists_eq_left, exists_eq_left', and_true, true_and, beq_self_eq_true, decide_eq_true_eq, not_false_eq_true, reduceCtorEq, argsL_0, argsL_i, argsL_r, argsL_l, locs_eq, List.replicate_succ, List.replicate_zero, rf_0_0, rf_0_1, rf_0_2, rf_0_3, rf_0_4, rf_0_5, rf_0_6, rf_0_7, rf_0_8, rf_0_10, rf_1_0, rf_1_1, rf_1_2, rf_1_3, rf_2_0, rf_2_1, rf_2_2, rf_2_3, rf_2_4, rf_2_5, rf_2_6, rf_2_9, rf_14_0, rf_14_1, rf_14_2, rf_14_3, rf_14_4, rf_14_5, rf_21_0, rf_21_1, rf_21_2, rf_21_3, rf_21_4, rf_21_5, rf_28_0, rf_28_1, rf_31_0, rf_32_0, rf_32_1, rf_32_2, rf_32_3, rf_32_4, rf_32_5, rf_33_0, rf_33_1, rf_36_0, rf_36_1, rf_39_0, rf_39_1, rf_42_0, rf_42_1, rf_45_0, rf_45_1, rf_48_0, rf_48_1, sh_0, sh_1, sh_2, sh_3, sh_4, sh_5, sh_6, sh_7, sh_8, sh_9, sh_10, sh_11, sh_12, sh_13, sh_14, sh_15, sh_16, sh_17, sh_18, sh_19, sh_20, sh_21, sh_22, sh_23, sh_24, sh_25, sh_26, sh_27, sh_28, sh_29, sh_30, sh_31, sh_32, sh_33, sh_34, sh_35, sh_36, sh_37, sh_38, sh_39, sh_40, sh_41, sh_42, sh_43, sh_44, sh_45, sh_46, sh_47, sh_48, sh_49, sh_50, sh_51, sh_52, sh_53, sh_54, sh_55, pk_mul, nI_add, nI_toInt, nI_clamp, pk_sub, nI_ltI, nI_leI, nI_eq, zge, zeq, zgt, zle, z0, one_I, bz0, bz1, bz2, bz3, bz4, bz5, Nat.add_zero, Nat.zero_add, nI_dec, nI_dec2, eqF, nn0, zltT, ltT, ltF, leT, leF, true_or, or_true, false_or, or_false, not_true_eq_false, false_implies, true_implies, and_false, false_and, ite_true, ite_false, if_true, if_false, hr]
end HistS
/-- what a version's places hold -/
def VS (hi : Nat → Nat → Int32) (hl : Nat → Nat → Int64) (A : Nat → Prop) (v : Nat) : Option Tr → Prop
  | some T => hi 52 v = nI 1 ∧ ∃ n, hi 51 v = nI n ∧ isT A hi hl T n
  | none => hi 52 v = nI 0 ∧ hi 51 v = nI 0
/-- the cells c, c + 1, c + 2 hold the state σ -/
def ST (hi : Nat → Nat → Int32) (hl : Nat → Nat → Int64) (A : Nat → Prop) (c : Nat) : Sa → Prop := fun (T, ring, rc, mks, s, bal, bd) =>
  hi c 2 = nI rc ∧ hi c 3 = nI s ∧ hi c 4 = bal ∧ hi c 6 = bd ∧ (∀ i, i < 4 → hi (c + 1) i = mks i) ∧ (∃ n, hi c 5 = nI n ∧ isT A hi hl T n) ∧ ∀ i, i < rc → ∃ n, hi (c + 2) i = nI n ∧ isT A hi hl (ring i) n
/-- the nodes in the ring of a state -/
def rgL (hi : Nat → Nat → Int32) (c : Nat) : List Int32 := (List.range (iN (hi c 2))).map (hi (c + 2))
/-- a ring and the next: the same, or one rope more -/
def stp (x y : List Int32) : Prop := y = x ∨ ∃ r, y = (r :: x).take 4
/-- the cell of the i-th saved state -/
def slo6 (o i : Nat) : Nat := 33 + 3 * ((o + i) % 6)
/-- the class's cells hold the state S -/
def RCo (hi : Nat → Nat → Int32) (hl : Nat → Nat → Int64) (a o : Nat) : St → Prop := fun (σ, H, V, B) =>
  o < 6 ∧ hi 31 1 = nI o ∧ hi 31 2 = nI H.length ∧ ST hi hl (Al (hi 9) a) 28 σ ∧ (∀ i τ, H[i]? = some τ → ST hi hl (Al (hi 9) a) (slo6 o i) τ) ∧ (∀ v, v < 3 → VS hi hl (Al (hi 9) a) v (V v)) ∧ hi 0 9 = nI B.length ∧ (∀ i, i < B.length → hi 53 i = nI (B.getD i 0)) ∧ ∀ i, i < H.length → stp (rgL hi (slo6 o i)) (rgL hi (if i + 1 < H.length then slo6 o (i + 1) else 28))
theorem slo6_C {o i : Nat} : isC (slo6 o i) := Or.inr ⟨(o + i) % 6, Nat.mod_lt _ (by decide), rfl⟩
/-- what calls inside a change may change -/
def KP (hi hi' : Nat → Nat → Int32) (hl hl' : Nat → Nat → Int64) (a a' : Nat) : Prop := a ≤ a' ∧ (∀ c, (c = 0 ∨ c = 9 ∨ 28 ≤ c) → hi' c = hi c) ∧ NS (Al (hi 9) a) hi hi' hl hl'
section RcS
variable {hi hi' h2 : Nat → Nat → Int32} {hl hl' l2 : Nat → Nat → Int64} {a a' a2 m o : Nat} {σ : Sa} {H : List Sa} {V : Nat → Option Tr} {B : List Nat} {S : St}
theorem KP.rf : KP hi hi hl hl a a := ⟨Nat.le_refl _, fun _ _ => rfl, NS.rf⟩
theorem KP.up (p : KP hi hi' hl hl' a a') : ∀ k, Al (hi 9) a k → Al (hi' 9) a' k := by
  rw [p.2.1 9 (by decide)]
  exact Al.mono p.1
theorem KP.tr (p : KP hi hi' hl hl' a a') (q : KP hi' h2 hl' l2 a' a2) : KP hi h2 hl l2 a a2 := ⟨Nat.le_trans p.1 q.1, fun c hc => (q.2.1 c hc).trans (p.2.1 c hc), p.2.2.tr p.up q.2.2⟩
theorem PG.kp (p : PG hi hi' hl hl' a a') : KP hi hi' hl hl' a a' := ⟨p.1, fun c hc => p.2.1 c (by omega), p.2.2⟩
theorem Vf.kp {v : Nat} (hv : isV v) (f : Vf v hi hi') : KP hi hi' hl hl a a := by
  have := hv.lt
  refine ⟨Nat.le_refl _, fun c hc => f c (by omega), fun k _ => ?_⟩
  rw [f 3 (by omega), f 4 (by omega), f 5 (by omega), f 6 (by omega)]
  exact ⟨rfl, rfl, rfl, rfl, rfl, rfl⟩
theorem Vf.un {v : Nat} (hv : isV v) (f : Vf v hi hi') (h : UN hi a m) : UN hi' a m := by
  have := hv.lt
  obtain ⟨u1, u2', u3, u4, u5⟩ := h
  refine ⟨u1, u2', ?_, ?_, ?_⟩
  · rw [f 2 (by omega)]; exact u3
  · rw [f 2 (by omega), f 9 (by omega)]; exact u4
  · rw [f 9 (by omega)]; exact u5
theorem isT.kp {T : Tr} {n : Nat} (h : isT (Al (hi 9) a) hi hl T n) (v : vt T) (p : KP hi hi' hl hl' a a') : isT (Al (hi' 9) a') hi' hl' T n := h.ext p.2.2 p.up v
theorem ST.kp {c : Nat} (h : ST hi hl (Al (hi 9) a) c σ) (hv : SV σ) (hc : isC c) (p : KP hi hi' hl hl' a a') : ST hi' hl' (Al (hi' 9) a') c σ := by
  obtain ⟨T, ring, rc, mks, s, bal, bd⟩ := σ
  obtain ⟨h2, h3, h4, h6, hm, ⟨n, hn, hT⟩, hr⟩ := h
  obtain ⟨v1, v2, v3, v4, v5, v6⟩ := hv
  have cl := hc.lt
  refine ⟨?_, ?_, ?_, ?_, ?_, ⟨n, ?_, hT.kp v1 p⟩, fun i hi0 => ?_⟩
  · rw [p.2.1 c (by omega)]; exact h2
  · rw [p.2.1 c (by omega)]; exact h3
  · rw [p.2.1 c (by omega)]; exact h4
  · rw [p.2.1 c (by omega)]; exact h6
  · rw [p.2.1 (c + 1) (by omega)]; exact hm
  · rw [p.2.1 c (by omega)]; exact hn
  · obtain ⟨k, k1, k2⟩ := hr i hi0
    exact ⟨k, by rw [p.2.1 (c + 2) (by omega)]; exact k1, k2.kp (v3 i (by omega)).1 p⟩
theorem VS.kp {v : Nat} {o : Option Tr} (h : VS hi hl (Al (hi 9) a) v o) (hv : ∀ T, o = some T → vt T) (p : KP hi hi' hl hl' a a') : VS hi' hl' (Al (hi' 9) a') v o := by
  cases o with
  | none => exact ⟨by rw [p.2.1 52 (by decide)]; exact h.1, by rw [p.2.1 51 (by decide)]; exact h.2⟩
  | some T =>
    obtain ⟨h1, n, h2, h3⟩ := h
    exact ⟨by rw [p.2.1 52 (by decide)]; exact h1, n, by rw [p.2.1 51 (by decide)]; exact h2, h3.kp (hv T rfl) p⟩
theorem rgL.eq {c : Nat} (h0 : hi' c = hi c) (h2 : hi' (c + 2) = hi (c + 2)) : rgL hi' c = rgL hi c := by unfold rgL; rw [h0, h2]
theorem RCo.kp (h : RCo hi hl a o S) (hv : VV S) (p : KP hi hi' hl hl' a a') : RCo hi' hl' a' o S := by
  obtain ⟨σ, H, V, B⟩ := S
  obtain ⟨h1, h2, h3, h4, h5, h6, h7, h8, h9⟩ := h
  obtain ⟨v1, v2, v3, v4, v5, v6⟩ := hv
  have ec : ∀ c, isC c → rgL hi' c = rgL hi c := fun c hc => rgL.eq (p.2.1 c (by have := hc.lt; omega)) (p.2.1 (c + 2) (by have := hc.lt; omega))
  refine ⟨h1, by rw [p.2.1 31 (by decide)]; exact h2, by rw [p.2.1 31 (by decide)]; exact h3, h4.kp v1 isC.n p, fun i τ hτ => (h5 i τ hτ).kp (v2 τ (List.mem_of_getElem? hτ)) slo6_C p, fun v hv => (h6 v hv).kp (fun T e => (v4 v T e).1) p, by rw [p.2.1 0 (by decide)]; exact h7, by rw [p.2.1 53 (by decide)]; exact h8, fun i hi0 => ?_⟩
  rw [ec _ slo6_C, ec _ (by split; exact slo6_C; exact isC.n)]
  exact h9 i hi0
end RcS

