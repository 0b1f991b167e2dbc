theorem lsl_l {c k : Nat} (hc : c < 128) (hk : k ≤ 56) : nL c <<< (nL k &&& 63) = nL (c * 2 ^ k) := by
  rw [← nI_toL (a := k) (by omega)]
  exact lsl_n hc hk
theorem or_n {a c k : Nat} (ha : a < 2 ^ k) (hs : a + c * 2 ^ k < 2 ^ 63) : nL a ||| nL (c * 2 ^ k) = nL (a + c * 2 ^ k) := by
  apply Int64.toBitVec_inj.mp
  apply BitVec.eq_of_toNat_eq
  rw [Int64.toBitVec_or, BitVec.toNat_or]
  show (a % 2 ^ 64) ||| (c * 2 ^ k % 2 ^ 64) = (a + c * 2 ^ k) % 2 ^ 64
  rw [Nat.mod_eq_of_lt (show a < 2 ^ 64 by omega), Nat.mod_eq_of_lt (show c * 2 ^ k < 2 ^ 64 by omega), Nat.mod_eq_of_lt (show a + c * 2 ^ k < 2 ^ 64 by omega), Nat.or_comm, Nat.mul_comm c, ← Nat.two_pow_add_eq_or_of_lt ha, Nat.add_comm]
theorem wd_add {C : List Nat} {c : Nat} (hc : ∀ x ∈ C, x < 128) (hc2 : c < 128) (h : C.length < 8) : nL (wd C) ||| nL (c * 2 ^ (8 * C.length)) = nL (wd (C ++ [c])) := by
  have e : 256 ^ C.length = 2 ^ (8 * C.length) := by rw [Nat.pow_mul]
  have h1 := wd_lt hc
  have h2 : wd (C ++ [c]) < 2 ^ 63 := wd_8 (fun x hx => by
    rcases List.mem_append.mp hx with z | z
    · exact hc x z
    · rw [List.mem_singleton.mp z]; exact hc2) (by rw [List.length_append, List.length_singleton]; omega)
  have h3 : wd (C ++ [c]) = wd C + c * 2 ^ (8 * C.length) := by
    rw [wd_app, e]; simp only [wd]; rw [Nat.mul_zero, Nat.add_zero, Nat.mul_comm]
  rw [e] at h1
  rw [h3] at h2 ⊢
  exact or_n h1 h2
theorem u2l_s {h : Nat → Nat → Int64} {k j : Nat} {x : Int64} : u2 h k j x k j = x := by simp [u2]
theorem u2l_n {h : Nat → Nat → Int64} {k j a b : Nat} {x : Int64} (hn : ¬ (a = k ∧ b = j)) : u2 h k j x a b = h a b := by
  unfold u2; rw [if_neg hn]
section AppS
variable {hi : Nat → Nat → Int32} {hl : Nat → Nat → Int64} {n : Nat}
theorem p_append {Nx : Nat} {C : List Nat} {c : Nat} (h1 : 1 ≤ n) (h2 : n < 20000) (hc : ∀ x ∈ C, x < 128) (hc2 : c < 128) (h16 : C.length < 16) (l5 : hi 5 n = nI C.length) (l7 : hl 7 n = nL (wd (C.take 8))) (l8 : hl 8 n = nL (wd (C.drop 8))) :
    Does m_X1_append [.ref 2, .int (nI n), .int (nI c)] (Nx + 55, hi, hl, rf0) (fun v h' => v = none ∧ ∃ hl', h' = (Nx + 55, cu hi 5 (upd (hi 5) n (nI (C.length + 1))), hl', rf0) ∧ (∀ k j, j ≠ n → hl' k j = hl k j) ∧ hl' 7 n = nL (wd ((C ++ [c]).take 8)) ∧ hl' 8 n = nL (wd ((C ++ [c]).drop 8))) := by
  refine does_of (by simp [argsL, Value.category]) ?_
  unfold b_X1_append
  have e8 : C.length % 8 < 8 := Nat.mod_lt _ (by decide)
  by_cases h8 : C.length < 8
  · have t8 : C.take 8 = C := List.take_of_length_le (by omega)
    have w := wd_add hc hc2 h8
    rw [t8] at l7
    simp (disch := omega) only [run_sq, sqQ_l, sqQ_r, run_bk, bkQ_l, bkQ_0, bkQ_1, bkQ_2, bkQ_3, bkQ_r, rtQ_r, lpQ_l, lpQ_0, lpQ_1, lpQ_2, lpQ_r, r_push, r_iload, r_lload, r_aload, r_istore, r_lstore, r_astore, r_iinc, r_ib, r_ibz, r_lb, r_lbz, r_lsh, r_lcmp, r_i2l, r_l2i, r_dup, r_pop, r_dup2, r_br, r_nop, r_ifnull_r, r_ifnull_n, r_ifnonnull_r, r_ifnonnull_n, r_iret, r_zret, r_lret, r_aret_r, r_aret_n, r_vret, r_geti, r_getr, r_puti, r_putr, r_ald, r_ast, r_zst, r_lld, r_lst, r_qld, r_qst, r_alen, r_max, r_min, r_cpy, r_new, r_newa, r_oini, r_call, r_callV, r_callI, r_if_eq, r_icmp_eq, r_if_ne, r_icmp_ne, r_if_lt, r_icmp_lt, r_if_ge, r_icmp_ge, r_if_gt, r_icmp_gt, r_if_le, r_icmp_le, cat_i, cat_l, cat_r, cat_n, csum_0, csum_s, okst_0, okst_s, gD0, gDs, rv_s, rv_n, rcv_r, List.set_cons_zero, List.set_cons_succ, List.take_succ_cons, List.take_zero, List.take_nil, List.drop_succ_cons, List.drop_zero, List.drop_nil, List.reverse_cons, List.reverse_nil, List.nil_append, List.cons_append, List.append_nil, List.length_cons, List.length_nil, Option.toList_some, Option.toList_none, Value.int.injEq, Value.long.injEq, Value.ref.injEq, exists_eq_left, exists_eq_left', and_true, true_and, beq_self_eq_true, decide_eq_true_eq, not_false_eq_true, reduceCtorEq, argsL_0, argsL_i, argsL_r, argsL_l, locs_eq, List.replicate_succ, List.replicate_zero, rf_0_0, rf_0_1, rf_0_2, rf_0_3, rf_0_4, rf_0_5, rf_0_6, rf_0_7, rf_0_8, rf_0_10, rf_1_0, rf_1_1, rf_1_2, rf_1_3, rf_2_0, rf_2_1, rf_2_2, rf_2_3, rf_2_4, rf_2_5, rf_2_6, rf_2_9, rf_14_0, rf_14_1, rf_14_2, rf_14_3, rf_14_4, rf_14_5, rf_21_0, rf_21_1, rf_21_2, rf_21_3, rf_21_4, rf_21_5, rf_28_0, rf_28_1, rf_31_0, rf_32_0, rf_32_1, rf_32_2, rf_32_3, rf_32_4, rf_32_5, rf_33_0, rf_33_1, rf_36_0, rf_36_1, rf_39_0, rf_39_1, rf_42_0, rf_42_1, rf_45_0, rf_45_1, rf_48_0, rf_48_1, sh_0, sh_1, sh_2, sh_3, sh_4, sh_5, sh_6, sh_7, sh_8, sh_9, sh_10, sh_11, sh_12, sh_13, sh_14, sh_15, sh_16, sh_17, sh_18, sh_19, sh_20, sh_21, sh_22, sh_23, sh_24, sh_25, sh_26, sh_27, sh_28, sh_29, sh_30, sh_31, sh_32, sh_33, sh_34, sh_35, sh_36, sh_37, sh_38, sh_39, sh_40, sh_41, sh_42, sh_43, sh_44, sh_45, sh_46, sh_47, sh_48, sh_49, sh_50, sh_51, sh_52, sh_53, sh_54, sh_55, pk_mul, nI_add, nI_toInt, nI_clamp, pk_sub, nI_ltI, nI_leI, nI_eq, zge, zeq, zgt, zle, z0, one_I, bz0, bz1, bz2, bz3, bz4, bz5, Nat.add_zero, Nat.zero_add, nI_dec, nI_dec2, eqF, nn0, zltT, ltT, ltF, leT, leF, true_or, or_true, false_or, or_false, not_true_eq_false, false_implies, true_implies, and_false, false_and, ite_true, ite_false, if_true, if_false, l5, l7, nI_rem, pk_mul, nI_toL, lsl_l]
    rw [show C.length % 8 = C.length by omega, w, u2_cu]
    refine ⟨_, rfl, fun k j hj => u2l_n (fun z => hj z.2), ?_, ?_⟩
    · rw [u2l_s, List.take_of_length_le (by rw [List.length_append, List.length_singleton]; omega)]
    · rw [u2l_n (by omega), l8, List.drop_eq_nil_of_le (by omega), List.drop_eq_nil_of_le (by rw [List.length_append, List.length_singleton]; omega)]
  · have hl8 : (C.drop 8).length = C.length - 8 := List.length_drop
    have w := wd_add (C := C.drop 8) (c := c) (fun x hx => hc x (List.mem_of_mem_drop hx)) hc2 (by omega)
    rw [hl8] at w
    simp (disch := omega) only [run_sq, sqQ_l, sqQ_r, run_bk, bkQ_l, bkQ_0, bkQ_1, bkQ_2, bkQ_3, bkQ_r, rtQ_r, lpQ_l, lpQ_0, lpQ_1, lpQ_2, lpQ_r, r_push, r_iload, r_lload, r_aload, r_istore, r_lstore, r_astore, r_iinc, r_ib, r_ibz, r_lb, r_lbz, r_lsh, r_lcmp, r_i2l, r_l2i, r_dup, r_pop, r_dup2, r_br, r_nop, r_ifnull_r, r_ifnull_n, r_ifnonnull_r, r_ifnonnull_n, r_iret, r_zret, r_lret, r_aret_r, r_aret_n, r_vret, r_geti, r_getr, r_puti, r_putr, r_ald, r_ast, r_zst, r_lld, r_lst, r_qld, r_qst, r_alen, r_max, r_min, r_cpy, r_new, r_newa, r_oini, r_call, r_callV, r_callI, r_if_eq, r_icmp_eq, r_if_ne, r_icmp_ne, r_if_lt, r_icmp_lt, r_if_ge, r_icmp_ge, r_if_gt, r_icmp_gt, r_if_le, r_icmp_le, cat_i, cat_l, cat_r, cat_n, csum_0, csum_s, okst_0, okst_s, gD0, gDs, rv_s, rv_n, rcv_r, List.set_cons_zero, List.set_cons_succ, List.take_succ_cons, List.take_zero, List.take_nil, List.drop_succ_cons, List.drop_zero, List.drop_nil, List.reverse_cons, List.reverse_nil, List.nil_append, List.cons_append, List.append_nil, List.length_cons, List.length_nil, Option.toList_some, Option.toList_none, Value.int.injEq, Value.long.injEq, Value.ref.injEq, exists_eq_left, exists_eq_left', and_true, true_and, beq_self_eq_true, decide_eq_true_eq, not_false_eq_true, reduceCtorEq, argsL_0, argsL_i, argsL_r, argsL_l, locs_eq, List.replicate_succ, List.replicate_zero, rf_0_0, rf_0_1, rf_0_2, rf_0_3, rf_0_4, rf_0_5, rf_0_6, rf_0_7, rf_0_8, rf_0_10, rf_1_0, rf_1_1, rf_1_2, rf_1_3, rf_2_0, rf_2_1, rf_2_2, rf_2_3, rf_2_4, rf_2_5, rf_2_6, rf_2_9, rf_14_0, rf_14_1, rf_14_2, rf_14_3, rf_14_4, rf_14_5, rf_21_0, rf_21_1, rf_21_2, rf_21_3, rf_21_4, rf_21_5, rf_28_0, rf_28_1, rf_31_0, rf_32_0, rf_32_1, rf_32_2, rf_32_3, rf_32_4, rf_32_5, rf_33_0, rf_33_1, rf_36_0, rf_36_1, rf_39_0, rf_39_1, rf_42_0, rf_42_1, rf_45_0, rf_45_1, rf_48_0, rf_48_1, sh_0, sh_1, sh_2, sh_3, sh_4, sh_5, sh_6, sh_7, sh_8, sh_9, sh_10, sh_11, sh_12, sh_13, sh_14, sh_15, sh_16, sh_17, sh_18, sh_19, sh_20, sh_21, sh_22, sh_23, sh_24, sh_25, sh_26, sh_27, sh_28, sh_29, sh_30, sh_31, sh_32, sh_33, sh_34, sh_35, sh_36, sh_37, sh_38, sh_39, sh_40, sh_41, sh_42, sh_43, sh_44, sh_45, sh_46, sh_47, sh_48, sh_49, sh_50, sh_51, sh_52, sh_53, sh_54, sh_55, pk_mul, nI_add, nI_toInt, nI_clamp, pk_sub, nI_ltI, nI_leI, nI_eq, zge, zeq, zgt, zle, z0, one_I, bz0, bz1, bz2, bz3, bz4, bz5, Nat.add_zero, Nat.zero_add, nI_dec, nI_dec2, eqF, nn0, zltT, ltT, ltF, leT, leF, true_or, or_true, false_or, or_false, not_true_eq_false, false_implies, true_implies, and_false, false_and, ite_true, ite_false, if_true, if_false, l5, l8, nI_rem, pk_mul, nI_toL, lsl_l]
    rw [show C.length % 8 = C.length - 8 by omega, w, u2_cu]
    refine ⟨_, rfl, fun k j hj => u2l_n (fun z => hj z.2), ?_, ?_⟩
    · rw [u2l_n (by omega), l7, List.take_append_of_le_length (by omega)]
    · rw [u2l_s, List.drop_append_of_le_length (by omega)]
end AppS

