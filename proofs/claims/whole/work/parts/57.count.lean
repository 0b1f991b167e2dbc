/-! how many nodes a collection can reach -/
theorem cnt_lt {f : Nat → Int32} {x : Nat} {v : Int32} : ∀ n a, x < a → cntF (upd f x v) n a = cntF f n a
  | 0, a, h => rfl
  | n + 1, a, h => by
    unfold cntF
    rw [upd_n (by omega), cnt_lt n (a + 1) (by omega)]
theorem cnt_upd {f : Nat → Int32} {x : Nat} : ∀ n a, cntF (upd f x (nI 0)) n a ≤ cntF f n a + 1
  | 0, a => Nat.zero_le _
  | n + 1, a => by
    unfold cntF
    by_cases e : a = x
    · subst e
      rw [upd_s, if_pos rfl, cnt_lt n (a + 1) (by omega)]
      split <;> omega
    · rw [upd_n e]
      have := cnt_upd (f := f) (x := x) n (a + 1)
      omega
theorem cnt_full {f : Nat → Int32} : ∀ n a, (∀ k, a ≤ k → k < a + n → f k = nI 0) → cntF f n a = n
  | 0, a, h => rfl
  | n + 1, a, h => by
    unfold cntF
    rw [if_pos (h a (Nat.le_refl _) (by omega)), cnt_full n (a + 1) fun k h1 h2 => h k (by omega) (by omega)]
    omega
theorem cnt_list : ∀ (L : List Nat) (f : Nat → Int32) (n a : Nat), (∀ k, a ≤ k → k < a + n → f k ≠ nI 0 → k ∈ L) → n ≤ cntF f n a + L.length
  | [], f, n, a, h => by
    rw [cnt_full n a fun k h1 h2 => Decidable.byContradiction fun z => by cases h k h1 h2 z]
    exact Nat.le_add_right _ _
  | x :: L, f, n, a, h => by
    have := cnt_list L (upd f x (nI 0)) n a fun k h1 h2 h3 => by
      by_cases e : k = x
      · subst e; rw [upd_s] at h3; exact absurd rfl h3
      · rw [upd_n e] at h3
        rcases List.mem_cons.mp (h k h1 h2 h3) with z | z
        · exact absurd z e
        · exact z
    have h2 := cnt_upd (f := f) (x := x) n a
    rw [List.length_cons]
    omega
theorem unr_list {L : List Nat} {f : Nat → Int32} (h : ∀ k, 1 ≤ k → k < 20000 → f k ≠ nI 0 → k ∈ L) : 19999 ≤ unr f 1 + L.length := cnt_list L f 19999 1 fun k h1 h2 h3 => h k h1 (by omega) h3
theorem flat_len {g : Nat → List Nat} {m : Nat} : ∀ L : List Nat, (∀ r ∈ L, (g r).length ≤ m) → (L.flatMap g).length ≤ L.length * m
  | [], h => Nat.zero_le _
  | x :: L, h => by
    have h1 := h x (List.mem_cons_self ..)
    have h2 := flat_len (g := g) L fun r hr => h r (List.mem_cons_of_mem _ hr)
    rw [List.flatMap_cons, List.length_append, List.length_cons, Nat.succ_mul]
    omega
/-- rings, each one rope more than the one before at most, hold few ropes together -/
theorem cover {R : Nat → List Int32} (h0 : (R 0).length ≤ 4) : ∀ n, (∀ i, i < n → stp (R i) (R (i + 1))) → ∃ C : List Int32, C.length ≤ 4 + n ∧ (∀ i, i ≤ n → ∀ x ∈ R i, x ∈ C) ∧ ∀ x ∈ C, ∃ i, i ≤ n ∧ x ∈ R i
  | 0, _ => ⟨R 0, h0, fun i hi0 x hx => by rw [show i = 0 by omega] at hx; exact hx, fun x hx => ⟨0, Nat.le_refl _, hx⟩⟩
  | n + 1, h => by
    obtain ⟨C, c1, c2, c3⟩ := cover h0 n fun i hi0 => h i (by omega)
    rcases h n (by omega) with e | ⟨r, e⟩
    · refine ⟨C, by omega, fun i hi0 x hx => ?_, fun x hx => ?_⟩
      · rcases Nat.lt_or_ge n i with z | z
        · rw [show i = n + 1 by omega, e] at hx; exact c2 n (Nat.le_refl _) x hx
        · exact c2 i z x hx
      · obtain ⟨i, i1, i2⟩ := c3 x hx
        exact ⟨i, by omega, i2⟩
    · refine ⟨r :: C, by rw [List.length_cons]; omega, fun i hi0 x hx => ?_, fun x hx => ?_⟩
      · rcases Nat.lt_or_ge n i with z | z
        · rw [show i = n + 1 by omega, e] at hx
          rcases List.mem_cons.mp (List.mem_of_mem_take hx) with q | q
          · rw [q]; exact List.mem_cons_self ..
          · exact List.mem_cons_of_mem _ (c2 n (Nat.le_refl _) x q)
        · exact List.mem_cons_of_mem _ (c2 i z x hx)
      · rcases List.mem_cons.mp hx with q | q
        · refine ⟨n + 1, Nat.le_refl _, ?_⟩
          rw [e, q]
          exact List.mem_cons_self ..
        · obtain ⟨i, i1, i2⟩ := c3 x q
          exact ⟨i, by omega, i2⟩
section CollS
variable {hi : Nat → Nat → Int32} {hl : Nat → Nat → Int64}
theorem p_startCollection : Does m_X1_startCollection [.ref 2] (66, hi, hl, rf0) (fun v h' => v = none ∧ ∃ g, h' = (66, cu hi 9 g, hl, rf0) ∧ ∀ k, k < 20000 → g k = nI 0) := by
  refine does_of (by simp [argsL, Value.category]) ?_
  unfold b_X1_startCollection
  simp (disch := omega) only [run_sq, sqQ_l, sqQ_r, run_bk, bkQ_l, bkQ_0, bkQ_1, bkQ_2, bkQ_3, bkQ_r, rtQ_r, lpQ_l, lpQ_0, lpQ_1, lpQ_2, lpQ_r, r_push, r_iload, r_lload, r_aload, r_istore, r_lstore, r_astore, r_iinc, r_ib, r_ibz, r_lb, r_lbz, r_lsh, r_lcmp, r_i2l, r_l2i, r_dup, r_pop, r_dup2, r_br, r_nop, r_ifnull_r, r_ifnull_n, r_ifnonnull_r, r_ifnonnull_n, r_iret, r_zret, r_lret, r_aret_r, r_aret_n, r_vret, r_geti, r_getr, r_puti, r_putr, r_ald, r_ast, r_zst, r_lld, r_lst, r_qld, r_qst, r_alen, r_max, r_min, r_cpy, r_new, r_newa, r_oini, r_call, r_callV, r_callI, r_if_eq, r_icmp_eq, r_if_ne, r_icmp_ne, r_if_lt, r_icmp_lt, r_if_ge, r_icmp_ge, r_if_gt, r_icmp_gt, r_if_le, r_icmp_le, cat_i, cat_l, cat_r, cat_n, csum_0, csum_s, okst_0, okst_s, gD0, gDs, rv_s, rv_n, rcv_r, List.set_cons_zero, List.set_cons_succ, List.take_succ_cons, List.take_zero, List.take_nil, List.drop_succ_cons, List.drop_zero, List.drop_nil, List.reverse_cons, List.reverse_nil, List.nil_append, List.cons_append, List.append_nil, List.length_cons, List.length_nil, Option.toList_some, Option.toList_none, Value.int.injEq, Value.long.injEq, Value.ref.injEq, exists_eq_left, exists_eq_left', and_true, true_and, beq_self_eq_true, decide_eq_true_eq, not_false_eq_true, reduceCtorEq, argsL_0, argsL_i, argsL_r, argsL_l, locs_eq, List.replicate_succ, List.replicate_zero, rf_0_0, rf_0_1, rf_0_2, rf_0_3, rf_0_4, rf_0_5, rf_0_6, rf_0_7, rf_0_8, rf_0_10, rf_1_0, rf_1_1, rf_1_2, rf_1_3, rf_2_0, rf_2_1, rf_2_2, rf_2_3, rf_2_4, rf_2_5, rf_2_6, rf_2_9, rf_14_0, rf_14_1, rf_14_2, rf_14_3, rf_14_4, rf_14_5, rf_21_0, rf_21_1, rf_21_2, rf_21_3, rf_21_4, rf_21_5, rf_28_0, rf_28_1, rf_31_0, rf_32_0, rf_32_1, rf_32_2, rf_32_3, rf_32_4, rf_32_5, rf_33_0, rf_33_1, rf_36_0, rf_36_1, rf_39_0, rf_39_1, rf_42_0, rf_42_1, rf_45_0, rf_45_1, rf_48_0, rf_48_1, rf_55_0, rf_55_1, rf_55_2, rf_55_4, rf_55_5, rf_55_7, rf_55_8, rf_55_9, rf_55_10, rf_55_11, sh_0, sh_1, sh_2, sh_3, sh_4, sh_5, sh_6, sh_7, sh_8, sh_9, sh_10, sh_11, sh_12, sh_13, sh_14, sh_15, sh_16, sh_17, sh_18, sh_19, sh_20, sh_21, sh_22, sh_23, sh_24, sh_25, sh_26, sh_27, sh_28, sh_29, sh_30, sh_31, sh_32, sh_33, sh_34, sh_35, sh_36, sh_37, sh_38, sh_39, sh_40, sh_41, sh_42, sh_43, sh_44, sh_45, sh_46, sh_47, sh_48, sh_49, sh_50, sh_51, sh_52, sh_53, sh_54, sh_55, sh_56, sh_57, sh_58, sh_59, sh_60, sh_61, sh_62, sh_63, sh_64, sh_65, pk_mul, nI_add, nI_toInt, nI_clamp, pk_sub, nI_ltI, nI_leI, nI_eq, zge, zeq, zgt, zle, z0, one_I, bz0, bz1, bz2, bz3, bz4, bz5, Nat.add_zero, Nat.zero_add, nI_dec, nI_dec2, eqF, nn0, zltT, ltT, ltF, leT, leF, true_or, or_true, false_or, or_false, not_true_eq_false, false_implies, true_implies, and_false, false_and, ite_true, ite_false, if_true, if_false]
  refine run_loop (fun w st => ∃ i g, i ≤ 20000 ∧ w = 20000 - i ∧ st = ([.ref 2, .int (nI i)], [], (66, cu hi 9 g, hl, rf0)) ∧ ∀ k, k < i → g k = nI 0) ?_ 20000 _ ⟨0, hi 9, by decide, rfl, by rw [cu_id], fun k z => by omega⟩
  rintro w st ⟨i, g, hi1, rfl, rfl, hg⟩
  simp (disch := omega) only [run_sq, sqQ_l, sqQ_r, run_bk, bkQ_l, bkQ_0, bkQ_1, bkQ_2, bkQ_3, bkQ_r, rtQ_r, lpQ_l, lpQ_0, lpQ_1, lpQ_2, lpQ_r, r_push, r_iload, r_lload, r_aload, r_istore, r_lstore, r_astore, r_iinc, r_ib, r_ibz, r_lb, r_lbz, r_lsh, r_lcmp, r_i2l, r_l2i, r_dup, r_pop, r_dup2, r_br, r_nop, r_ifnull_r, r_ifnull_n, r_ifnonnull_r, r_ifnonnull_n, r_iret, r_zret, r_lret, r_aret_r, r_aret_n, r_vret, r_geti, r_getr, r_puti, r_putr, r_ald, r_ast, r_zst, r_lld, r_lst, r_qld, r_qst, r_alen, r_max, r_min, r_cpy, r_new, r_newa, r_oini, r_call, r_callV, r_callI, r_if_eq, r_icmp_eq, r_if_ne, r_icmp_ne, r_if_lt, r_icmp_lt, r_if_ge, r_icmp_ge, r_if_gt, r_icmp_gt, r_if_le, r_icmp_le, cat_i, cat_l, cat_r, cat_n, csum_0, csum_s, okst_0, okst_s, gD0, gDs, rv_s, rv_n, rcv_r, List.set_cons_zero, List.set_cons_succ, List.take_succ_cons, List.take_zero, List.take_nil, List.drop_succ_cons, List.drop_zero, List.drop_nil, List.reverse_cons, List.reverse_nil, List.nil_append, List.cons_append, List.append_nil, List.length_cons, List.length_nil, Option.toList_some, Option.toList_none, Value.int.injEq, Value.long.injEq, Value.ref.injEq, exists_eq_left, exists_eq_left', and_true, true_and, beq_self_eq_true, decide_eq_true_eq, not_false_eq_true, reduceCtorEq, argsL_0, argsL_i, argsL_r, argsL_l, locs_eq, List.replicate_succ, List.replicate_zero, rf_0_0, rf_0_1, rf_0_2, rf_0_3, rf_0_4, rf_0_5, rf_0_6, rf_0_7, rf_0_8, rf_0_10, rf_1_0, rf_1_1, rf_1_2, rf_1_3, rf_2_0, rf_2_1, rf_2_2, rf_2_3, rf_2_4, rf_2_5, rf_2_6, rf_2_9, rf_14_0, rf_14_1, rf_14_2, rf_14_3, rf_14_4, rf_14_5, rf_21_0, rf_21_1, rf_21_2, rf_21_3, rf_21_4, rf_21_5, rf_28_0, rf_28_1, rf_31_0, rf_32_0, rf_32_1, rf_32_2, rf_32_3, rf_32_4, rf_32_5, rf_33_0, rf_33_1, rf_36_0, rf_36_1, rf_39_0, rf_39_1, rf_42_0, rf_42_1, rf_45_0, rf_45_1, rf_48_0, rf_48_1, rf_55_0, rf_55_1, rf_55_2, rf_55_4, rf_55_5, rf_55_7, rf_55_8, rf_55_9, rf_55_10, rf_55_11, sh_0, sh_1, sh_2, sh_3, sh_4, sh_5, sh_6, sh_7, sh_8, sh_9, sh_10, sh_11, sh_12, sh_13, sh_14, sh_15, sh_16, sh_17, sh_18, sh_19, sh_20, sh_21, sh_22, sh_23, sh_24, sh_25, sh_26, sh_27, sh_28, sh_29, sh_30, sh_31, sh_32, sh_33, sh_34, sh_35, sh_36, sh_37, sh_38, sh_39, sh_40, sh_41, sh_42, sh_43, sh_44, sh_45, sh_46, sh_47, sh_48, sh_49, sh_50, sh_51, sh_52, sh_53, sh_54, sh_55, sh_56, sh_57, sh_58, sh_59, sh_60, sh_61, sh_62, sh_63, sh_64, sh_65, pk_mul, nI_add, nI_toInt, nI_clamp, pk_sub, nI_ltI, nI_leI, nI_eq, zge, zeq, zgt, zle, z0, one_I, bz0, bz1, bz2, bz3, bz4, bz5, Nat.add_zero, Nat.zero_add, nI_dec, nI_dec2, eqF, nn0, zltT, ltT, ltF, leT, leF, true_or, or_true, false_or, or_false, not_true_eq_false, false_implies, true_implies, and_false, false_and, ite_true, ite_false, if_true, if_false]
  refine ⟨fun hh => ?_, fun hh => ?_⟩
  · exact ⟨g, rfl, fun k hk => hg k (by omega)⟩
  · rw [u2_cu, cu_cu, cu_s]
    refine ⟨20000 - (i + 1), by omega, i + 1, _, by omega, rfl, rfl, fun k hk => ?_⟩
    by_cases e : k = i
    · subst e; rw [upd_s]
    · rw [upd_n e]; exact hg k (by omega)
theorem p_endCollection : Does m_X1_endCollection [.ref 2] (66, hi, hl, rf0) (fun v h' => v = none ∧ h' = (66, cu hi 2 (upd (upd (hi 2) 8 (nI (unr (hi 9) 1))) 7 (nI 1)), hl, rf0)) := by
  have hle := unr_le (f := hi 9) (a := 1)
  refine does_of (by simp [argsL, Value.category]) ?_
  unfold b_X1_endCollection
  simp (disch := omega) only [run_sq, sqQ_l, sqQ_r, run_bk, bkQ_l, bkQ_0, bkQ_1, bkQ_2, bkQ_3, bkQ_r, rtQ_r, lpQ_l, lpQ_0, lpQ_1, lpQ_2, lpQ_r, r_push, r_iload, r_lload, r_aload, r_istore, r_lstore, r_astore, r_iinc, r_ib, r_ibz, r_lb, r_lbz, r_lsh, r_lcmp, r_i2l, r_l2i, r_dup, r_pop, r_dup2, r_br, r_nop, r_ifnull_r, r_ifnull_n, r_ifnonnull_r, r_ifnonnull_n, r_iret, r_zret, r_lret, r_aret_r, r_aret_n, r_vret, r_geti, r_getr, r_puti, r_putr, r_ald, r_ast, r_zst, r_lld, r_lst, r_qld, r_qst, r_alen, r_max, r_min, r_cpy, r_new, r_newa, r_oini, r_call, r_callV, r_callI, r_if_eq, r_icmp_eq, r_if_ne, r_icmp_ne, r_if_lt, r_icmp_lt, r_if_ge, r_icmp_ge, r_if_gt, r_icmp_gt, r_if_le, r_icmp_le, cat_i, cat_l, cat_r, cat_n, csum_0, csum_s, okst_0, okst_s, gD0, gDs, rv_s, rv_n, rcv_r, List.set_cons_zero, List.set_cons_succ, List.take_succ_cons, List.take_zero, List.take_nil, List.drop_succ_cons, List.drop_zero, List.drop_nil, List.reverse_cons, List.reverse_nil, List.nil_append, List.cons_append, List.append_nil, List.length_cons, List.length_nil, Option.toList_some, Option.toList_none, Value.int.injEq, Value.long.injEq, Value.ref.injEq, exists_eq_left, exists_eq_left', and_true, true_and, beq_self_eq_true, decide_eq_true_eq, not_false_eq_true, reduceCtorEq, argsL_0, argsL_i, argsL_r, argsL_l, locs_eq, List.replicate_succ, List.replicate_zero, rf_0_0, rf_0_1, rf_0_2, rf_0_3, rf_0_4, rf_0_5, rf_0_6, rf_0_7, rf_0_8, rf_0_10, rf_1_0, rf_1_1, rf_1_2, rf_1_3, rf_2_0, rf_2_1, rf_2_2, rf_2_3, rf_2_4, rf_2_5, rf_2_6, rf_2_9, rf_14_0, rf_14_1, rf_14_2, rf_14_3, rf_14_4, rf_14_5, rf_21_0, rf_21_1, rf_21_2, rf_21_3, rf_21_4, rf_21_5, rf_28_0, rf_28_1, rf_31_0, rf_32_0, rf_32_1, rf_32_2, rf_32_3, rf_32_4, rf_32_5, rf_33_0, rf_33_1, rf_36_0, rf_36_1, rf_39_0, rf_39_1, rf_42_0, rf_42_1, rf_45_0, rf_45_1, rf_48_0, rf_48_1, rf_55_0, rf_55_1, rf_55_2, rf_55_4, rf_55_5, rf_55_7, rf_55_8, rf_55_9, rf_55_10, rf_55_11, sh_0, sh_1, sh_2, sh_3, sh_4, sh_5, sh_6, sh_7, sh_8, sh_9, sh_10, sh_11, sh_12, sh_13, sh_14, sh_15, sh_16, sh_17, sh_18, sh_19, sh_20, sh_21, sh_22, sh_23, sh_24, sh_25, sh_26, sh_27, sh_28, sh_29, sh_30, sh_31, sh_32, sh_33, sh_34, sh_35, sh_36, sh_37, sh_38, sh_39, sh_40, sh_41, sh_42, sh_43, sh_44, sh_45, sh_46, sh_47, sh_48, sh_49, sh_50, sh_51, sh_52, sh_53, sh_54, sh_55, sh_56, sh_57, sh_58, sh_59, sh_60, sh_61, sh_62, sh_63, sh_64, sh_65, pk_mul, nI_add, nI_toInt, nI_clamp, pk_sub, nI_ltI, nI_leI, nI_eq, zge, zeq, zgt, zle, z0, one_I, bz0, bz1, bz2, bz3, bz4, bz5, Nat.add_zero, Nat.zero_add, nI_dec, nI_dec2, eqF, nn0, zltT, ltT, ltF, leT, leF, true_or, or_true, false_or, or_false, not_true_eq_false, false_implies, true_implies, and_false, false_and, ite_true, ite_false, if_true, if_false]
  rw [u2_cu]
  refine run_loop (fun w st => ∃ i, 1 ≤ i ∧ i ≤ 20000 ∧ w = 20000 - i ∧ unr (hi 9) i ≤ unr (hi 9) 1 ∧ st = ([.ref 2, .int (nI i)], [], (66, cu hi 2 (upd (hi 2) 8 (nI (unr (hi 9) 1 - unr (hi 9) i))), hl, rf0))) ?_ 19999 _ ⟨1, Nat.le_refl _, by decide, rfl, Nat.le_refl _, by rw [Nat.sub_self]⟩
  rintro w st ⟨i, hi1, hi2, rfl, hu, rfl⟩
  by_cases h2 : 20000 ≤ i
  · have e : unr (hi 9) i = 0 := unr_e h2
    simp (disch := omega) only [run_sq, sqQ_l, sqQ_r, run_bk, bkQ_l, bkQ_0, bkQ_1, bkQ_2, bkQ_3, bkQ_r, rtQ_r, lpQ_l, lpQ_0, lpQ_1, lpQ_2, lpQ_r, r_push, r_iload, r_lload, r_aload, r_istore, r_lstore, r_astore, r_iinc, r_ib, r_ibz, r_lb, r_lbz, r_lsh, r_lcmp, r_i2l, r_l2i, r_dup, r_pop, r_dup2, r_br, r_nop, r_ifnull_r, r_ifnull_n, r_ifnonnull_r, r_ifnonnull_n, r_iret, r_zret, r_lret, r_aret_r, r_aret_n, r_vret, r_geti, r_getr, r_puti, r_putr, r_ald, r_ast, r_zst, r_lld, r_lst, r_qld, r_qst, r_alen, r_max, r_min, r_cpy, r_new, r_newa, r_oini, r_call, r_callV, r_callI, r_if_eq, r_icmp_eq, r_if_ne, r_icmp_ne, r_if_lt, r_icmp_lt, r_if_ge, r_icmp_ge, r_if_gt, r_icmp_gt, r_if_le, r_icmp_le, cat_i, cat_l, cat_r, cat_n, csum_0, csum_s, okst_0, okst_s, gD0, gDs, rv_s, rv_n, rcv_r, List.set_cons_zero, List.set_cons_succ, List.take_succ_cons, List.take_zero, List.take_nil, List.drop_succ_cons, List.drop_zero, List.drop_nil, List.reverse_cons, List.reverse_nil, List.nil_append, List.cons_append, List.append_nil, List.length_cons, List.length_nil, Option.toList_some, Option.toList_none, Value.int.injEq, Value.long.injEq, Value.ref.injEq, exists_eq_left, exists_eq_left', and_true, true_and, beq_self_eq_true, decide_eq_true_eq, not_false_eq_true, reduceCtorEq, argsL_0, argsL_i, argsL_r, argsL_l, locs_eq, List.replicate_succ, List.replicate_zero, rf_0_0, rf_0_1, rf_0_2, rf_0_3, rf_0_4, rf_0_5, rf_0_6, rf_0_7, rf_0_8, rf_0_10, rf_1_0, rf_1_1, rf_1_2, rf_1_3, rf_2_0, rf_2_1, rf_2_2, rf_2_3, rf_2_4, rf_2_5, rf_2_6, rf_2_9, rf_14_0, rf_14_1, rf_14_2, rf_14_3, rf_14_4, rf_14_5, rf_21_0, rf_21_1, rf_21_2, rf_21_3, rf_21_4, rf_21_5, rf_28_0, rf_28_1, rf_31_0, rf_32_0, rf_32_1, rf_32_2, rf_32_3, rf_32_4, rf_32_5, rf_33_0, rf_33_1, rf_36_0, rf_36_1, rf_39_0, rf_39_1, rf_42_0, rf_42_1, rf_45_0, rf_45_1, rf_48_0, rf_48_1, rf_55_0, rf_55_1, rf_55_2, rf_55_4, rf_55_5, rf_55_7, rf_55_8, rf_55_9, rf_55_10, rf_55_11, sh_0, sh_1, sh_2, sh_3, sh_4, sh_5, sh_6, sh_7, sh_8, sh_9, sh_10, sh_11, sh_12, sh_13, sh_14, sh_15, sh_16, sh_17, sh_18, sh_19, sh_20, sh_21, sh_22, sh_23, sh_24, sh_25, sh_26, sh_27, sh_28, sh_29, sh_30, sh_31, sh_32, sh_33, sh_34, sh_35, sh_36, sh_37, sh_38, sh_39, sh_40, sh_41, sh_42, sh_43, sh_44, sh_45, sh_46, sh_47, sh_48, sh_49, sh_50, sh_51, sh_52, sh_53, sh_54, sh_55, sh_56, sh_57, sh_58, sh_59, sh_60, sh_61, sh_62, sh_63, sh_64, sh_65, pk_mul, nI_add, nI_toInt, nI_clamp, pk_sub, nI_ltI, nI_leI, nI_eq, zge, zeq, zgt, zle, z0, one_I, bz0, bz1, bz2, bz3, bz4, bz5, Nat.add_zero, Nat.zero_add, nI_dec, nI_dec2, eqF, nn0, zltT, ltT, ltF, leT, leF, true_or, or_true, false_or, or_false, not_true_eq_false, false_implies, true_implies, and_false, false_and, ite_true, ite_false, if_true, if_false, u2_cu, cu_cu, cu_s, e, Nat.sub_zero]
    trivial
  · have e := unr_s (f := hi 9) (a := i) (by omega)
    by_cases hz : hi 9 i = nI 0
    · have hz' : hi 9 i = 0 := hz
      rw [if_pos hz] at e
      simp (disch := omega) only [run_sq, sqQ_l, sqQ_r, run_bk, bkQ_l, bkQ_0, bkQ_1, bkQ_2, bkQ_3, bkQ_r, rtQ_r, lpQ_l, lpQ_0, lpQ_1, lpQ_2, lpQ_r, r_push, r_iload, r_lload, r_aload, r_istore, r_lstore, r_astore, r_iinc, r_ib, r_ibz, r_lb, r_lbz, r_lsh, r_lcmp, r_i2l, r_l2i, r_dup, r_pop, r_dup2, r_br, r_nop, r_ifnull_r, r_ifnull_n, r_ifnonnull_r, r_ifnonnull_n, r_iret, r_zret, r_lret, r_aret_r, r_aret_n, r_vret, r_geti, r_getr, r_puti, r_putr, r_ald, r_ast, r_zst, r_lld, r_lst, r_qld, r_qst, r_alen, r_max, r_min, r_cpy, r_new, r_newa, r_oini, r_call, r_callV, r_callI, r_if_eq, r_icmp_eq, r_if_ne, r_icmp_ne, r_if_lt, r_icmp_lt, r_if_ge, r_icmp_ge, r_if_gt, r_icmp_gt, r_if_le, r_icmp_le, cat_i, cat_l, cat_r, cat_n, csum_0, csum_s, okst_0, okst_s, gD0, gDs, rv_s, rv_n, rcv_r, List.set_cons_zero, List.set_cons_succ, List.take_succ_cons, List.take_zero, List.take_nil, List.drop_succ_cons, List.drop_zero, List.drop_nil, List.reverse_cons, List.reverse_nil, List.nil_append, List.cons_append, List.append_nil, List.length_cons, List.length_nil, Option.toList_some, Option.toList_none, Value.int.injEq, Value.long.injEq, Value.ref.injEq, exists_eq_left, exists_eq_left', and_true, true_and, beq_self_eq_true, decide_eq_true_eq, not_false_eq_true, reduceCtorEq, argsL_0, argsL_i, argsL_r, argsL_l, locs_eq, List.replicate_succ, List.replicate_zero, rf_0_0, rf_0_1, rf_0_2, rf_0_3, rf_0_4, rf_0_5, rf_0_6, rf_0_7, rf_0_8, rf_0_10, rf_1_0, rf_1_1, rf_1_2, rf_1_3, rf_2_0, rf_2_1, rf_2_2, rf_2_3, rf_2_4, rf_2_5, rf_2_6, rf_2_9, rf_14_0, rf_14_1, rf_14_2, rf_14_3, rf_14_4, rf_14_5, rf_21_0, rf_21_1, rf_21_2, rf_21_3, rf_21_4, rf_21_5, rf_28_0, rf_28_1, rf_31_0, rf_32_0, rf_32_1, rf_32_2, rf_32_3, rf_32_4, rf_32_5, rf_33_0, rf_33_1, rf_36_0, rf_36_1, rf_39_0, rf_39_1, rf_42_0, rf_42_1, rf_45_0, rf_45_1, rf_48_0, rf_48_1, rf_55_0, rf_55_1, rf_55_2, rf_55_4, rf_55_5, rf_55_7, rf_55_8, rf_55_9, rf_55_10, rf_55_11, sh_0, sh_1, sh_2, sh_3, sh_4, sh_5, sh_6, sh_7, sh_8, sh_9, sh_10, sh_11, sh_12, sh_13, sh_14, sh_15, sh_16, sh_17, sh_18, sh_19, sh_20, sh_21, sh_22, sh_23, sh_24, sh_25, sh_26, sh_27, sh_28, sh_29, sh_30, sh_31, sh_32, sh_33, sh_34, sh_35, sh_36, sh_37, sh_38, sh_39, sh_40, sh_41, sh_42, sh_43, sh_44, sh_45, sh_46, sh_47, sh_48, sh_49, sh_50, sh_51, sh_52, sh_53, sh_54, sh_55, sh_56, sh_57, sh_58, sh_59, sh_60, sh_61, sh_62, sh_63, sh_64, sh_65, pk_mul, nI_add, nI_toInt, nI_clamp, pk_sub, nI_ltI, nI_leI, nI_eq, zge, zeq, zgt, zle, z0, one_I, bz0, bz1, bz2, bz3, bz4, bz5, Nat.add_zero, Nat.zero_add, nI_dec, nI_dec2, eqF, nn0, zltT, ltT, ltF, leT, leF, true_or, or_true, false_or, or_false, not_true_eq_false, false_implies, true_implies, and_false, false_and, ite_true, ite_false, if_true, if_false, u2_cu, cu_cu, cu_s, cu_n, hz', upd_s]
      refine ⟨20000 - (i + 1), by omega, i + 1, by omega, by omega, rfl, by omega, ?_⟩
      have e1 : upd (upd (hi 2) 8 (nI (unr (hi 9) 1 - unr (hi 9) i))) 8 (nI (unr (hi 9) 1 - unr (hi 9) i + 1)) = upd (hi 2) 8 (nI (unr (hi 9) 1 - unr (hi 9) (i + 1))) := by
        funext j
        unfold upd
        split
        · congr 1; omega
        · rfl
      rw [e1]
    · have hz' : ¬ hi 9 i = 0 := hz
      rw [if_neg hz, Nat.zero_add] at e
      simp (disch := omega) only [run_sq, sqQ_l, sqQ_r, run_bk, bkQ_l, bkQ_0, bkQ_1, bkQ_2, bkQ_3, bkQ_r, rtQ_r, lpQ_l, lpQ_0, lpQ_1, lpQ_2, lpQ_r, r_push, r_iload, r_lload, r_aload, r_istore, r_lstore, r_astore, r_iinc, r_ib, r_ibz, r_lb, r_lbz, r_lsh, r_lcmp, r_i2l, r_l2i, r_dup, r_pop, r_dup2, r_br, r_nop, r_ifnull_r, r_ifnull_n, r_ifnonnull_r, r_ifnonnull_n, r_iret, r_zret, r_lret, r_aret_r, r_aret_n, r_vret, r_geti, r_getr, r_puti, r_putr, r_ald, r_ast, r_zst, r_lld, r_lst, r_qld, r_qst, r_alen, r_max, r_min, r_cpy, r_new, r_newa, r_oini, r_call, r_callV, r_callI, r_if_eq, r_icmp_eq, r_if_ne, r_icmp_ne, r_if_lt, r_icmp_lt, r_if_ge, r_icmp_ge, r_if_gt, r_icmp_gt, r_if_le, r_icmp_le, cat_i, cat_l, cat_r, cat_n, csum_0, csum_s, okst_0, okst_s, gD0, gDs, rv_s, rv_n, rcv_r, List.set_cons_zero, List.set_cons_succ, List.take_succ_cons, List.take_zero, List.take_nil, List.drop_succ_cons, List.drop_zero, List.drop_nil, List.reverse_cons, List.reverse_nil, List.nil_append, List.cons_append, List.append_nil, List.length_cons, List.length_nil, Option.toList_some, Option.toList_none, Value.int.injEq, Value.long.injEq, Value.ref.injEq, exists_eq_left, exists_eq_left', and_true, true_and, beq_self_eq_true, decide_eq_true_eq, not_false_eq_true, reduceCtorEq, argsL_0, argsL_i, argsL_r, argsL_l, locs_eq, List.replicate_succ, List.replicate_zero, rf_0_0, rf_0_1, rf_0_2, rf_0_3, rf_0_4, rf_0_5, rf_0_6, rf_0_7, rf_0_8, rf_0_10, rf_1_0, rf_1_1, rf_1_2, rf_1_3, rf_2_0, rf_2_1, rf_2_2, rf_2_3, rf_2_4, rf_2_5, rf_2_6, rf_2_9, rf_14_0, rf_14_1, rf_14_2, rf_14_3, rf_14_4, rf_14_5, rf_21_0, rf_21_1, rf_21_2, rf_21_3, rf_21_4, rf_21_5, rf_28_0, rf_28_1, rf_31_0, rf_32_0, rf_32_1, rf_32_2, rf_32_3, rf_32_4, rf_32_5, rf_33_0, rf_33_1, rf_36_0, rf_36_1, rf_39_0, rf_39_1, rf_42_0, rf_42_1, rf_45_0, rf_45_1, rf_48_0, rf_48_1, rf_55_0, rf_55_1, rf_55_2, rf_55_4, rf_55_5, rf_55_7, rf_55_8, rf_55_9, rf_55_10, rf_55_11, sh_0, sh_1, sh_2, sh_3, sh_4, sh_5, sh_6, sh_7, sh_8, sh_9, sh_10, sh_11, sh_12, sh_13, sh_14, sh_15, sh_16, sh_17, sh_18, sh_19, sh_20, sh_21, sh_22, sh_23, sh_24, sh_25, sh_26, sh_27, sh_28, sh_29, sh_30, sh_31, sh_32, sh_33, sh_34, sh_35, sh_36, sh_37, sh_38, sh_39, sh_40, sh_41, sh_42, sh_43, sh_44, sh_45, sh_46, sh_47, sh_48, sh_49, sh_50, sh_51, sh_52, sh_53, sh_54, sh_55, sh_56, sh_57, sh_58, sh_59, sh_60, sh_61, sh_62, sh_63, sh_64, sh_65, pk_mul, nI_add, nI_toInt, nI_clamp, pk_sub, nI_ltI, nI_leI, nI_eq, zge, zeq, zgt, zle, z0, one_I, bz0, bz1, bz2, bz3, bz4, bz5, Nat.add_zero, Nat.zero_add, nI_dec, nI_dec2, eqF, nn0, zltT, ltT, ltF, leT, leF, true_or, or_true, false_or, or_false, not_true_eq_false, false_implies, true_implies, and_false, false_and, ite_true, ite_false, if_true, if_false, u2_cu, cu_cu, cu_s, cu_n, hz', upd_s]
      refine ⟨20000 - (i + 1), by omega, i + 1, by omega, by omega, rfl, by omega, ?_⟩
      rw [e]
end CollS
