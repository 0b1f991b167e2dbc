theorem lsr_n {w k : Nat} (hw : w < 2 ^ 63) (hk : k < 64) : ((nL w).toUInt64 >>> ((nI k).toInt64.toUInt64 &&& Int64.toUInt64 63)).toInt64 = nL (w / 2 ^ k) := by
  rw [nI_toL (by omega)]
  have e1 : (nL k).toUInt64 &&& Int64.toUInt64 63 = UInt64.ofNat k := by
    apply UInt64.toNat_inj.mp
    rw [UInt64.toNat_and]
    show (k % 2 ^ 64) &&& (2 ^ 6 - 1) = k % 2 ^ 64
    rw [Nat.and_two_pow_sub_one_eq_mod]
    omega
  rw [e1]
  show _ = (UInt64.ofNat (w / 2 ^ k)).toInt64
  congr 1
  apply UInt64.toNat_inj.mp
  rw [UInt64.toNat_shiftRight]
  show (w % 2 ^ 64) >>> ((k % 2 ^ 64) % 64) = (w / 2 ^ k) % 2 ^ 64
  have h2 : w / 2 ^ k ≤ w := Nat.div_le_self _ _
  rw [Nat.mod_eq_of_lt (show w < 2 ^ 64 by omega), Nat.mod_eq_of_lt (show k < 2 ^ 64 by omega), Nat.mod_eq_of_lt hk, Nat.shiftRight_eq_div_pow, Nat.mod_eq_of_lt (show w / 2 ^ k < 2 ^ 64 by omega)]
theorem and_n {w : Nat} (hw : w < 2 ^ 63) : nL w &&& 255 = nL (w % 256) := by
  apply Int64.toBitVec_inj.mp
  apply BitVec.eq_of_toNat_eq
  rw [Int64.toBitVec_and, BitVec.toNat_and]
  show (w % 2 ^ 64) &&& (2 ^ 8 - 1) = (w % 256) % 2 ^ 64
  rw [Nat.and_two_pow_sub_one_eq_mod]
  omega
theorem smod_n : ∀ k, k < 57 → (BitVec.ofNat 64 k).smod 64 = BitVec.ofNat 64 k := by decide
theorem lsl_n {c k : Nat} (hc : c < 128) (hk : k ≤ 56) : nL c <<< ((nI k).toInt64 &&& 63) = nL (c * 2 ^ k) := by
  rw [nI_toL (by omega)]
  have e1 : nL k &&& 63 = nL k := by
    apply Int64.toBitVec_inj.mp
    apply BitVec.eq_of_toNat_eq
    rw [Int64.toBitVec_and, BitVec.toNat_and]
    show (k % 2 ^ 64) &&& (2 ^ 6 - 1) = k % 2 ^ 64
    rw [Nat.and_two_pow_sub_one_eq_mod]
    omega
  rw [e1]
  apply Int64.toBitVec_inj.mp
  apply BitVec.eq_of_toNat_eq
  rw [Int64.toBitVec_shiftLeft, show (nL k).toBitVec.smod 64 = BitVec.ofNat 64 k from smod_n k (by omega), BitVec.shiftLeft_eq', BitVec.toNat_shiftLeft]
  show (c % 2 ^ 64) <<< (k % 2 ^ 64) % 2 ^ 64 = (c * 2 ^ k) % 2 ^ 64
  rw [Nat.mod_eq_of_lt (show c < 2 ^ 64 by omega), Nat.mod_eq_of_lt (show k < 2 ^ 64 by omega), Nat.shiftLeft_eq]
theorem wd_app {a b : List Nat} : wd (a ++ b) = wd a + 256 ^ a.length * wd b := by
  induction a with
  | nil => simp [wd]
  | cons c a ih => simp only [List.cons_append, wd, List.length_cons, ih, Nat.pow_succ, Nat.mul_add, Nat.add_assoc]; congr 2; rw [Nat.mul_comm (256 ^ a.length) 256, Nat.mul_assoc]
theorem wd_lt {a : List Nat} (h : ∀ c ∈ a, c < 128) : wd a < 256 ^ a.length := by
  induction a with
  | nil => exact Nat.one_pos
  | cons c a ih =>
    have h1 := h c (List.mem_cons_self ..)
    have h2 := ih fun x hx => h x (List.mem_cons_of_mem _ hx)
    simp only [wd, List.length_cons, Nat.pow_succ]
    omega
theorem wd_8 {a : List Nat} (h : ∀ c ∈ a, c < 128) (h8 : a.length ≤ 8) : wd a < 2 ^ 63 := by
  rcases Nat.lt_or_ge a.length 8 with z | z
  · have := wd_lt h
    have h2 : 256 ^ a.length ≤ 256 ^ 7 := Nat.pow_le_pow_right (by decide) (by omega)
    omega
  · obtain ⟨x, b, e⟩ : ∃ b x, a = b ++ [x] := ⟨a.dropLast, a.getLast (by intro q; rw [q] at z; simp at z), (List.dropLast_concat_getLast _).symm⟩
    subst e
    rw [List.length_append, List.length_singleton] at z h8
    have h1 := wd_lt (a := x) fun c hc => h c (List.mem_append_left _ hc)
    have h2 := h b (List.mem_append_right _ (List.mem_singleton_self _))
    rw [wd_app, show x.length = 7 by omega]
    rw [show x.length = 7 by omega] at h1
    simp only [wd]
    omega
theorem wd_at {a : List Nat} (h : ∀ c ∈ a, c < 128) : ∀ {i : Nat}, i < a.length → wd a / 2 ^ (8 * i) % 256 = a.getD i 0 := by
  induction a with
  | nil => intro i hi; cases hi
  | cons c a ih =>
    intro i hi
    have h1 := h c (List.mem_cons_self ..)
    cases i with
    | zero => simp only [wd]; show (c + 256 * wd a) / 1 % 256 = c; omega
    | succ i =>
      have := ih (fun x hx => h x (List.mem_cons_of_mem _ hx)) (i := i) (by simpa using hi)
      rw [show 8 * (i + 1) = 8 + 8 * i by omega, Nat.pow_add, ← Nat.div_div_eq_div_mul]
      simp only [wd]
      rw [show (c + 256 * wd a) / 2 ^ 8 = wd a by omega, this]
      rfl
theorem nI_rem {a m : Nat} (ha : a < 2 ^ 31) (hm : m < 2 ^ 31) : nI a - nI a / nI m * nI m = nI (a % m) := by
  unfold nI
  rw [← Int32.ofNat_div ha hm, ← Int32.ofNat_mul, ← Int32.ofNat_sub _ _ (Nat.div_mul_le_self a m)]
  congr 1
  have := Nat.div_add_mod a m
  rw [Nat.mul_comm] at this
  omega
section BitS
variable {A : Nat → Prop} {hi hi' : Nat → Nat → Int32} {hl hl' : Nat → Nat → Int64} {n : Nat}
theorem c_codeOf {Nx : Nat} {C : List Nat} {i : Nat} (h1 : 1 ≤ n) (h2 : n < 20000) (hc : ∀ c ∈ C, c < 128) (h16 : C.length ≤ 16) (l7 : hl 7 n = nL (wd (C.take 8))) (l8 : hl 8 n = nL (wd (C.drop 8))) (hi0 : i < C.length) : m_X1_codeOf [.ref 2, .int (nI n), .int (nI i)] (Nx + 55, hi, hl, rf0) = some (some (.int (nI (C.getD i 0))), (Nx + 55, hi, hl, rf0)) := by
  have b7 : wd (C.take 8) < 2 ^ 63 := wd_8 (fun c hx => hc c (List.mem_of_mem_take hx)) (by rw [List.length_take]; omega)
  have b8 : wd (C.drop 8) < 2 ^ 63 := wd_8 (fun c hx => hc c (List.mem_of_mem_drop hx)) (by rw [List.length_drop]; omega)
  have d7 : wd (C.take 8) / 2 ^ (8 * (i % 8)) ≤ wd (C.take 8) := Nat.div_le_self _ _
  have d8 : wd (C.drop 8) / 2 ^ (8 * (i % 8)) ≤ wd (C.drop 8) := Nat.div_le_self _ _
  refine does_eq (does_of (by simp [argsL, Value.category]) ?_)
  unfold b_X1_codeOf
  by_cases h8 : i < 8
  · have a7 := wd_at (a := C.take 8) (fun c hx => hc c (List.mem_of_mem_take hx)) (i := i) (by rw [List.length_take]; omega)
    rw [List.getD_eq_getElem?_getD, List.getElem?_take_of_lt h8, ← List.getD_eq_getElem?_getD] at a7
    simp (disch := omega) only [run_sq, sqQ_l, sqQ_r, run_bk, bkQ_l, bkQ_0, bkQ_1, bkQ_2, bkQ_3, bkQ_r, rtQ_r, lpQ_l, lpQ_0, lpQ_1, lpQ_2, lpQ_r, r_push, r_iload, r_lload, r_aload, r_istore, r_lstore, r_astore, r_iinc, r_ib, r_ibz, r_lb, r_lbz, r_lsh, r_lcmp, r_i2l, r_l2i, r_dup, r_pop, r_dup2, r_br, r_nop, r_ifnull_r, r_ifnull_n, r_ifnonnull_r, r_ifnonnull_n, r_iret, r_zret, r_lret, r_aret_r, r_aret_n, r_vret, r_geti, r_getr, r_puti, r_putr, r_ald, r_ast, r_zst, r_lld, r_lst, r_qld, r_qst, r_alen, r_max, r_min, r_cpy, r_new, r_newa, r_oini, r_call, r_callV, r_callI, r_if_eq, r_icmp_eq, r_if_ne, r_icmp_ne, r_if_lt, r_icmp_lt, r_if_ge, r_icmp_ge, r_if_gt, r_icmp_gt, r_if_le, r_icmp_le, cat_i, cat_l, cat_r, cat_n, csum_0, csum_s, okst_0, okst_s, gD0, gDs, rv_s, rv_n, rcv_r, List.set_cons_zero, List.set_cons_succ, List.take_succ_cons, List.take_zero, List.take_nil, List.drop_succ_cons, List.drop_zero, List.drop_nil, List.reverse_cons, List.reverse_nil, List.nil_append, List.cons_append, List.append_nil, List.length_cons, List.length_nil, Option.toList_some, Option.toList_none, Value.int.injEq, Value.long.injEq, Value.ref.injEq, exists_eq_left, exists_eq_left', and_true, true_and, beq_self_eq_true, decide_eq_true_eq, not_false_eq_true, reduceCtorEq, argsL_0, argsL_i, argsL_r, argsL_l, locs_eq, List.replicate_succ, List.replicate_zero, rf_0_0, rf_0_1, rf_0_2, rf_0_3, rf_0_4, rf_0_5, rf_0_6, rf_0_7, rf_0_8, rf_0_10, rf_1_0, rf_1_1, rf_1_2, rf_1_3, rf_2_0, rf_2_1, rf_2_2, rf_2_3, rf_2_4, rf_2_5, rf_2_6, rf_2_9, rf_14_0, rf_14_1, rf_14_2, rf_14_3, rf_14_4, rf_14_5, rf_21_0, rf_21_1, rf_21_2, rf_21_3, rf_21_4, rf_21_5, rf_28_0, rf_28_1, rf_31_0, rf_32_0, rf_32_1, rf_32_2, rf_32_3, rf_32_4, rf_32_5, rf_33_0, rf_33_1, rf_36_0, rf_36_1, rf_39_0, rf_39_1, rf_42_0, rf_42_1, rf_45_0, rf_45_1, rf_48_0, rf_48_1, sh_0, sh_1, sh_2, sh_3, sh_4, sh_5, sh_6, sh_7, sh_8, sh_9, sh_10, sh_11, sh_12, sh_13, sh_14, sh_15, sh_16, sh_17, sh_18, sh_19, sh_20, sh_21, sh_22, sh_23, sh_24, sh_25, sh_26, sh_27, sh_28, sh_29, sh_30, sh_31, sh_32, sh_33, sh_34, sh_35, sh_36, sh_37, sh_38, sh_39, sh_40, sh_41, sh_42, sh_43, sh_44, sh_45, sh_46, sh_47, sh_48, sh_49, sh_50, sh_51, sh_52, sh_53, sh_54, sh_55, pk_mul, nI_add, nI_toInt, nI_clamp, pk_sub, nI_ltI, nI_leI, nI_eq, zge, zeq, zgt, zle, z0, one_I, bz0, bz1, bz2, bz3, bz4, bz5, Nat.add_zero, Nat.zero_add, nI_dec, nI_dec2, eqF, nn0, zltT, ltT, ltF, leT, leF, true_or, or_true, false_or, or_false, not_true_eq_false, false_implies, true_implies, and_false, false_and, ite_true, ite_false, if_true, if_false, l7, nI_rem, pk_mul, lsr_n, and_n, nL_i]
    rw [show i % 8 = i by omega, a7]
  · have a8 := wd_at (a := C.drop 8) (fun c hx => hc c (List.mem_of_mem_drop hx)) (i := i - 8) (by rw [List.length_drop]; omega)
    rw [List.getD_eq_getElem?_getD, List.getElem?_drop, show 8 + (i - 8) = i by omega, ← List.getD_eq_getElem?_getD] at a8
    simp (disch := omega) only [run_sq, sqQ_l, sqQ_r, run_bk, bkQ_l, bkQ_0, bkQ_1, bkQ_2, bkQ_3, bkQ_r, rtQ_r, lpQ_l, lpQ_0, lpQ_1, lpQ_2, lpQ_r, r_push, r_iload, r_lload, r_aload, r_istore, r_lstore, r_astore, r_iinc, r_ib, r_ibz, r_lb, r_lbz, r_lsh, r_lcmp, r_i2l, r_l2i, r_dup, r_pop, r_dup2, r_br, r_nop, r_ifnull_r, r_ifnull_n, r_ifnonnull_r, r_ifnonnull_n, r_iret, r_zret, r_lret, r_aret_r, r_aret_n, r_vret, r_geti, r_getr, r_puti, r_putr, r_ald, r_ast, r_zst, r_lld, r_lst, r_qld, r_qst, r_alen, r_max, r_min, r_cpy, r_new, r_newa, r_oini, r_call, r_callV, r_callI, r_if_eq, r_icmp_eq, r_if_ne, r_icmp_ne, r_if_lt, r_icmp_lt, r_if_ge, r_icmp_ge, r_if_gt, r_icmp_gt, r_if_le, r_icmp_le, cat_i, cat_l, cat_r, cat_n, csum_0, csum_s, okst_0, okst_s, gD0, gDs, rv_s, rv_n, rcv_r, List.set_cons_zero, List.set_cons_succ, List.take_succ_cons, List.take_zero, List.take_nil, List.drop_succ_cons, List.drop_zero, List.drop_nil, List.reverse_cons, List.reverse_nil, List.nil_append, List.cons_append, List.append_nil, List.length_cons, List.length_nil, Option.toList_some, Option.toList_none, Value.int.injEq, Value.long.injEq, Value.ref.injEq, exists_eq_left, exists_eq_left', and_true, true_and, beq_self_eq_true, decide_eq_true_eq, not_false_eq_true, reduceCtorEq, argsL_0, argsL_i, argsL_r, argsL_l, locs_eq, List.replicate_succ, List.replicate_zero, rf_0_0, rf_0_1, rf_0_2, rf_0_3, rf_0_4, rf_0_5, rf_0_6, rf_0_7, rf_0_8, rf_0_10, rf_1_0, rf_1_1, rf_1_2, rf_1_3, rf_2_0, rf_2_1, rf_2_2, rf_2_3, rf_2_4, rf_2_5, rf_2_6, rf_2_9, rf_14_0, rf_14_1, rf_14_2, rf_14_3, rf_14_4, rf_14_5, rf_21_0, rf_21_1, rf_21_2, rf_21_3, rf_21_4, rf_21_5, rf_28_0, rf_28_1, rf_31_0, rf_32_0, rf_32_1, rf_32_2, rf_32_3, rf_32_4, rf_32_5, rf_33_0, rf_33_1, rf_36_0, rf_36_1, rf_39_0, rf_39_1, rf_42_0, rf_42_1, rf_45_0, rf_45_1, rf_48_0, rf_48_1, sh_0, sh_1, sh_2, sh_3, sh_4, sh_5, sh_6, sh_7, sh_8, sh_9, sh_10, sh_11, sh_12, sh_13, sh_14, sh_15, sh_16, sh_17, sh_18, sh_19, sh_20, sh_21, sh_22, sh_23, sh_24, sh_25, sh_26, sh_27, sh_28, sh_29, sh_30, sh_31, sh_32, sh_33, sh_34, sh_35, sh_36, sh_37, sh_38, sh_39, sh_40, sh_41, sh_42, sh_43, sh_44, sh_45, sh_46, sh_47, sh_48, sh_49, sh_50, sh_51, sh_52, sh_53, sh_54, sh_55, pk_mul, nI_add, nI_toInt, nI_clamp, pk_sub, nI_ltI, nI_leI, nI_eq, zge, zeq, zgt, zle, z0, one_I, bz0, bz1, bz2, bz3, bz4, bz5, Nat.add_zero, Nat.zero_add, nI_dec, nI_dec2, eqF, nn0, zltT, ltT, ltF, leT, leF, true_or, or_true, false_or, or_false, not_true_eq_false, false_implies, true_implies, and_false, false_and, ite_true, ite_false, if_true, if_false, l8, nI_rem, pk_mul, lsr_n, and_n, nL_i]
    rw [show i % 8 = i - 8 by omega, a8]
end BitS

