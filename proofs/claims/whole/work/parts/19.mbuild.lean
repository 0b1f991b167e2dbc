/-! building anew -/
def bl : Nat → Nat → Nat → Nat
  | 0, _, _ => 0
  | d + 1, k, n => if n ≤ 1 then 0 else if k < (n + 1) / 2 then 1 + bl d k ((n + 1) / 2) else 1 + bl d (k - (n + 1) / 2) (n - (n + 1) / 2)
theorem bl_le : ∀ d k n, bl d k n ≤ d
  | 0, _, _ => Nat.le_refl _
  | d + 1, k, n => by
    unfold bl
    have h1 := bl_le d k ((n + 1) / 2)
    have h2 := bl_le d (k - (n + 1) / 2) (n - (n + 1) / 2)
    split
    · omega
    · split <;> omega
def leavesOk (L : List Tr) : Prop := ∀ t ∈ L, vn t ∧ isL t = true
theorem buildT_fl : ∀ (d : Nat) (L : List Tr), leavesOk L → L.length ≤ 2 ^ d → ∀ e, (fl e (buildT (d + 1) L)).length = L.length ∧ ∀ i t, L[i]? = some t → (fl e (buildT (d + 1) L))[i]? = some (len t, e + bl (d + 1) i L.length)
  | d, L, hL, hn, e => by
    unfold buildT
    by_cases h0 : L.length = 0
    · rw [if_pos h0]
      refine ⟨by rw [h0]; rfl, fun i t hi => ?_⟩
      have := (List.getElem?_eq_some_iff.mp hi).1
      omega
    · rw [if_neg h0]
      by_cases h1 : L.length = 1
      · rw [if_pos h1]
        match L, h1 with
        | [t], _ =>
          have ht := hL t List.mem_cons_self
          obtain ⟨-, -, a3, -⟩ := L_lst ht.2 e
          show (fl e t).length = 1 ∧ _
          rw [show ([t] : List Tr).headD .nil = t from rfl, a3]
          refine ⟨rfl, fun i u hi => ?_⟩
          have hlt := (List.getElem?_eq_some_iff.mp hi).1
          have : i = 0 := by simpa using hlt
          subst this
          cases hi
          rfl
      · rw [if_neg h1]
        have hh : (L.length + 1) / 2 ≤ L.length := by omega
        cases d with
        | zero => simp at hn; omega
        | succ d =>
          have e2 : 2 ^ (d + 1) = 2 * 2 ^ d := by rw [Nat.pow_succ]; omega
          have t1 : (L.take ((L.length + 1) / 2)).length = (L.length + 1) / 2 := List.length_take_of_le hh
          have t2 : (L.drop ((L.length + 1) / 2)).length = L.length - (L.length + 1) / 2 := List.length_drop
          obtain ⟨a1, a2⟩ := buildT_fl d (L.take ((L.length + 1) / 2)) (fun t ht => hL t (List.mem_of_mem_take ht)) (by rw [t1]; omega) (e + 1)
          obtain ⟨b1, b2⟩ := buildT_fl d (L.drop ((L.length + 1) / 2)) (fun t ht => hL t (List.mem_of_mem_drop ht)) (by rw [t2]; omega) (e + 1)
          rw [t1] at a1 a2
          rw [t2] at b1 b2
          refine ⟨by rw [fl_p, List.length_append, a1, b1]; omega, fun i t hi => ?_⟩
          rw [fl_p]
          have hil := (List.getElem?_eq_some_iff.mp hi).1
          conv => rhs; unfold bl
          rw [if_neg (by omega)]
          by_cases c : i < (L.length + 1) / 2
          · rw [if_pos c, List.getElem?_append_left (by rw [a1]; exact c), a2 i t (by rw [List.getElem?_take, if_pos c]; exact hi), Nat.add_assoc]
          · rw [if_neg c, List.getElem?_append_right (by rw [a1]; omega), a1, b2 (i - (L.length + 1) / 2) t (by rw [List.getElem?_drop, show (L.length + 1) / 2 + (i - (L.length + 1) / 2) = i by omega]; exact hi), Nat.add_assoc]
theorem buildT_ch : ∀ (d : Nat) (L : List Tr), L.length ≤ 2 ^ d → ch (buildT (d + 1) L) = (L.map ch).flatten
  | d, L, hn => by
    unfold buildT
    by_cases h0 : L.length = 0
    · rw [if_pos h0, List.length_eq_zero_iff.mp h0]; rfl
    · rw [if_neg h0]
      by_cases h1 : L.length = 1
      · rw [if_pos h1]
        match L, h1 with
        | [t], _ => simp
      · rw [if_neg h1]
        cases d with
        | zero => simp at hn; omega
        | succ d =>
          have e2 : 2 ^ (d + 1) = 2 * 2 ^ d := by rw [Nat.pow_succ]; omega
          have t1 : (L.take ((L.length + 1) / 2)).length = (L.length + 1) / 2 := List.length_take_of_le (by omega)
          have t2 : (L.drop ((L.length + 1) / 2)).length = L.length - (L.length + 1) / 2 := List.length_drop
          show ch (buildT (d + 1) _) ++ ch (buildT (d + 1) _) = _
          rw [buildT_ch d _ (by rw [t1]; omega), buildT_ch d _ (by rw [t2]; omega), ← List.flatten_append, ← List.map_append, List.take_append_drop]
theorem buildT_vn : ∀ (d : Nat) (L : List Tr), leavesOk L → L.length ≤ 2 ^ d → L ≠ [] → vn (buildT (d + 1) L)
  | d, L, hL, hn, hne => by
    have h0 : L.length ≠ 0 := fun z => hne (List.length_eq_zero_iff.mp z)
    unfold buildT
    rw [if_neg h0]
    by_cases h1 : L.length = 1
    · rw [if_pos h1]
      match L, h1 with
      | [t], _ => exact (hL t List.mem_cons_self).1
    · rw [if_neg h1]
      cases d with
      | zero => simp at hn; omega
      | succ d =>
        have e2 : 2 ^ (d + 1) = 2 * 2 ^ d := by rw [Nat.pow_succ]; omega
        have t1 : (L.take ((L.length + 1) / 2)).length = (L.length + 1) / 2 := List.length_take_of_le (by omega)
        have t2 : (L.drop ((L.length + 1) / 2)).length = L.length - (L.length + 1) / 2 := List.length_drop
        exact ⟨buildT_vn d _ (fun t ht => hL t (List.mem_of_mem_take ht)) (by rw [t1]; omega) (fun z => by rw [z] at t1; simp at t1; omega), buildT_vn d _ (fun t ht => hL t (List.mem_of_mem_drop ht)) (by rw [t2]; omega) (fun z => by rw [z] at t2; simp at t2; omega)⟩
/-- the leaves of a rope -/
theorem lvs_ok {t : Tr} (h : vn t) : leavesOk (lvs t) ∧ (lvs t).length = nlv t ∧ ((lvs t).map ch).flatten = ch t ∧ ∀ (d i : Nat) (p : Nat × Nat), (fl d t)[i]? = some p → ∃ u, (lvs t)[i]? = some u ∧ len u = p.1 := by
  induction t, h using vn_ind with
  | h1 l h0 h1 h2 =>
    have e : lvs (lf l) = [lf l] := by cases l with | nil => exact absurd rfl h0 | cons c cs => rfl
    rw [e]
    refine ⟨fun t ht => ?_, by rw [nlv_lf h0]; rfl, by simp, fun d i p hp => ?_⟩
    · cases List.mem_singleton.mp ht; exact ⟨vn_lf h0 h1 h2, isL_lf h0⟩
    · rw [fl_lf h0] at hp
      have hlt := (List.getElem?_eq_some_iff.mp hp).1
      have : i = 0 := by simpa using hlt
      subst this
      cases hp
      exact ⟨_, rfl, by unfold len; rw [ch_lf]⟩
  | h2 a b ha hb i1 i2 =>
    obtain ⟨a1, a2, a3, a4⟩ := i1
    obtain ⟨b1, b2, b3, b4⟩ := i2
    refine ⟨fun t ht => ?_, ?_, ?_, fun d i p hp => ?_⟩
    · rcases List.mem_append.mp (show t ∈ lvs a ++ lvs b from ht) with q | q
      · exact a1 t q
      · exact b1 t q
    · show (lvs a ++ lvs b).length = _; rw [List.length_append, a2, b2, nlv_p ha hb]
    · show ((lvs a ++ lvs b).map ch).flatten = ch a ++ ch b; rw [List.map_append, List.flatten_append, a3, b3]
    · rw [fl_p] at hp
      show ∃ u, (lvs a ++ lvs b)[i]? = some u ∧ _
      by_cases c : i < nlv a
      · rw [List.getElem?_append_left (by rw [fl_len ha]; exact c)] at hp
        rw [List.getElem?_append_left (by rw [a2]; exact c)]
        exact a4 _ _ _ hp
      · rw [List.getElem?_append_right (by rw [fl_len ha]; omega), fl_len ha] at hp
        rw [List.getElem?_append_right (by rw [a2]; omega), a2]
        exact b4 _ _ _ hp
def rebT (t : Tr) : Tr := buildT 21 (lvs t)
theorem rebT_vt {t : Tr} (h : vt t) (hl : len t ≤ 400) : vt (rebT t) ∧ ch (rebT t) = ch t := by
  rcases h with rfl | h
  · exact ⟨Or.inl rfl, rfl⟩
  · obtain ⟨a1, a2, a3, -⟩ := lvs_ok h
    have := nlv_len h
    have hp := nlv_pos h
    have e : (lvs t).length ≤ 2 ^ 20 := by rw [a2]; exact Nat.le_trans (show nlv t ≤ 400 by omega) (by decide)
    exact ⟨Or.inr (buildT_vn 20 _ a1 e (fun z => by rw [z] at a2; simp at a2; omega)), by unfold rebT; rw [buildT_ch 20 _ e, a3]⟩
/-- the leaves with their levels in a rope built anew -/
def rl (F : List (Nat × Nat)) (k : Nat) : List (Nat × Nat) := (List.range F.length).map fun i => ((F.getD i (0, 0)).1, if i < k then bl 21 i F.length else (F.getD i (0, 0)).2)
theorem rl_0 {F : List (Nat × Nat)} : rl F 0 = F := by
  refine List.ext_getElem? fun i => ?_
  by_cases h : i < F.length
  · simp [rl, h]
  · simp [rl, h]
theorem rl_reb {t : Tr} (h : vt t) (hl : len t ≤ 400) : rl (fl 0 t) (nlv t) = fl 0 (rebT t) := by
  rcases h with rfl | h
  · rfl
  · obtain ⟨a1, a2, a3, a4⟩ := lvs_ok h
    have := nlv_len h
    have e : (lvs t).length ≤ 2 ^ 20 := by rw [a2]; exact Nat.le_trans (show nlv t ≤ 400 by omega) (by decide)
    obtain ⟨b1, b2⟩ := buildT_fl 20 _ a1 e 0
    refine List.ext_getElem? fun i => ?_
    by_cases hi : i < nlv t
    · have hi2 : i < (fl 0 t).length := hi
      obtain ⟨u, hu, hu2⟩ := a4 0 i _ (List.getElem?_eq_getElem hi2)
      have := b2 i u hu
      unfold rebT
      rw [this, hu2, a2, Nat.zero_add]
      simp only [rl, List.getElem?_map, List.getElem?_range hi2, Option.map_some, if_pos hi]
      rw [List.getD_eq_getElem?_getD, List.getElem?_eq_getElem hi2]
      rfl
    · rw [List.getElem?_eq_none (by simp only [rl, List.length_map, List.length_range]; show nlv t ≤ i; omega), List.getElem?_eq_none (by unfold rebT; rw [b1, a2]; omega)]
section BuildS
variable {hi : Nat → Nat → Int32} {hl : Nat → Nat → Int64} {r : Nat} {F : List (Nat × Nat)} {C : List Nat}
theorem e_X6_builtLevel {h : Hp} {k n : Nat} (hn : n ≤ 400) (hk : k < 400) : m_X6_builtLevel [.int (nI k), .int (nI n)] h = some (some (.int (nI (bl 21 k n))), h) := by
  refine does_eq (does_of (by simp [argsL, Value.category]) ?_)
  unfold b_X6_builtLevel
  simp (disch := omega) only [run_sq, sqQ_l, sqQ_r, run_bk, bkQ_l, bkQ_0, bkQ_1, bkQ_2, bkQ_3, bkQ_r, rtQ_r, lpQ_l, lpQ_0, lpQ_1, lpQ_2, lpQ_r, r_push, r_iload, r_lload, r_aload, r_istore, r_lstore, r_astore, r_iinc, r_ib, r_ibz, r_lb, r_lbz, r_lsh, r_lcmp, r_i2l, r_l2i, r_dup, r_pop, r_dup2, r_br, r_nop, r_ifnull_r, r_ifnull_n, r_ifnonnull_r, r_ifnonnull_n, r_iret, r_zret, r_lret, r_aret_r, r_aret_n, r_vret, r_geti, r_getr, r_puti, r_putr, r_ald, r_ast, r_zst, r_lld, r_lst, r_qld, r_qst, r_alen, r_max, r_min, r_cpy, r_new, r_newa, r_oini, r_call, r_callV, r_callI, r_if_eq, r_icmp_eq, r_if_ne, r_icmp_ne, r_if_lt, r_icmp_lt, r_if_ge, r_icmp_ge, r_if_gt, r_icmp_gt, r_if_le, r_icmp_le, cat_i, cat_l, cat_r, cat_n, csum_0, csum_s, okst_0, okst_s, gD0, gDs, rv_s, rv_n, rcv_r, List.set_cons_zero, List.set_cons_succ, List.take_succ_cons, List.take_zero, List.take_nil, List.drop_succ_cons, List.drop_zero, List.drop_nil, List.reverse_cons, List.reverse_nil, List.nil_append, List.cons_append, List.append_nil, List.length_cons, List.length_nil, Option.toList_some, Option.toList_none, Value.int.injEq, Value.long.injEq, Value.ref.injEq, exists_eq_left, exists_eq_left', and_true, true_and, beq_self_eq_true, decide_eq_true_eq, not_false_eq_true, reduceCtorEq, argsL_0, argsL_i, argsL_r, argsL_l, locs_eq, List.replicate_succ, List.replicate_zero, rf_0_0, rf_0_1, rf_0_2, rf_0_3, rf_0_4, rf_0_5, rf_0_6, rf_0_7, rf_0_8, rf_0_10, rf_1_0, rf_1_1, rf_1_2, rf_1_3, rf_2_0, rf_2_1, rf_2_2, rf_2_3, rf_2_4, rf_2_5, rf_2_6, rf_2_9, rf_14_0, rf_14_1, rf_14_2, rf_14_3, rf_14_4, rf_14_5, rf_21_0, rf_21_1, rf_21_2, rf_21_3, rf_21_4, rf_21_5, rf_28_0, rf_28_1, rf_31_0, rf_32_0, rf_32_1, rf_32_2, rf_32_3, rf_32_4, rf_32_5, rf_33_0, rf_33_1, rf_36_0, rf_36_1, rf_39_0, rf_39_1, rf_42_0, rf_42_1, rf_45_0, rf_45_1, rf_48_0, rf_48_1, rf_55_0, rf_55_1, rf_55_2, rf_55_4, rf_55_5, rf_55_7, rf_55_8, rf_55_9, rf_55_10, rf_55_11, sh_0, sh_1, sh_2, sh_3, sh_4, sh_5, sh_6, sh_7, sh_8, sh_9, sh_10, sh_11, sh_12, sh_13, sh_14, sh_15, sh_16, sh_17, sh_18, sh_19, sh_20, sh_21, sh_22, sh_23, sh_24, sh_25, sh_26, sh_27, sh_28, sh_29, sh_30, sh_31, sh_32, sh_33, sh_34, sh_35, sh_36, sh_37, sh_38, sh_39, sh_40, sh_41, sh_42, sh_43, sh_44, sh_45, sh_46, sh_47, sh_48, sh_49, sh_50, sh_51, sh_52, sh_53, sh_54, sh_55, sh_56, sh_57, sh_58, sh_59, sh_60, sh_61, sh_62, sh_63, sh_64, sh_65, pk_mul, nI_add, nI_toInt, nI_clamp, pk_sub, nI_ltI, nI_leI, nI_eq, zge, zeq, zgt, zle, z0, one_I, bz0, bz1, bz2, bz3, bz4, bz5, Nat.add_zero, Nat.zero_add, nI_dec, nI_dec2, eqF, nn0, zltT, ltT, ltF, leT, leF, true_or, or_true, false_or, or_false, not_true_eq_false, false_implies, true_implies, and_false, false_and, ite_true, ite_false, if_true, if_false]
  refine run_loop (fun q st => ∃ d k' n' lv v5 v6, q = d ∧ n' ≤ 2 ^ d ∧ n' ≤ 400 ∧ k' < 400 ∧ lv + bl (d + 1) k' n' = bl 21 k n ∧ v5.category = 1 ∧ v6.category = 1 ∧ st = ([.int (nI k), .int (nI n), .int (nI k'), .int (nI n'), .int (nI lv), v5, v6], [], h)) ?_ 20 _ ⟨20, k, n, 0, .null, .null, rfl, Nat.le_trans hn (by decide), hn, hk, Nat.zero_add _, rfl, rfl, rfl⟩
  rintro q st ⟨d, k', n', lv, v5, v6, rfl, hn1, hn2, hk1, hb, c5, c6, rfl⟩
  simp (disch := omega) only [run_sq, sqQ_l, sqQ_r, run_bk, bkQ_l, bkQ_0, bkQ_1, bkQ_2, bkQ_3, bkQ_r, rtQ_r, lpQ_l, lpQ_0, lpQ_1, lpQ_2, lpQ_r, r_push, r_iload, r_lload, r_aload, r_istore, r_lstore, r_astore, r_iinc, r_ib, r_ibz, r_lb, r_lbz, r_lsh, r_lcmp, r_i2l, r_l2i, r_dup, r_pop, r_dup2, r_br, r_nop, r_ifnull_r, r_ifnull_n, r_ifnonnull_r, r_ifnonnull_n, r_iret, r_zret, r_lret, r_aret_r, r_aret_n, r_vret, r_geti, r_getr, r_puti, r_putr, r_ald, r_ast, r_zst, r_lld, r_lst, r_qld, r_qst, r_alen, r_max, r_min, r_cpy, r_new, r_newa, r_oini, r_call, r_callV, r_callI, r_if_eq, r_icmp_eq, r_if_ne, r_icmp_ne, r_if_lt, r_icmp_lt, r_if_ge, r_icmp_ge, r_if_gt, r_icmp_gt, r_if_le, r_icmp_le, cat_i, cat_l, cat_r, cat_n, csum_0, csum_s, okst_0, okst_s, gD0, gDs, rv_s, rv_n, rcv_r, List.set_cons_zero, List.set_cons_succ, List.take_succ_cons, List.take_zero, List.take_nil, List.drop_succ_cons, List.drop_zero, List.drop_nil, List.reverse_cons, List.reverse_nil, List.nil_append, List.cons_append, List.append_nil, List.length_cons, List.length_nil, Option.toList_some, Option.toList_none, Value.int.injEq, Value.long.injEq, Value.ref.injEq, exists_eq_left, exists_eq_left', and_true, true_and, beq_self_eq_true, decide_eq_true_eq, not_false_eq_true, reduceCtorEq, argsL_0, argsL_i, argsL_r, argsL_l, locs_eq, List.replicate_succ, List.replicate_zero, rf_0_0, rf_0_1, rf_0_2, rf_0_3, rf_0_4, rf_0_5, rf_0_6, rf_0_7, rf_0_8, rf_0_10, rf_1_0, rf_1_1, rf_1_2, rf_1_3, rf_2_0, rf_2_1, rf_2_2, rf_2_3, rf_2_4, rf_2_5, rf_2_6, rf_2_9, rf_14_0, rf_14_1, rf_14_2, rf_14_3, rf_14_4, rf_14_5, rf_21_0, rf_21_1, rf_21_2, rf_21_3, rf_21_4, rf_21_5, rf_28_0, rf_28_1, rf_31_0, rf_32_0, rf_32_1, rf_32_2, rf_32_3, rf_32_4, rf_32_5, rf_33_0, rf_33_1, rf_36_0, rf_36_1, rf_39_0, rf_39_1, rf_42_0, rf_42_1, rf_45_0, rf_45_1, rf_48_0, rf_48_1, rf_55_0, rf_55_1, rf_55_2, rf_55_4, rf_55_5, rf_55_7, rf_55_8, rf_55_9, rf_55_10, rf_55_11, sh_0, sh_1, sh_2, sh_3, sh_4, sh_5, sh_6, sh_7, sh_8, sh_9, sh_10, sh_11, sh_12, sh_13, sh_14, sh_15, sh_16, sh_17, sh_18, sh_19, sh_20, sh_21, sh_22, sh_23, sh_24, sh_25, sh_26, sh_27, sh_28, sh_29, sh_30, sh_31, sh_32, sh_33, sh_34, sh_35, sh_36, sh_37, sh_38, sh_39, sh_40, sh_41, sh_42, sh_43, sh_44, sh_45, sh_46, sh_47, sh_48, sh_49, sh_50, sh_51, sh_52, sh_53, sh_54, sh_55, sh_56, sh_57, sh_58, sh_59, sh_60, sh_61, sh_62, sh_63, sh_64, sh_65, pk_mul, nI_add, nI_toInt, nI_clamp, pk_sub, nI_ltI, nI_leI, nI_eq, zge, zeq, zgt, zle, z0, one_I, bz0, bz1, bz2, bz3, bz4, bz5, Nat.add_zero, Nat.zero_add, nI_dec, nI_dec2, eqF, nn0, zltT, ltT, ltF, leT, leF, true_or, or_true, false_or, or_false, not_true_eq_false, false_implies, true_implies, and_false, false_and, ite_true, ite_false, if_true, if_false, c5, c6]
  refine ⟨fun hh => ?_, fun hh => ?_⟩
  · have : bl (q + 1) k' n' = 0 := by unfold bl; rw [if_pos hh]
    rw [show lv = bl 21 k n by omega]
  · have hd : nI (n' + 1) / nI 2 = nI ((n' + 1) / 2) := pk_div (by omega) (by omega) (by omega)
    cases q with
    | zero => simp at hn1; omega
    | succ q =>
      have e2 : 2 ^ (q + 1) = 2 * 2 ^ q := by rw [Nat.pow_succ]; omega
      simp (disch := omega) only [run_sq, sqQ_l, sqQ_r, run_bk, bkQ_l, bkQ_0, bkQ_1, bkQ_2, bkQ_3, bkQ_r, rtQ_r, lpQ_l, lpQ_0, lpQ_1, lpQ_2, lpQ_r, r_push, r_iload, r_lload, r_aload, r_istore, r_lstore, r_astore, r_iinc, r_ib, r_ibz, r_lb, r_lbz, r_lsh, r_lcmp, r_i2l, r_l2i, r_dup, r_pop, r_dup2, r_br, r_nop, r_ifnull_r, r_ifnull_n, r_ifnonnull_r, r_ifnonnull_n, r_iret, r_zret, r_lret, r_aret_r, r_aret_n, r_vret, r_geti, r_getr, r_puti, r_putr, r_ald, r_ast, r_zst, r_lld, r_lst, r_qld, r_qst, r_alen, r_max, r_min, r_cpy, r_new, r_newa, r_oini, r_call, r_callV, r_callI, r_if_eq, r_icmp_eq, r_if_ne, r_icmp_ne, r_if_lt, r_icmp_lt, r_if_ge, r_icmp_ge, r_if_gt, r_icmp_gt, r_if_le, r_icmp_le, cat_i, cat_l, cat_r, cat_n, csum_0, csum_s, okst_0, okst_s, gD0, gDs, rv_s, rv_n, rcv_r, List.set_cons_zero, List.set_cons_succ, List.take_succ_cons, List.take_zero, List.take_nil, List.drop_succ_cons, List.drop_zero, List.drop_nil, List.reverse_cons, List.reverse_nil, List.nil_append, List.cons_append, List.append_nil, List.length_cons, List.length_nil, Option.toList_some, Option.toList_none, Value.int.injEq, Value.long.injEq, Value.ref.injEq, exists_eq_left, exists_eq_left', and_true, true_and, beq_self_eq_true, decide_eq_true_eq, not_false_eq_true, reduceCtorEq, argsL_0, argsL_i, argsL_r, argsL_l, locs_eq, List.replicate_succ, List.replicate_zero, rf_0_0, rf_0_1, rf_0_2, rf_0_3, rf_0_4, rf_0_5, rf_0_6, rf_0_7, rf_0_8, rf_0_10, rf_1_0, rf_1_1, rf_1_2, rf_1_3, rf_2_0, rf_2_1, rf_2_2, rf_2_3, rf_2_4, rf_2_5, rf_2_6, rf_2_9, rf_14_0, rf_14_1, rf_14_2, rf_14_3, rf_14_4, rf_14_5, rf_21_0, rf_21_1, rf_21_2, rf_21_3, rf_21_4, rf_21_5, rf_28_0, rf_28_1, rf_31_0, rf_32_0, rf_32_1, rf_32_2, rf_32_3, rf_32_4, rf_32_5, rf_33_0, rf_33_1, rf_36_0, rf_36_1, rf_39_0, rf_39_1, rf_42_0, rf_42_1, rf_45_0, rf_45_1, rf_48_0, rf_48_1, rf_55_0, rf_55_1, rf_55_2, rf_55_4, rf_55_5, rf_55_7, rf_55_8, rf_55_9, rf_55_10, rf_55_11, sh_0, sh_1, sh_2, sh_3, sh_4, sh_5, sh_6, sh_7, sh_8, sh_9, sh_10, sh_11, sh_12, sh_13, sh_14, sh_15, sh_16, sh_17, sh_18, sh_19, sh_20, sh_21, sh_22, sh_23, sh_24, sh_25, sh_26, sh_27, sh_28, sh_29, sh_30, sh_31, sh_32, sh_33, sh_34, sh_35, sh_36, sh_37, sh_38, sh_39, sh_40, sh_41, sh_42, sh_43, sh_44, sh_45, sh_46, sh_47, sh_48, sh_49, sh_50, sh_51, sh_52, sh_53, sh_54, sh_55, sh_56, sh_57, sh_58, sh_59, sh_60, sh_61, sh_62, sh_63, sh_64, sh_65, pk_mul, nI_add, nI_toInt, nI_clamp, pk_sub, nI_ltI, nI_leI, nI_eq, zge, zeq, zgt, zle, z0, one_I, bz0, bz1, bz2, bz3, bz4, bz5, Nat.add_zero, Nat.zero_add, nI_dec, nI_dec2, eqF, nn0, zltT, ltT, ltF, leT, leF, true_or, or_true, false_or, or_false, not_true_eq_false, false_implies, true_implies, and_false, false_and, ite_true, ite_false, if_true, if_false, c5, c6, hd]
      have hbl : bl (q + 2) k' n' = if k' < (n' + 1) / 2 then 1 + bl (q + 1) k' ((n' + 1) / 2) else 1 + bl (q + 1) (k' - (n' + 1) / 2) (n' - (n' + 1) / 2) := by
        conv => lhs; unfold bl
        rw [if_neg hh]
      rw [hbl] at hb
      refine ⟨fun h3 => ?_, fun h3 => ?_⟩
      · rw [if_neg (by omega)] at hb
        try simp (disch := omega) only [run_sq, sqQ_l, sqQ_r, run_bk, bkQ_l, bkQ_0, bkQ_1, bkQ_2, bkQ_3, bkQ_r, rtQ_r, lpQ_l, lpQ_0, lpQ_1, lpQ_2, lpQ_r, r_push, r_iload, r_lload, r_aload, r_istore, r_lstore, r_astore, r_iinc, r_ib, r_ibz, r_lb, r_lbz, r_lsh, r_lcmp, r_i2l, r_l2i, r_dup, r_pop, r_dup2, r_br, r_nop, r_ifnull_r, r_ifnull_n, r_ifnonnull_r, r_ifnonnull_n, r_iret, r_zret, r_lret, r_aret_r, r_aret_n, r_vret, r_geti, r_getr, r_puti, r_putr, r_ald, r_ast, r_zst, r_lld, r_lst, r_qld, r_qst, r_alen, r_max, r_min, r_cpy, r_new, r_newa, r_oini, r_call, r_callV, r_callI, r_if_eq, r_icmp_eq, r_if_ne, r_icmp_ne, r_if_lt, r_icmp_lt, r_if_ge, r_icmp_ge, r_if_gt, r_icmp_gt, r_if_le, r_icmp_le, cat_i, cat_l, cat_r, cat_n, csum_0, csum_s, okst_0, okst_s, gD0, gDs, rv_s, rv_n, rcv_r, List.set_cons_zero, List.set_cons_succ, List.take_succ_cons, List.take_zero, List.take_nil, List.drop_succ_cons, List.drop_zero, List.drop_nil, List.reverse_cons, List.reverse_nil, List.nil_append, List.cons_append, List.append_nil, List.length_cons, List.length_nil, Option.toList_some, Option.toList_none, Value.int.injEq, Value.long.injEq, Value.ref.injEq, exists_eq_left, exists_eq_left', and_true, true_and, beq_self_eq_true, decide_eq_true_eq, not_false_eq_true, reduceCtorEq, argsL_0, argsL_i, argsL_r, argsL_l, locs_eq, List.replicate_succ, List.replicate_zero, rf_0_0, rf_0_1, rf_0_2, rf_0_3, rf_0_4, rf_0_5, rf_0_6, rf_0_7, rf_0_8, rf_0_10, rf_1_0, rf_1_1, rf_1_2, rf_1_3, rf_2_0, rf_2_1, rf_2_2, rf_2_3, rf_2_4, rf_2_5, rf_2_6, rf_2_9, rf_14_0, rf_14_1, rf_14_2, rf_14_3, rf_14_4, rf_14_5, rf_21_0, rf_21_1, rf_21_2, rf_21_3, rf_21_4, rf_21_5, rf_28_0, rf_28_1, rf_31_0, rf_32_0, rf_32_1, rf_32_2, rf_32_3, rf_32_4, rf_32_5, rf_33_0, rf_33_1, rf_36_0, rf_36_1, rf_39_0, rf_39_1, rf_42_0, rf_42_1, rf_45_0, rf_45_1, rf_48_0, rf_48_1, rf_55_0, rf_55_1, rf_55_2, rf_55_4, rf_55_5, rf_55_7, rf_55_8, rf_55_9, rf_55_10, rf_55_11, sh_0, sh_1, sh_2, sh_3, sh_4, sh_5, sh_6, sh_7, sh_8, sh_9, sh_10, sh_11, sh_12, sh_13, sh_14, sh_15, sh_16, sh_17, sh_18, sh_19, sh_20, sh_21, sh_22, sh_23, sh_24, sh_25, sh_26, sh_27, sh_28, sh_29, sh_30, sh_31, sh_32, sh_33, sh_34, sh_35, sh_36, sh_37, sh_38, sh_39, sh_40, sh_41, sh_42, sh_43, sh_44, sh_45, sh_46, sh_47, sh_48, sh_49, sh_50, sh_51, sh_52, sh_53, sh_54, sh_55, sh_56, sh_57, sh_58, sh_59, sh_60, sh_61, sh_62, sh_63, sh_64, sh_65, pk_mul, nI_add, nI_toInt, nI_clamp, pk_sub, nI_ltI, nI_leI, nI_eq, zge, zeq, zgt, zle, z0, one_I, bz0, bz1, bz2, bz3, bz4, bz5, Nat.add_zero, Nat.zero_add, nI_dec, nI_dec2, eqF, nn0, zltT, ltT, ltF, leT, leF, true_or, or_true, false_or, or_false, not_true_eq_false, false_implies, true_implies, and_false, false_and, ite_true, ite_false, if_true, if_false, c5, c6, hd]
        exact ⟨q, by omega, q, k' - (n' + 1) / 2, n' - (n' + 1) / 2, lv + 1, _, _, rfl, by omega, by omega, by omega, by omega, rfl, rfl, rfl⟩
      · rw [if_pos (by omega)] at hb
        try simp (disch := omega) only [run_sq, sqQ_l, sqQ_r, run_bk, bkQ_l, bkQ_0, bkQ_1, bkQ_2, bkQ_3, bkQ_r, rtQ_r, lpQ_l, lpQ_0, lpQ_1, lpQ_2, lpQ_r, r_push, r_iload, r_lload, r_aload, r_istore, r_lstore, r_astore, r_iinc, r_ib, r_ibz, r_lb, r_lbz, r_lsh, r_lcmp, r_i2l, r_l2i, r_dup, r_pop, r_dup2, r_br, r_nop, r_ifnull_r, r_ifnull_n, r_ifnonnull_r, r_ifnonnull_n, r_iret, r_zret, r_lret, r_aret_r, r_aret_n, r_vret, r_geti, r_getr, r_puti, r_putr, r_ald, r_ast, r_zst, r_lld, r_lst, r_qld, r_qst, r_alen, r_max, r_min, r_cpy, r_new, r_newa, r_oini, r_call, r_callV, r_callI, r_if_eq, r_icmp_eq, r_if_ne, r_icmp_ne, r_if_lt, r_icmp_lt, r_if_ge, r_icmp_ge, r_if_gt, r_icmp_gt, r_if_le, r_icmp_le, cat_i, cat_l, cat_r, cat_n, csum_0, csum_s, okst_0, okst_s, gD0, gDs, rv_s, rv_n, rcv_r, List.set_cons_zero, List.set_cons_succ, List.take_succ_cons, List.take_zero, List.take_nil, List.drop_succ_cons, List.drop_zero, List.drop_nil, List.reverse_cons, List.reverse_nil, List.nil_append, List.cons_append, List.append_nil, List.length_cons, List.length_nil, Option.toList_some, Option.toList_none, Value.int.injEq, Value.long.injEq, Value.ref.injEq, exists_eq_left, exists_eq_left', and_true, true_and, beq_self_eq_true, decide_eq_true_eq, not_false_eq_true, reduceCtorEq, argsL_0, argsL_i, argsL_r, argsL_l, locs_eq, List.replicate_succ, List.replicate_zero, rf_0_0, rf_0_1, rf_0_2, rf_0_3, rf_0_4, rf_0_5, rf_0_6, rf_0_7, rf_0_8, rf_0_10, rf_1_0, rf_1_1, rf_1_2, rf_1_3, rf_2_0, rf_2_1, rf_2_2, rf_2_3, rf_2_4, rf_2_5, rf_2_6, rf_2_9, rf_14_0, rf_14_1, rf_14_2, rf_14_3, rf_14_4, rf_14_5, rf_21_0, rf_21_1, rf_21_2, rf_21_3, rf_21_4, rf_21_5, rf_28_0, rf_28_1, rf_31_0, rf_32_0, rf_32_1, rf_32_2, rf_32_3, rf_32_4, rf_32_5, rf_33_0, rf_33_1, rf_36_0, rf_36_1, rf_39_0, rf_39_1, rf_42_0, rf_42_1, rf_45_0, rf_45_1, rf_48_0, rf_48_1, rf_55_0, rf_55_1, rf_55_2, rf_55_4, rf_55_5, rf_55_7, rf_55_8, rf_55_9, rf_55_10, rf_55_11, sh_0, sh_1, sh_2, sh_3, sh_4, sh_5, sh_6, sh_7, sh_8, sh_9, sh_10, sh_11, sh_12, sh_13, sh_14, sh_15, sh_16, sh_17, sh_18, sh_19, sh_20, sh_21, sh_22, sh_23, sh_24, sh_25, sh_26, sh_27, sh_28, sh_29, sh_30, sh_31, sh_32, sh_33, sh_34, sh_35, sh_36, sh_37, sh_38, sh_39, sh_40, sh_41, sh_42, sh_43, sh_44, sh_45, sh_46, sh_47, sh_48, sh_49, sh_50, sh_51, sh_52, sh_53, sh_54, sh_55, sh_56, sh_57, sh_58, sh_59, sh_60, sh_61, sh_62, sh_63, sh_64, sh_65, pk_mul, nI_add, nI_toInt, nI_clamp, pk_sub, nI_ltI, nI_leI, nI_eq, zge, zeq, zgt, zle, z0, one_I, bz0, bz1, bz2, bz3, bz4, bz5, Nat.add_zero, Nat.zero_add, nI_dec, nI_dec2, eqF, nn0, zltT, ltT, ltF, leT, leF, true_or, or_true, false_or, or_false, not_true_eq_false, false_implies, true_implies, and_false, false_and, ite_true, ite_false, if_true, if_false, c5, c6, hd]
        exact ⟨q, by omega, q, k', (n' + 1) / 2, lv + 1, .int (nI ((n' + 1) / 2)), .int (nI 1), rfl, by omega, by omega, by omega, by omega, rfl, rfl, by simp⟩
theorem ML.setlv {f : Nat → Int32} {o k : Nat} (h : ML f o (rl F k) C) (hk : k < F.length) : ML (upd f (o + 402 + k) (nI (bl 21 k F.length))) o (rl F (k + 1)) C := by
  have e1 : (rl F k).length = F.length := by simp [rl]
  have e2 : (rl F (k + 1)).length = F.length := by simp [rl]
  obtain ⟨h1, h2, h3, h4, h5, h6⟩ := h
  rw [e1] at h1 h3
  refine ⟨by rw [upd_n (by omega), e2]; exact h1, by rw [upd_n (by omega)]; exact h2, by rw [e2]; exact h3, h4, fun i s l hi => ?_, fun i c hi => ?_⟩
  · have hil := (List.getElem?_eq_some_iff.mp hi).1
    rw [e2] at hil
    simp only [rl, List.getElem?_map, List.getElem?_range hil, Option.map_some, Option.some.injEq, Prod.mk.injEq] at hi
    obtain ⟨rfl, rfl⟩ := hi
    have := h5 i (F.getD i (0, 0)).1 (if i < k then bl 21 i F.length else (F.getD i (0, 0)).2) (by simp only [rl, List.getElem?_map, List.getElem?_range hil, Option.map_some])
    rw [upd_n (by omega)]
    refine ⟨this.1, ?_⟩
    by_cases c : i = k
    · subst c; rw [upd_s, if_pos (by omega)]
    · rw [upd_n (by omega), this.2]
      by_cases c2 : i < k
      · rw [if_pos c2, if_pos (by omega)]
      · rw [if_neg c2, if_neg (by omega)]
  · have := (List.getElem?_eq_some_iff.mp hi).1
    rw [upd_n (by omega)]
    exact h6 i c hi
theorem p_buildsAnew (hr : r < 16) (h : ML (hi 56) (1202 * r) F C) : Does m_X6_buildsAnew [.ref 55, .int (nI r)] (66, hi, hl, rf0) (RP r hi hl (fun f => ML f (1202 * r) (rl F F.length) C)) := by
  have hF := h.2.2.1
  refine does_of (by simp [argsL, Value.category]) ?_
  unfold b_X6_buildsAnew
  simp (disch := omega) only [run_sq, sqQ_l, sqQ_r, run_bk, bkQ_l, bkQ_0, bkQ_1, bkQ_2, bkQ_3, bkQ_r, rtQ_r, lpQ_l, lpQ_0, lpQ_1, lpQ_2, lpQ_r, r_push, r_iload, r_lload, r_aload, r_istore, r_lstore, r_astore, r_iinc, r_ib, r_ibz, r_lb, r_lbz, r_lsh, r_lcmp, r_i2l, r_l2i, r_dup, r_pop, r_dup2, r_br, r_nop, r_ifnull_r, r_ifnull_n, r_ifnonnull_r, r_ifnonnull_n, r_iret, r_zret, r_lret, r_aret_r, r_aret_n, r_vret, r_geti, r_getr, r_puti, r_putr, r_ald, r_ast, r_zst, r_lld, r_lst, r_qld, r_qst, r_alen, r_max, r_min, r_cpy, r_new, r_newa, r_oini, r_call, r_callV, r_callI, r_if_eq, r_icmp_eq, r_if_ne, r_icmp_ne, r_if_lt, r_icmp_lt, r_if_ge, r_icmp_ge, r_if_gt, r_icmp_gt, r_if_le, r_icmp_le, cat_i, cat_l, cat_r, cat_n, csum_0, csum_s, okst_0, okst_s, gD0, gDs, rv_s, rv_n, rcv_r, List.set_cons_zero, List.set_cons_succ, List.take_succ_cons, List.take_zero, List.take_nil, List.drop_succ_cons, List.drop_zero, List.drop_nil, List.reverse_cons, List.reverse_nil, List.nil_append, List.cons_append, List.append_nil, List.length_cons, List.length_nil, Option.toList_some, Option.toList_none, Value.int.injEq, Value.long.injEq, Value.ref.injEq, exists_eq_left, exists_eq_left', and_true, true_and, beq_self_eq_true, decide_eq_true_eq, not_false_eq_true, reduceCtorEq, argsL_0, argsL_i, argsL_r, argsL_l, locs_eq, List.replicate_succ, List.replicate_zero, rf_0_0, rf_0_1, rf_0_2, rf_0_3, rf_0_4, rf_0_5, rf_0_6, rf_0_7, rf_0_8, rf_0_10, rf_1_0, rf_1_1, rf_1_2, rf_1_3, rf_2_0, rf_2_1, rf_2_2, rf_2_3, rf_2_4, rf_2_5, rf_2_6, rf_2_9, rf_14_0, rf_14_1, rf_14_2, rf_14_3, rf_14_4, rf_14_5, rf_21_0, rf_21_1, rf_21_2, rf_21_3, rf_21_4, rf_21_5, rf_28_0, rf_28_1, rf_31_0, rf_32_0, rf_32_1, rf_32_2, rf_32_3, rf_32_4, rf_32_5, rf_33_0, rf_33_1, rf_36_0, rf_36_1, rf_39_0, rf_39_1, rf_42_0, rf_42_1, rf_45_0, rf_45_1, rf_48_0, rf_48_1, rf_55_0, rf_55_1, rf_55_2, rf_55_4, rf_55_5, rf_55_7, rf_55_8, rf_55_9, rf_55_10, rf_55_11, sh_0, sh_1, sh_2, sh_3, sh_4, sh_5, sh_6, sh_7, sh_8, sh_9, sh_10, sh_11, sh_12, sh_13, sh_14, sh_15, sh_16, sh_17, sh_18, sh_19, sh_20, sh_21, sh_22, sh_23, sh_24, sh_25, sh_26, sh_27, sh_28, sh_29, sh_30, sh_31, sh_32, sh_33, sh_34, sh_35, sh_36, sh_37, sh_38, sh_39, sh_40, sh_41, sh_42, sh_43, sh_44, sh_45, sh_46, sh_47, sh_48, sh_49, sh_50, sh_51, sh_52, sh_53, sh_54, sh_55, sh_56, sh_57, sh_58, sh_59, sh_60, sh_61, sh_62, sh_63, sh_64, sh_65, pk_mul, nI_add, nI_toInt, nI_clamp, pk_sub, nI_ltI, nI_leI, nI_eq, zge, zeq, zgt, zle, z0, one_I, bz0, bz1, bz2, bz3, bz4, bz5, Nat.add_zero, Nat.zero_add, nI_dec, nI_dec2, eqF, nn0, zltT, ltT, ltF, leT, leF, true_or, or_true, false_or, or_false, not_true_eq_false, false_implies, true_implies, and_false, false_and, ite_true, ite_false, if_true, if_false]
  refine run_loop (fun n st => ∃ k f, k ≤ F.length ∧ n = F.length - k ∧ st = ([.ref 55, .int (nI r), .int (nI k)], [], (66, cu hi 56 f, hl, rf0)) ∧ Out r (hi 56) f ∧ ML f (1202 * r) (rl F k) C) ?_ F.length _ ⟨0, hi 56, by omega, rfl, by rw [cu_id], Out.rf, by rw [rl_0]; exact h⟩
  rintro n st ⟨k, f, hk, rfl, rfl, ho, hm⟩
  have e1 : (rl F k).length = F.length := by simp [rl]
  have hm1 : f (1202 * r) = nI F.length := by rw [← e1]; exact hm.1
  simp (disch := omega) only [run_sq, sqQ_l, sqQ_r, run_bk, bkQ_l, bkQ_0, bkQ_1, bkQ_2, bkQ_3, bkQ_r, rtQ_r, lpQ_l, lpQ_0, lpQ_1, lpQ_2, lpQ_r, r_push, r_iload, r_lload, r_aload, r_istore, r_lstore, r_astore, r_iinc, r_ib, r_ibz, r_lb, r_lbz, r_lsh, r_lcmp, r_i2l, r_l2i, r_dup, r_pop, r_dup2, r_br, r_nop, r_ifnull_r, r_ifnull_n, r_ifnonnull_r, r_ifnonnull_n, r_iret, r_zret, r_lret, r_aret_r, r_aret_n, r_vret, r_geti, r_getr, r_puti, r_putr, r_ald, r_ast, r_zst, r_lld, r_lst, r_qld, r_qst, r_alen, r_max, r_min, r_cpy, r_new, r_newa, r_oini, r_call, r_callV, r_callI, r_if_eq, r_icmp_eq, r_if_ne, r_icmp_ne, r_if_lt, r_icmp_lt, r_if_ge, r_icmp_ge, r_if_gt, r_icmp_gt, r_if_le, r_icmp_le, cat_i, cat_l, cat_r, cat_n, csum_0, csum_s, okst_0, okst_s, gD0, gDs, rv_s, rv_n, rcv_r, List.set_cons_zero, List.set_cons_succ, List.take_succ_cons, List.take_zero, List.take_nil, List.drop_succ_cons, List.drop_zero, List.drop_nil, List.reverse_cons, List.reverse_nil, List.nil_append, List.cons_append, List.append_nil, List.length_cons, List.length_nil, Option.toList_some, Option.toList_none, Value.int.injEq, Value.long.injEq, Value.ref.injEq, exists_eq_left, exists_eq_left', and_true, true_and, beq_self_eq_true, decide_eq_true_eq, not_false_eq_true, reduceCtorEq, argsL_0, argsL_i, argsL_r, argsL_l, locs_eq, List.replicate_succ, List.replicate_zero, rf_0_0, rf_0_1, rf_0_2, rf_0_3, rf_0_4, rf_0_5, rf_0_6, rf_0_7, rf_0_8, rf_0_10, rf_1_0, rf_1_1, rf_1_2, rf_1_3, rf_2_0, rf_2_1, rf_2_2, rf_2_3, rf_2_4, rf_2_5, rf_2_6, rf_2_9, rf_14_0, rf_14_1, rf_14_2, rf_14_3, rf_14_4, rf_14_5, rf_21_0, rf_21_1, rf_21_2, rf_21_3, rf_21_4, rf_21_5, rf_28_0, rf_28_1, rf_31_0, rf_32_0, rf_32_1, rf_32_2, rf_32_3, rf_32_4, rf_32_5, rf_33_0, rf_33_1, rf_36_0, rf_36_1, rf_39_0, rf_39_1, rf_42_0, rf_42_1, rf_45_0, rf_45_1, rf_48_0, rf_48_1, rf_55_0, rf_55_1, rf_55_2, rf_55_4, rf_55_5, rf_55_7, rf_55_8, rf_55_9, rf_55_10, rf_55_11, sh_0, sh_1, sh_2, sh_3, sh_4, sh_5, sh_6, sh_7, sh_8, sh_9, sh_10, sh_11, sh_12, sh_13, sh_14, sh_15, sh_16, sh_17, sh_18, sh_19, sh_20, sh_21, sh_22, sh_23, sh_24, sh_25, sh_26, sh_27, sh_28, sh_29, sh_30, sh_31, sh_32, sh_33, sh_34, sh_35, sh_36, sh_37, sh_38, sh_39, sh_40, sh_41, sh_42, sh_43, sh_44, sh_45, sh_46, sh_47, sh_48, sh_49, sh_50, sh_51, sh_52, sh_53, sh_54, sh_55, sh_56, sh_57, sh_58, sh_59, sh_60, sh_61, sh_62, sh_63, sh_64, sh_65, pk_mul, nI_add, nI_toInt, nI_clamp, pk_sub, nI_ltI, nI_leI, nI_eq, zge, zeq, zgt, zle, z0, one_I, bz0, bz1, bz2, bz3, bz4, bz5, Nat.add_zero, Nat.zero_add, nI_dec, nI_dec2, eqF, nn0, zltT, ltT, ltF, leT, leF, true_or, or_true, false_or, or_false, not_true_eq_false, false_implies, true_implies, and_false, false_and, ite_true, ite_false, if_true, if_false]
  simp only [does_at (e_X6_many (hi := cu hi 56 f) (hl := hl) hr), cu_s, hm1, r_call, r_callV, run_sq, sqQ_l, List.take_succ_cons, List.take_zero, List.take_nil, List.drop_succ_cons, List.drop_zero, List.drop_nil, List.reverse_cons, List.reverse_nil, List.nil_append, List.cons_append, List.append_nil]
  simp (disch := omega) only [run_sq, sqQ_l, sqQ_r, run_bk, bkQ_l, bkQ_0, bkQ_1, bkQ_2, bkQ_3, bkQ_r, rtQ_r, lpQ_l, lpQ_0, lpQ_1, lpQ_2, lpQ_r, r_push, r_iload, r_lload, r_aload, r_istore, r_lstore, r_astore, r_iinc, r_ib, r_ibz, r_lb, r_lbz, r_lsh, r_lcmp, r_i2l, r_l2i, r_dup, r_pop, r_dup2, r_br, r_nop, r_ifnull_r, r_ifnull_n, r_ifnonnull_r, r_ifnonnull_n, r_iret, r_zret, r_lret, r_aret_r, r_aret_n, r_vret, r_geti, r_getr, r_puti, r_putr, r_ald, r_ast, r_zst, r_lld, r_lst, r_qld, r_qst, r_alen, r_max, r_min, r_cpy, r_new, r_newa, r_oini, r_call, r_callV, r_callI, r_if_eq, r_icmp_eq, r_if_ne, r_icmp_ne, r_if_lt, r_icmp_lt, r_if_ge, r_icmp_ge, r_if_gt, r_icmp_gt, r_if_le, r_icmp_le, cat_i, cat_l, cat_r, cat_n, csum_0, csum_s, okst_0, okst_s, gD0, gDs, rv_s, rv_n, rcv_r, List.set_cons_zero, List.set_cons_succ, List.take_succ_cons, List.take_zero, List.take_nil, List.drop_succ_cons, List.drop_zero, List.drop_nil, List.reverse_cons, List.reverse_nil, List.nil_append, List.cons_append, List.append_nil, List.length_cons, List.length_nil, Option.toList_some, Option.toList_none, Value.int.injEq, Value.long.injEq, Value.ref.injEq, exists_eq_left, exists_eq_left', and_true, true_and, beq_self_eq_true, decide_eq_true_eq, not_false_eq_true, reduceCtorEq, argsL_0, argsL_i, argsL_r, argsL_l, locs_eq, List.replicate_succ, List.replicate_zero, rf_0_0, rf_0_1, rf_0_2, rf_0_3, rf_0_4, rf_0_5, rf_0_6, rf_0_7, rf_0_8, rf_0_10, rf_1_0, rf_1_1, rf_1_2, rf_1_3, rf_2_0, rf_2_1, rf_2_2, rf_2_3, rf_2_4, rf_2_5, rf_2_6, rf_2_9, rf_14_0, rf_14_1, rf_14_2, rf_14_3, rf_14_4, rf_14_5, rf_21_0, rf_21_1, rf_21_2, rf_21_3, rf_21_4, rf_21_5, rf_28_0, rf_28_1, rf_31_0, rf_32_0, rf_32_1, rf_32_2, rf_32_3, rf_32_4, rf_32_5, rf_33_0, rf_33_1, rf_36_0, rf_36_1, rf_39_0, rf_39_1, rf_42_0, rf_42_1, rf_45_0, rf_45_1, rf_48_0, rf_48_1, rf_55_0, rf_55_1, rf_55_2, rf_55_4, rf_55_5, rf_55_7, rf_55_8, rf_55_9, rf_55_10, rf_55_11, sh_0, sh_1, sh_2, sh_3, sh_4, sh_5, sh_6, sh_7, sh_8, sh_9, sh_10, sh_11, sh_12, sh_13, sh_14, sh_15, sh_16, sh_17, sh_18, sh_19, sh_20, sh_21, sh_22, sh_23, sh_24, sh_25, sh_26, sh_27, sh_28, sh_29, sh_30, sh_31, sh_32, sh_33, sh_34, sh_35, sh_36, sh_37, sh_38, sh_39, sh_40, sh_41, sh_42, sh_43, sh_44, sh_45, sh_46, sh_47, sh_48, sh_49, sh_50, sh_51, sh_52, sh_53, sh_54, sh_55, sh_56, sh_57, sh_58, sh_59, sh_60, sh_61, sh_62, sh_63, sh_64, sh_65, pk_mul, nI_add, nI_toInt, nI_clamp, pk_sub, nI_ltI, nI_leI, nI_eq, zge, zeq, zgt, zle, z0, one_I, bz0, bz1, bz2, bz3, bz4, bz5, Nat.add_zero, Nat.zero_add, nI_dec, nI_dec2, eqF, nn0, zltT, ltT, ltF, leT, leF, true_or, or_true, false_or, or_false, not_true_eq_false, false_implies, true_implies, and_false, false_and, ite_true, ite_false, if_true, if_false]
  refine ⟨fun hh => ?_, fun hh => ?_⟩
  · have : k = F.length := by omega
    subst this
    exact ⟨rfl, f, rfl, ho, hm⟩
  · try simp (disch := omega) only [run_sq, sqQ_l, sqQ_r, run_bk, bkQ_l, bkQ_0, bkQ_1, bkQ_2, bkQ_3, bkQ_r, rtQ_r, lpQ_l, lpQ_0, lpQ_1, lpQ_2, lpQ_r, r_push, r_iload, r_lload, r_aload, r_istore, r_lstore, r_astore, r_iinc, r_ib, r_ibz, r_lb, r_lbz, r_lsh, r_lcmp, r_i2l, r_l2i, r_dup, r_pop, r_dup2, r_br, r_nop, r_ifnull_r, r_ifnull_n, r_ifnonnull_r, r_ifnonnull_n, r_iret, r_zret, r_lret, r_aret_r, r_aret_n, r_vret, r_geti, r_getr, r_puti, r_putr, r_ald, r_ast, r_zst, r_lld, r_lst, r_qld, r_qst, r_alen, r_max, r_min, r_cpy, r_new, r_newa, r_oini, r_call, r_callV, r_callI, r_if_eq, r_icmp_eq, r_if_ne, r_icmp_ne, r_if_lt, r_icmp_lt, r_if_ge, r_icmp_ge, r_if_gt, r_icmp_gt, r_if_le, r_icmp_le, cat_i, cat_l, cat_r, cat_n, csum_0, csum_s, okst_0, okst_s, gD0, gDs, rv_s, rv_n, rcv_r, List.set_cons_zero, List.set_cons_succ, List.take_succ_cons, List.take_zero, List.take_nil, List.drop_succ_cons, List.drop_zero, List.drop_nil, List.reverse_cons, List.reverse_nil, List.nil_append, List.cons_append, List.append_nil, List.length_cons, List.length_nil, Option.toList_some, Option.toList_none, Value.int.injEq, Value.long.injEq, Value.ref.injEq, exists_eq_left, exists_eq_left', and_true, true_and, beq_self_eq_true, decide_eq_true_eq, not_false_eq_true, reduceCtorEq, argsL_0, argsL_i, argsL_r, argsL_l, locs_eq, List.replicate_succ, List.replicate_zero, rf_0_0, rf_0_1, rf_0_2, rf_0_3, rf_0_4, rf_0_5, rf_0_6, rf_0_7, rf_0_8, rf_0_10, rf_1_0, rf_1_1, rf_1_2, rf_1_3, rf_2_0, rf_2_1, rf_2_2, rf_2_3, rf_2_4, rf_2_5, rf_2_6, rf_2_9, rf_14_0, rf_14_1, rf_14_2, rf_14_3, rf_14_4, rf_14_5, rf_21_0, rf_21_1, rf_21_2, rf_21_3, rf_21_4, rf_21_5, rf_28_0, rf_28_1, rf_31_0, rf_32_0, rf_32_1, rf_32_2, rf_32_3, rf_32_4, rf_32_5, rf_33_0, rf_33_1, rf_36_0, rf_36_1, rf_39_0, rf_39_1, rf_42_0, rf_42_1, rf_45_0, rf_45_1, rf_48_0, rf_48_1, rf_55_0, rf_55_1, rf_55_2, rf_55_4, rf_55_5, rf_55_7, rf_55_8, rf_55_9, rf_55_10, rf_55_11, sh_0, sh_1, sh_2, sh_3, sh_4, sh_5, sh_6, sh_7, sh_8, sh_9, sh_10, sh_11, sh_12, sh_13, sh_14, sh_15, sh_16, sh_17, sh_18, sh_19, sh_20, sh_21, sh_22, sh_23, sh_24, sh_25, sh_26, sh_27, sh_28, sh_29, sh_30, sh_31, sh_32, sh_33, sh_34, sh_35, sh_36, sh_37, sh_38, sh_39, sh_40, sh_41, sh_42, sh_43, sh_44, sh_45, sh_46, sh_47, sh_48, sh_49, sh_50, sh_51, sh_52, sh_53, sh_54, sh_55, sh_56, sh_57, sh_58, sh_59, sh_60, sh_61, sh_62, sh_63, sh_64, sh_65, pk_mul, nI_add, nI_toInt, nI_clamp, pk_sub, nI_ltI, nI_leI, nI_eq, zge, zeq, zgt, zle, z0, one_I, bz0, bz1, bz2, bz3, bz4, bz5, Nat.add_zero, Nat.zero_add, nI_dec, nI_dec2, eqF, nn0, zltT, ltT, ltF, leT, leF, true_or, or_true, false_or, or_false, not_true_eq_false, false_implies, true_implies, and_false, false_and, ite_true, ite_false, if_true, if_false]
    simp only [does_at (e_X6_many (hi := cu hi 56 f) (hl := hl) hr), cu_s, hm1, r_call, r_callV, run_sq, sqQ_l, List.take_succ_cons, List.take_zero, List.take_nil, List.drop_succ_cons, List.drop_zero, List.drop_nil, List.reverse_cons, List.reverse_nil, List.nil_append, List.cons_append, List.append_nil]
    simp (disch := omega) only [run_sq, sqQ_l, sqQ_r, run_bk, bkQ_l, bkQ_0, bkQ_1, bkQ_2, bkQ_3, bkQ_r, rtQ_r, lpQ_l, lpQ_0, lpQ_1, lpQ_2, lpQ_r, r_push, r_iload, r_lload, r_aload, r_istore, r_lstore, r_astore, r_iinc, r_ib, r_ibz, r_lb, r_lbz, r_lsh, r_lcmp, r_i2l, r_l2i, r_dup, r_pop, r_dup2, r_br, r_nop, r_ifnull_r, r_ifnull_n, r_ifnonnull_r, r_ifnonnull_n, r_iret, r_zret, r_lret, r_aret_r, r_aret_n, r_vret, r_geti, r_getr, r_puti, r_putr, r_ald, r_ast, r_zst, r_lld, r_lst, r_qld, r_qst, r_alen, r_max, r_min, r_cpy, r_new, r_newa, r_oini, r_call, r_callV, r_callI, r_if_eq, r_icmp_eq, r_if_ne, r_icmp_ne, r_if_lt, r_icmp_lt, r_if_ge, r_icmp_ge, r_if_gt, r_icmp_gt, r_if_le, r_icmp_le, cat_i, cat_l, cat_r, cat_n, csum_0, csum_s, okst_0, okst_s, gD0, gDs, rv_s, rv_n, rcv_r, List.set_cons_zero, List.set_cons_succ, List.take_succ_cons, List.take_zero, List.take_nil, List.drop_succ_cons, List.drop_zero, List.drop_nil, List.reverse_cons, List.reverse_nil, List.nil_append, List.cons_append, List.append_nil, List.length_cons, List.length_nil, Option.toList_some, Option.toList_none, Value.int.injEq, Value.long.injEq, Value.ref.injEq, exists_eq_left, exists_eq_left', and_true, true_and, beq_self_eq_true, decide_eq_true_eq, not_false_eq_true, reduceCtorEq, argsL_0, argsL_i, argsL_r, argsL_l, locs_eq, List.replicate_succ, List.replicate_zero, rf_0_0, rf_0_1, rf_0_2, rf_0_3, rf_0_4, rf_0_5, rf_0_6, rf_0_7, rf_0_8, rf_0_10, rf_1_0, rf_1_1, rf_1_2, rf_1_3, rf_2_0, rf_2_1, rf_2_2, rf_2_3, rf_2_4, rf_2_5, rf_2_6, rf_2_9, rf_14_0, rf_14_1, rf_14_2, rf_14_3, rf_14_4, rf_14_5, rf_21_0, rf_21_1, rf_21_2, rf_21_3, rf_21_4, rf_21_5, rf_28_0, rf_28_1, rf_31_0, rf_32_0, rf_32_1, rf_32_2, rf_32_3, rf_32_4, rf_32_5, rf_33_0, rf_33_1, rf_36_0, rf_36_1, rf_39_0, rf_39_1, rf_42_0, rf_42_1, rf_45_0, rf_45_1, rf_48_0, rf_48_1, rf_55_0, rf_55_1, rf_55_2, rf_55_4, rf_55_5, rf_55_7, rf_55_8, rf_55_9, rf_55_10, rf_55_11, sh_0, sh_1, sh_2, sh_3, sh_4, sh_5, sh_6, sh_7, sh_8, sh_9, sh_10, sh_11, sh_12, sh_13, sh_14, sh_15, sh_16, sh_17, sh_18, sh_19, sh_20, sh_21, sh_22, sh_23, sh_24, sh_25, sh_26, sh_27, sh_28, sh_29, sh_30, sh_31, sh_32, sh_33, sh_34, sh_35, sh_36, sh_37, sh_38, sh_39, sh_40, sh_41, sh_42, sh_43, sh_44, sh_45, sh_46, sh_47, sh_48, sh_49, sh_50, sh_51, sh_52, sh_53, sh_54, sh_55, sh_56, sh_57, sh_58, sh_59, sh_60, sh_61, sh_62, sh_63, sh_64, sh_65, pk_mul, nI_add, nI_toInt, nI_clamp, pk_sub, nI_ltI, nI_leI, nI_eq, zge, zeq, zgt, zle, z0, one_I, bz0, bz1, bz2, bz3, bz4, bz5, Nat.add_zero, Nat.zero_add, nI_dec, nI_dec2, eqF, nn0, zltT, ltT, ltF, leT, leF, true_or, or_true, false_or, or_false, not_true_eq_false, false_implies, true_implies, and_false, false_and, ite_true, ite_false, if_true, if_false]
    simp only [does_at (e_X6_builtLevel (k := k) (n := F.length) hF (by omega)), r_call, r_callV, run_sq, sqQ_l, List.take_succ_cons, List.take_zero, List.take_nil, List.drop_succ_cons, List.drop_zero, List.drop_nil, List.reverse_cons, List.reverse_nil, List.nil_append, List.cons_append, List.append_nil]
    simp (disch := omega) only [run_sq, sqQ_l, sqQ_r, run_bk, bkQ_l, bkQ_0, bkQ_1, bkQ_2, bkQ_3, bkQ_r, rtQ_r, lpQ_l, lpQ_0, lpQ_1, lpQ_2, lpQ_r, r_push, r_iload, r_lload, r_aload, r_istore, r_lstore, r_astore, r_iinc, r_ib, r_ibz, r_lb, r_lbz, r_lsh, r_lcmp, r_i2l, r_l2i, r_dup, r_pop, r_dup2, r_br, r_nop, r_ifnull_r, r_ifnull_n, r_ifnonnull_r, r_ifnonnull_n, r_iret, r_zret, r_lret, r_aret_r, r_aret_n, r_vret, r_geti, r_getr, r_puti, r_putr, r_ald, r_ast, r_zst, r_lld, r_lst, r_qld, r_qst, r_alen, r_max, r_min, r_cpy, r_new, r_newa, r_oini, r_call, r_callV, r_callI, r_if_eq, r_icmp_eq, r_if_ne, r_icmp_ne, r_if_lt, r_icmp_lt, r_if_ge, r_icmp_ge, r_if_gt, r_icmp_gt, r_if_le, r_icmp_le, cat_i, cat_l, cat_r, cat_n, csum_0, csum_s, okst_0, okst_s, gD0, gDs, rv_s, rv_n, rcv_r, List.set_cons_zero, List.set_cons_succ, List.take_succ_cons, List.take_zero, List.take_nil, List.drop_succ_cons, List.drop_zero, List.drop_nil, List.reverse_cons, List.reverse_nil, List.nil_append, List.cons_append, List.append_nil, List.length_cons, List.length_nil, Option.toList_some, Option.toList_none, Value.int.injEq, Value.long.injEq, Value.ref.injEq, exists_eq_left, exists_eq_left', and_true, true_and, beq_self_eq_true, decide_eq_true_eq, not_false_eq_true, reduceCtorEq, argsL_0, argsL_i, argsL_r, argsL_l, locs_eq, List.replicate_succ, List.replicate_zero, rf_0_0, rf_0_1, rf_0_2, rf_0_3, rf_0_4, rf_0_5, rf_0_6, rf_0_7, rf_0_8, rf_0_10, rf_1_0, rf_1_1, rf_1_2, rf_1_3, rf_2_0, rf_2_1, rf_2_2, rf_2_3, rf_2_4, rf_2_5, rf_2_6, rf_2_9, rf_14_0, rf_14_1, rf_14_2, rf_14_3, rf_14_4, rf_14_5, rf_21_0, rf_21_1, rf_21_2, rf_21_3, rf_21_4, rf_21_5, rf_28_0, rf_28_1, rf_31_0, rf_32_0, rf_32_1, rf_32_2, rf_32_3, rf_32_4, rf_32_5, rf_33_0, rf_33_1, rf_36_0, rf_36_1, rf_39_0, rf_39_1, rf_42_0, rf_42_1, rf_45_0, rf_45_1, rf_48_0, rf_48_1, rf_55_0, rf_55_1, rf_55_2, rf_55_4, rf_55_5, rf_55_7, rf_55_8, rf_55_9, rf_55_10, rf_55_11, sh_0, sh_1, sh_2, sh_3, sh_4, sh_5, sh_6, sh_7, sh_8, sh_9, sh_10, sh_11, sh_12, sh_13, sh_14, sh_15, sh_16, sh_17, sh_18, sh_19, sh_20, sh_21, sh_22, sh_23, sh_24, sh_25, sh_26, sh_27, sh_28, sh_29, sh_30, sh_31, sh_32, sh_33, sh_34, sh_35, sh_36, sh_37, sh_38, sh_39, sh_40, sh_41, sh_42, sh_43, sh_44, sh_45, sh_46, sh_47, sh_48, sh_49, sh_50, sh_51, sh_52, sh_53, sh_54, sh_55, sh_56, sh_57, sh_58, sh_59, sh_60, sh_61, sh_62, sh_63, sh_64, sh_65, pk_mul, nI_add, nI_toInt, nI_clamp, pk_sub, nI_ltI, nI_leI, nI_eq, zge, zeq, zgt, zle, z0, one_I, bz0, bz1, bz2, bz3, bz4, bz5, Nat.add_zero, Nat.zero_add, nI_dec, nI_dec2, eqF, nn0, zltT, ltT, ltF, leT, leF, true_or, or_true, false_or, or_false, not_true_eq_false, false_implies, true_implies, and_false, false_and, ite_true, ite_false, if_true, if_false]
    rw [u2_cu, cu_cu, cu_s]
    exact ⟨F.length - (k + 1), by omega, k + 1, _, by omega, rfl, rfl, ho.upd (by omega) (by omega), hm.setlv (by omega)⟩
end BuildS
