def isV (v : Nat) : Prop := v = 14 ∨ v = 21
theorem vf_0 {v : Nat} (h : isV v) : rf0 v 0 = some (v + 1) := by rcases h with rfl | rfl <;> decide +kernel
theorem vf_1 {v : Nat} (h : isV v) : rf0 v 1 = some (v + 2) := by rcases h with rfl | rfl <;> decide +kernel
theorem vf_2 {v : Nat} (h : isV v) : rf0 v 2 = some (v + 3) := by rcases h with rfl | rfl <;> decide +kernel
theorem vf_3 {v : Nat} (h : isV v) : rf0 v 3 = some (v + 4) := by rcases h with rfl | rfl <;> decide +kernel
theorem vf_4 {v : Nat} (h : isV v) : rf0 v 4 = some (v + 5) := by rcases h with rfl | rfl <;> decide +kernel
theorem vf_5 {v : Nat} (h : isV v) : rf0 v 5 = some (v + 6) := by rcases h with rfl | rfl <;> decide +kernel
theorem vh_0 {v : Nat} (h : isV v) : sh v = (3, 8) := by rcases h with rfl | rfl <;> decide +kernel
theorem vh_1 {v : Nat} (h : isV v) : sh (v + 1) = (100, 400) := by rcases h with rfl | rfl <;> decide +kernel
theorem vh_2 {v : Nat} (h : isV v) : sh (v + 2) = (100, 400) := by rcases h with rfl | rfl <;> decide +kernel
theorem vh_3 {v : Nat} (h : isV v) : sh (v + 3) = (100, 400) := by rcases h with rfl | rfl <;> decide +kernel
theorem vh_4 {v : Nat} (h : isV v) : sh (v + 4) = (100, 400) := by rcases h with rfl | rfl <;> decide +kernel
theorem vh_5 {v : Nat} (h : isV v) : sh (v + 5) = (100, 400) := by rcases h with rfl | rfl <;> decide +kernel
theorem vh_6 {v : Nat} (h : isV v) : sh (v + 6) = (100, 400) := by rcases h with rfl | rfl <;> decide +kernel
theorem isV.lt {v : Nat} (h : isV v) : 14 ≤ v ∧ v ≤ 21 := by rcases h with rfl | rfl <;> decide
/-- only the view's own cells have changed -/
def Vf (v : Nat) (hi hi' : Nat → Nat → Int32) : Prop := ∀ c, (c < v ∨ v + 6 < c) → hi' c = hi c
theorem Vf.rf {v : Nat} {hi : Nat → Nat → Int32} : Vf v hi hi := fun _ _ => rfl
theorem Vf.tr {v : Nat} {a b c : Nat → Nat → Int32} (h1 : Vf v a b) (h2 : Vf v b c) : Vf v a c := fun k z => (h2 k z).trans (h1 k z)
theorem Vf.cu {v k : Nat} {a b : Nat → Nat → Int32} {f : Nat → Int32} (h : Vf v a b) (h1 : v ≤ k) (h2 : k ≤ v + 6) : Vf v a (cu b k f) := fun q hq => by rw [cu_n (by omega)]; exact h q hq
/-- the view v holds leaves of these sizes and levels, and these characters -/
def VP (A : Nat → Prop) (hi : Nat → Nat → Int32) (hl : Nat → Nat → Int64) (v : Nat) (F : List (Nat × Nat)) (C : List Nat) (L : List Tr) : Prop :=
  hi v 6 = nI C.length ∧ hi v 7 = nI F.length ∧ (∀ i, i < C.length → hi (v + 1) i = nI (C.getD i 0)) ∧ Lst A hi hl (v + 2) 0 L ∧ L.length = F.length ∧ sm F = C.length ∧ ∀ i, i < F.length → hi (v + 3) i = nI (sm (F.take i)) ∧ hi (v + 4) i = nI (F.getD i (0, 0)).2
section ViewS
variable {A : Nat → Prop} {hi hi' : Nat → Nat → Int32} {hl : Nat → Nat → Int64} {v : Nat}
theorem isT.vf {T : Tr} {n : Nat} (h : isT A hi hl T n) (vT : vt T) (hv : isV v) (f : Vf v hi hi') : isT A hi' hl T n := by
  have := hv.lt
  refine h.ext (fun k _ => ?_) (fun _ h => h) vT
  rw [f 3 (by omega), f 4 (by omega), f 5 (by omega), f 6 (by omega)]
  exact ⟨rfl, rfl, rfl, rfl, rfl, rfl⟩
theorem Lst.vf {c o : Nat} {l : List Tr} (h : Lst A hi hl c o l) (hok : leavesOk l) (hv : isV v) (f : Vf v hi hi') (e : hi' c = hi c) : Lst A hi' hl c o l := fun i T hT => by
  obtain ⟨x, x1, x2⟩ := h i T hT
  exact ⟨x, by rw [e]; exact x1, x2.vf (Or.inr (hok T (List.mem_of_getElem? hT)).1) hv f⟩
theorem p_addLeaf {Nx : Nat} {F : List (Nat × Nat)} {C D : List Nat} {L : List Tr} {x d : Nat} (hv : isV v) (h : VP A hi hl v F C L) (hok : leavesOk L) (d0 : D ≠ []) (d1 : D.length ≤ 16) (d2 : ∀ c ∈ D, c < 128) (hx : isT A hi hl (lf D) x) (hF : F.length < 400) (hC : C.length + D.length ≤ 400) :
    Does m_X3_addLeaf [.ref v, .ref 2, .int (nI x), .int (nI d)] (Nx + 55, hi, hl, rf0) (fun w h' => w = none ∧ ∃ hi', h' = (Nx + 55, hi', hl, rf0) ∧ Vf v hi hi' ∧ hi' (v + 5) = hi (v + 5) ∧ hi' (v + 6) = hi (v + 6) ∧ VP A hi' hl v (F ++ [(D.length, d)]) (C ++ D) (L ++ [lf D])) := by
  obtain ⟨h6, h7, hc, hL, hLl, hsm, hst⟩ := h
  have vlt := hv.lt
  have eD : len (lf D) = D.length := by unfold len; rw [ch_lf]
  obtain ⟨x1, x2, x3⟩ := ((isT_lf d0).mp hx).1
  have r0 := vf_0 hv
  have r1 := vf_1 hv
  have r2 := vf_2 hv
  have r3 := vf_3 hv
  have s0 := vh_0 hv
  have s1 := vh_1 hv
  have s2 := vh_2 hv
  have s3 := vh_3 hv
  have s4 := vh_4 hv
  refine does_of (by simp [argsL, Value.category]) ?_
  unfold b_X3_addLeaf
  simp (disch := omega) only [run_sq, sqQ_l, sqQ_r, run_bk, bkQ_l, bkQ_0, bkQ_1, bkQ_2, bkQ_3, bkQ_r, rtQ_r, lpQ_l, lpQ_0, lpQ_1, lpQ_2, lpQ_r, r_push, r_iload, r_lload, r_aload, r_istore, r_lstore, r_astore, r_iinc, r_ib, r_ibz, r_lb, r_lbz, r_lsh, r_lcmp, r_i2l, r_l2i, r_dup, r_pop, r_dup2, r_br, r_nop, r_ifnull_r, r_ifnull_n, r_ifnonnull_r, r_ifnonnull_n, r_iret, r_zret, r_lret, r_aret_r, r_aret_n, r_vret, r_geti, r_getr, r_puti, r_putr, r_ald, r_ast, r_zst, r_lld, r_lst, r_qld, r_qst, r_alen, r_max, r_min, r_cpy, r_new, r_newa, r_oini, r_call, r_callV, r_callI, r_if_eq, r_icmp_eq, r_if_ne, r_icmp_ne, r_if_lt, r_icmp_lt, r_if_ge, r_icmp_ge, r_if_gt, r_icmp_gt, r_if_le, r_icmp_le, cat_i, cat_l, cat_r, cat_n, csum_0, csum_s, okst_0, okst_s, gD0, gDs, rv_s, rv_n, rcv_r, List.set_cons_zero, List.set_cons_succ, List.take_succ_cons, List.take_zero, List.take_nil, List.drop_succ_cons, List.drop_zero, List.drop_nil, List.reverse_cons, List.reverse_nil, List.nil_append, List.cons_append, List.append_nil, List.length_cons, List.length_nil, Option.toList_some, Option.toList_none, Value.int.injEq, Value.long.injEq, Value.ref.injEq, exists_eq_left, exists_eq_left', and_true, true_and, beq_self_eq_true, decide_eq_true_eq, not_false_eq_true, reduceCtorEq, argsL_0, argsL_i, argsL_r, argsL_l, locs_eq, List.replicate_succ, List.replicate_zero, rf_0_0, rf_0_1, rf_0_2, rf_0_3, rf_0_4, rf_0_5, rf_0_6, rf_0_7, rf_0_8, rf_0_10, rf_1_0, rf_1_1, rf_1_2, rf_1_3, rf_2_0, rf_2_1, rf_2_2, rf_2_3, rf_2_4, rf_2_5, rf_2_6, rf_2_9, rf_14_0, rf_14_1, rf_14_2, rf_14_3, rf_14_4, rf_14_5, rf_21_0, rf_21_1, rf_21_2, rf_21_3, rf_21_4, rf_21_5, rf_28_0, rf_28_1, rf_31_0, rf_32_0, rf_32_1, rf_32_2, rf_32_3, rf_32_4, rf_32_5, rf_33_0, rf_33_1, rf_36_0, rf_36_1, rf_39_0, rf_39_1, rf_42_0, rf_42_1, rf_45_0, rf_45_1, rf_48_0, rf_48_1, sh_0, sh_1, sh_2, sh_3, sh_4, sh_5, sh_6, sh_7, sh_8, sh_9, sh_10, sh_11, sh_12, sh_13, sh_14, sh_15, sh_16, sh_17, sh_18, sh_19, sh_20, sh_21, sh_22, sh_23, sh_24, sh_25, sh_26, sh_27, sh_28, sh_29, sh_30, sh_31, sh_32, sh_33, sh_34, sh_35, sh_36, sh_37, sh_38, sh_39, sh_40, sh_41, sh_42, sh_43, sh_44, sh_45, sh_46, sh_47, sh_48, sh_49, sh_50, sh_51, sh_52, sh_53, sh_54, sh_55, pk_mul, nI_add, nI_toInt, nI_clamp, pk_sub, nI_ltI, nI_leI, nI_eq, zge, zeq, zgt, zle, z0, one_I, bz0, bz1, bz2, bz3, bz4, bz5, Nat.add_zero, Nat.zero_add, nI_dec, nI_dec2, eqF, nn0, zltT, ltT, ltF, leT, leF, true_or, or_true, false_or, or_false, not_true_eq_false, false_implies, true_implies, and_false, false_and, ite_true, ite_false, if_true, if_false, r0, r1, r2, r3, s0, s1, s2, s3, s4, h6, h7, u2_cu, cu_n, cu_s, upd_n]
  generalize eh : cu (cu (cu (cu hi (v + 2) (upd (hi (v + 2)) F.length (nI x))) (v + 3) (upd (hi (v + 3)) F.length (nI C.length))) (v + 4) (upd (hi (v + 4)) F.length (nI d))) v (upd (hi v) 7 (nI (F.length + 1))) = h1
  have f1 : Vf v hi h1 := by rw [← eh]; exact (((Vf.rf.cu (by omega) (by omega)).cu (by omega) (by omega)).cu (by omega) (by omega)).cu (by omega) (by omega)
  have g0 : h1 v = upd (hi v) 7 (nI (F.length + 1)) := by rw [← eh, cu_s]
  have g1 : h1 (v + 1) = hi (v + 1) := by rw [← eh, cu_n (by omega), cu_n (by omega), cu_n (by omega), cu_n (by omega)]
  have g2 : h1 (v + 2) = upd (hi (v + 2)) F.length (nI x) := by rw [← eh, cu_n (by omega), cu_n (by omega), cu_n (by omega), cu_s]
  have g3 : h1 (v + 3) = upd (hi (v + 3)) F.length (nI C.length) := by rw [← eh, cu_n (by omega), cu_n (by omega), cu_s]
  have g4 : h1 (v + 4) = upd (hi (v + 4)) F.length (nI d) := by rw [← eh, cu_n (by omega), cu_s]
  have g5 : h1 (v + 5) = hi (v + 5) := by rw [← eh, cu_n (by omega), cu_n (by omega), cu_n (by omega), cu_n (by omega)]
  have g6 : h1 (v + 6) = hi (v + 6) := by rw [← eh, cu_n (by omega), cu_n (by omega), cu_n (by omega), cu_n (by omega)]
  have vD : vt (lf D) := Or.inr (vn_lf d0 d1 d2)
  simp only [does_at (c_sizeOf vD (hx.vf vD hv f1)), eD, r_call, r_callV, run_sq, sqQ_l, List.take_succ_cons, List.take_zero, List.take_nil, List.drop_succ_cons, List.drop_zero, List.drop_nil, List.reverse_cons, List.reverse_nil, List.nil_append, List.cons_append, List.append_nil]
  simp (disch := omega) only [run_sq, sqQ_l, sqQ_r, run_bk, bkQ_l, bkQ_0, bkQ_1, bkQ_2, bkQ_3, bkQ_r, rtQ_r, lpQ_l, lpQ_0, lpQ_1, lpQ_2, lpQ_r, r_push, r_iload, r_lload, r_aload, r_istore, r_lstore, r_astore, r_iinc, r_ib, r_ibz, r_lb, r_lbz, r_lsh, r_lcmp, r_i2l, r_l2i, r_dup, r_pop, r_dup2, r_br, r_nop, r_ifnull_r, r_ifnull_n, r_ifnonnull_r, r_ifnonnull_n, r_iret, r_zret, r_lret, r_aret_r, r_aret_n, r_vret, r_geti, r_getr, r_puti, r_putr, r_ald, r_ast, r_zst, r_lld, r_lst, r_qld, r_qst, r_alen, r_max, r_min, r_cpy, r_new, r_newa, r_oini, r_call, r_callV, r_callI, r_if_eq, r_icmp_eq, r_if_ne, r_icmp_ne, r_if_lt, r_icmp_lt, r_if_ge, r_icmp_ge, r_if_gt, r_icmp_gt, r_if_le, r_icmp_le, cat_i, cat_l, cat_r, cat_n, csum_0, csum_s, okst_0, okst_s, gD0, gDs, rv_s, rv_n, rcv_r, List.set_cons_zero, List.set_cons_succ, List.take_succ_cons, List.take_zero, List.take_nil, List.drop_succ_cons, List.drop_zero, List.drop_nil, List.reverse_cons, List.reverse_nil, List.nil_append, List.cons_append, List.append_nil, List.length_cons, List.length_nil, Option.toList_some, Option.toList_none, Value.int.injEq, Value.long.injEq, Value.ref.injEq, exists_eq_left, exists_eq_left', and_true, true_and, beq_self_eq_true, decide_eq_true_eq, not_false_eq_true, reduceCtorEq, argsL_0, argsL_i, argsL_r, argsL_l, locs_eq, List.replicate_succ, List.replicate_zero, rf_0_0, rf_0_1, rf_0_2, rf_0_3, rf_0_4, rf_0_5, rf_0_6, rf_0_7, rf_0_8, rf_0_10, rf_1_0, rf_1_1, rf_1_2, rf_1_3, rf_2_0, rf_2_1, rf_2_2, rf_2_3, rf_2_4, rf_2_5, rf_2_6, rf_2_9, rf_14_0, rf_14_1, rf_14_2, rf_14_3, rf_14_4, rf_14_5, rf_21_0, rf_21_1, rf_21_2, rf_21_3, rf_21_4, rf_21_5, rf_28_0, rf_28_1, rf_31_0, rf_32_0, rf_32_1, rf_32_2, rf_32_3, rf_32_4, rf_32_5, rf_33_0, rf_33_1, rf_36_0, rf_36_1, rf_39_0, rf_39_1, rf_42_0, rf_42_1, rf_45_0, rf_45_1, rf_48_0, rf_48_1, sh_0, sh_1, sh_2, sh_3, sh_4, sh_5, sh_6, sh_7, sh_8, sh_9, sh_10, sh_11, sh_12, sh_13, sh_14, sh_15, sh_16, sh_17, sh_18, sh_19, sh_20, sh_21, sh_22, sh_23, sh_24, sh_25, sh_26, sh_27, sh_28, sh_29, sh_30, sh_31, sh_32, sh_33, sh_34, sh_35, sh_36, sh_37, sh_38, sh_39, sh_40, sh_41, sh_42, sh_43, sh_44, sh_45, sh_46, sh_47, sh_48, sh_49, sh_50, sh_51, sh_52, sh_53, sh_54, sh_55, pk_mul, nI_add, nI_toInt, nI_clamp, pk_sub, nI_ltI, nI_leI, nI_eq, zge, zeq, zgt, zle, z0, one_I, bz0, bz1, bz2, bz3, bz4, bz5, Nat.add_zero, Nat.zero_add, nI_dec, nI_dec2, eqF, nn0, zltT, ltT, ltF, leT, leF, true_or, or_true, false_or, or_false, not_true_eq_false, false_implies, true_implies, and_false, false_and, ite_true, ite_false, if_true, if_false]
  refine run_loop (fun w st => ∃ k g, k ≤ D.length ∧ w = D.length - k ∧ st = ([.ref v, .ref 2, .int (nI x), .int (nI d), .int (nI D.length), .int (nI k)], [], (Nx + 55, cu (cu h1 (v + 1) g) v (upd (h1 v) 6 (nI (C.length + k))), hl, rf0)) ∧ ∀ i, i < C.length + k → g i = nI ((C ++ D).getD i 0)) ?_ D.length _ ⟨0, h1 (v + 1), Nat.zero_le _, rfl, ?_, fun i hi0 => ?_⟩
  rotate_left
  · rw [cu_id, Nat.add_zero C.length]
    have : upd (h1 v) 6 (nI C.length) = h1 v := by
      funext j
      unfold upd
      split
      · next e => subst e; rw [g0, upd_n (by decide), h6]
      · rfl
    rw [this, cu_id]
  · rw [g1, hc i (by omega), List.getD_eq_getElem?_getD, List.getD_eq_getElem?_getD, List.getElem?_append_left (by omega)]
  rintro w st ⟨k, g, hk, rfl, rfl, hg⟩
  have f2 : Vf v hi (cu (cu h1 (v + 1) g) v (upd (h1 v) 6 (nI (C.length + k)))) := (f1.cu (by omega) (by omega)).cu (by omega) (by omega)
  simp (disch := omega) only [run_sq, sqQ_l, sqQ_r, run_bk, bkQ_l, bkQ_0, bkQ_1, bkQ_2, bkQ_3, bkQ_r, rtQ_r, lpQ_l, lpQ_0, lpQ_1, lpQ_2, lpQ_r, r_push, r_iload, r_lload, r_aload, r_istore, r_lstore, r_astore, r_iinc, r_ib, r_ibz, r_lb, r_lbz, r_lsh, r_lcmp, r_i2l, r_l2i, r_dup, r_pop, r_dup2, r_br, r_nop, r_ifnull_r, r_ifnull_n, r_ifnonnull_r, r_ifnonnull_n, r_iret, r_zret, r_lret, r_aret_r, r_aret_n, r_vret, r_geti, r_getr, r_puti, r_putr, r_ald, r_ast, r_zst, r_lld, r_lst, r_qld, r_qst, r_alen, r_max, r_min, r_cpy, r_new, r_newa, r_oini, r_call, r_callV, r_callI, r_if_eq, r_icmp_eq, r_if_ne, r_icmp_ne, r_if_lt, r_icmp_lt, r_if_ge, r_icmp_ge, r_if_gt, r_icmp_gt, r_if_le, r_icmp_le, cat_i, cat_l, cat_r, cat_n, csum_0, csum_s, okst_0, okst_s, gD0, gDs, rv_s, rv_n, rcv_r, List.set_cons_zero, List.set_cons_succ, List.take_succ_cons, List.take_zero, List.take_nil, List.drop_succ_cons, List.drop_zero, List.drop_nil, List.reverse_cons, List.reverse_nil, List.nil_append, List.cons_append, List.append_nil, List.length_cons, List.length_nil, Option.toList_some, Option.toList_none, Value.int.injEq, Value.long.injEq, Value.ref.injEq, exists_eq_left, exists_eq_left', and_true, true_and, beq_self_eq_true, decide_eq_true_eq, not_false_eq_true, reduceCtorEq, argsL_0, argsL_i, argsL_r, argsL_l, locs_eq, List.replicate_succ, List.replicate_zero, rf_0_0, rf_0_1, rf_0_2, rf_0_3, rf_0_4, rf_0_5, rf_0_6, rf_0_7, rf_0_8, rf_0_10, rf_1_0, rf_1_1, rf_1_2, rf_1_3, rf_2_0, rf_2_1, rf_2_2, rf_2_3, rf_2_4, rf_2_5, rf_2_6, rf_2_9, rf_14_0, rf_14_1, rf_14_2, rf_14_3, rf_14_4, rf_14_5, rf_21_0, rf_21_1, rf_21_2, rf_21_3, rf_21_4, rf_21_5, rf_28_0, rf_28_1, rf_31_0, rf_32_0, rf_32_1, rf_32_2, rf_32_3, rf_32_4, rf_32_5, rf_33_0, rf_33_1, rf_36_0, rf_36_1, rf_39_0, rf_39_1, rf_42_0, rf_42_1, rf_45_0, rf_45_1, rf_48_0, rf_48_1, sh_0, sh_1, sh_2, sh_3, sh_4, sh_5, sh_6, sh_7, sh_8, sh_9, sh_10, sh_11, sh_12, sh_13, sh_14, sh_15, sh_16, sh_17, sh_18, sh_19, sh_20, sh_21, sh_22, sh_23, sh_24, sh_25, sh_26, sh_27, sh_28, sh_29, sh_30, sh_31, sh_32, sh_33, sh_34, sh_35, sh_36, sh_37, sh_38, sh_39, sh_40, sh_41, sh_42, sh_43, sh_44, sh_45, sh_46, sh_47, sh_48, sh_49, sh_50, sh_51, sh_52, sh_53, sh_54, sh_55, pk_mul, nI_add, nI_toInt, nI_clamp, pk_sub, nI_ltI, nI_leI, nI_eq, zge, zeq, zgt, zle, z0, one_I, bz0, bz1, bz2, bz3, bz4, bz5, Nat.add_zero, Nat.zero_add, nI_dec, nI_dec2, eqF, nn0, zltT, ltT, ltF, leT, leF, true_or, or_true, false_or, or_false, not_true_eq_false, false_implies, true_implies, and_false, false_and, ite_true, ite_false, if_true, if_false, r0, s0, s1, cu_s, upd_s]
  refine ⟨fun hh => ?_, fun hh => ?_⟩
  · have : k = D.length := by omega
    subst this
    refine ⟨_, rfl, f2, by rw [cu_n (by omega), cu_n (by omega), g5], by rw [cu_n (by omega), cu_n (by omega), g6], ?_, ?_, fun i hi0 => ?_, ?_, by rw [List.length_append, List.length_append, hLl]; rfl, ?_, fun i hi0 => ?_⟩
    · rw [cu_s, upd_s, List.length_append]
    · rw [cu_s, upd_n (by decide), g0, upd_s, List.length_append]; rfl
    · rw [cu_n (by omega), cu_s]; exact hg i (by rw [List.length_append] at hi0; exact hi0)
    · intro i T hT
      rw [cu_n (by omega), cu_n (by omega), g2, Nat.zero_add]
      rcases Nat.lt_or_ge i L.length with z | z
      · rw [List.getElem?_append_left z] at hT
        obtain ⟨y, y1, y2⟩ := hL i T hT
        rw [Nat.zero_add] at y1
        exact ⟨y, by rw [upd_n (by omega)]; exact y1, y2.vf (Or.inr (hok T (List.mem_of_getElem? hT)).1) hv f2⟩
      · have hlt := (List.getElem?_eq_some_iff.mp hT).1
        rw [List.length_append, List.length_singleton] at hlt
        have : i = L.length := by omega
        subst this
        rw [List.getElem?_append_right (Nat.le_refl _), Nat.sub_self] at hT
        cases hT
        exact ⟨x, by rw [hLl, upd_s], hx.vf vD hv f2⟩
    · rw [sm_app, hsm, List.length_append]; rfl
    · rw [cu_n (by omega), cu_n (by omega), g3, cu_n (a := v + 4) (by omega), cu_n (a := v + 4) (by omega), g4]
      rw [List.length_append, List.length_singleton] at hi0
      rcases Nat.lt_or_ge i F.length with z | z
      · rw [upd_n (by omega), upd_n (by omega), List.take_append_of_le_length (by omega), List.getD_eq_getElem?_getD, List.getElem?_append_left z, ← List.getD_eq_getElem?_getD]
        exact hst i z
      · have : i = F.length := by omega
        subst this
        rw [upd_s, upd_s, List.take_left, hsm, List.getD_eq_getElem?_getD, List.getElem?_append_right (Nat.le_refl _), Nat.sub_self]
        exact ⟨rfl, rfl⟩
  · simp only [does_at (c_codeLf d0 d1 d2 (hx.vf vD hv f2) (show k < D.length by omega)), r_call, r_callV, run_sq, sqQ_l, List.take_succ_cons, List.take_zero, List.take_nil, List.drop_succ_cons, List.drop_zero, List.drop_nil, List.reverse_cons, List.reverse_nil, List.nil_append, List.cons_append, List.append_nil]
    simp (disch := omega) only [run_sq, sqQ_l, sqQ_r, run_bk, bkQ_l, bkQ_0, bkQ_1, bkQ_2, bkQ_3, bkQ_r, rtQ_r, lpQ_l, lpQ_0, lpQ_1, lpQ_2, lpQ_r, r_push, r_iload, r_lload, r_aload, r_istore, r_lstore, r_astore, r_iinc, r_ib, r_ibz, r_lb, r_lbz, r_lsh, r_lcmp, r_i2l, r_l2i, r_dup, r_pop, r_dup2, r_br, r_nop, r_ifnull_r, r_ifnull_n, r_ifnonnull_r, r_ifnonnull_n, r_iret, r_zret, r_lret, r_aret_r, r_aret_n, r_vret, r_geti, r_getr, r_puti, r_putr, r_ald, r_ast, r_zst, r_lld, r_lst, r_qld, r_qst, r_alen, r_max, r_min, r_cpy, r_new, r_newa, r_oini, r_call, r_callV, r_callI, r_if_eq, r_icmp_eq, r_if_ne, r_icmp_ne, r_if_lt, r_icmp_lt, r_if_ge, r_icmp_ge, r_if_gt, r_icmp_gt, r_if_le, r_icmp_le, cat_i, cat_l, cat_r, cat_n, csum_0, csum_s, okst_0, okst_s, gD0, gDs, rv_s, rv_n, rcv_r, List.set_cons_zero, List.set_cons_succ, List.take_succ_cons, List.take_zero, List.take_nil, List.drop_succ_cons, List.drop_zero, List.drop_nil, List.reverse_cons, List.reverse_nil, List.nil_append, List.cons_append, List.append_nil, List.length_cons, List.length_nil, Option.toList_some, Option.toList_none, Value.int.injEq, Value.long.injEq, Value.ref.injEq, exists_eq_left, exists_eq_left', and_true, true_and, beq_self_eq_true, decide_eq_true_eq, not_false_eq_true, reduceCtorEq, argsL_0, argsL_i, argsL_r, argsL_l, locs_eq, List.replicate_succ, List.replicate_zero, rf_0_0, rf_0_1, rf_0_2, rf_0_3, rf_0_4, rf_0_5, rf_0_6, rf_0_7, rf_0_8, rf_0_10, rf_1_0, rf_1_1, rf_1_2, rf_1_3, rf_2_0, rf_2_1, rf_2_2, rf_2_3, rf_2_4, rf_2_5, rf_2_6, rf_2_9, rf_14_0, rf_14_1, rf_14_2, rf_14_3, rf_14_4, rf_14_5, rf_21_0, rf_21_1, rf_21_2, rf_21_3, rf_21_4, rf_21_5, rf_28_0, rf_28_1, rf_31_0, rf_32_0, rf_32_1, rf_32_2, rf_32_3, rf_32_4, rf_32_5, rf_33_0, rf_33_1, rf_36_0, rf_36_1, rf_39_0, rf_39_1, rf_42_0, rf_42_1, rf_45_0, rf_45_1, rf_48_0, rf_48_1, sh_0, sh_1, sh_2, sh_3, sh_4, sh_5, sh_6, sh_7, sh_8, sh_9, sh_10, sh_11, sh_12, sh_13, sh_14, sh_15, sh_16, sh_17, sh_18, sh_19, sh_20, sh_21, sh_22, sh_23, sh_24, sh_25, sh_26, sh_27, sh_28, sh_29, sh_30, sh_31, sh_32, sh_33, sh_34, sh_35, sh_36, sh_37, sh_38, sh_39, sh_40, sh_41, sh_42, sh_43, sh_44, sh_45, sh_46, sh_47, sh_48, sh_49, sh_50, sh_51, sh_52, sh_53, sh_54, sh_55, pk_mul, nI_add, nI_toInt, nI_clamp, pk_sub, nI_ltI, nI_leI, nI_eq, zge, zeq, zgt, zle, z0, one_I, bz0, bz1, bz2, bz3, bz4, bz5, Nat.add_zero, Nat.zero_add, nI_dec, nI_dec2, eqF, nn0, zltT, ltT, ltF, leT, leF, true_or, or_true, false_or, or_false, not_true_eq_false, false_implies, true_implies, and_false, false_and, ite_true, ite_false, if_true, if_false, r0, s0, s1, cu_s, upd_s, u2_cu, cu_n]
    refine ⟨D.length - (k + 1), by omega, k + 1, upd g (C.length + k) (nI (D.getD k 0)), by omega, rfl, ?_, fun i hi0 => ?_⟩
    · have e1 : upd (upd (h1 v) 6 (nI (C.length + k))) 6 (nI (C.length + k + 1)) = upd (h1 v) 6 (nI (C.length + (k + 1))) := by funext j; unfold upd; split <;> simp_all [Nat.add_assoc]
      have e2 : cu (cu (cu (cu h1 (v + 1) g) v (upd (h1 v) 6 (nI (C.length + k)))) (v + 1) (upd g (C.length + k) (nI (D.getD k 0)))) v (upd (h1 v) 6 (nI (C.length + (k + 1)))) = cu (cu h1 (v + 1) (upd g (C.length + k) (nI (D.getD k 0)))) v (upd (h1 v) 6 (nI (C.length + (k + 1)))) := by
        rw [cu_comm (k := v) (q := v + 1) (by omega), cu_cu, cu_cu]
      rw [e1, e2]
    · rcases Nat.lt_or_ge i (C.length + k) with z | z
      · rw [upd_n (by omega)]; exact hg i z
      · have : i = C.length + k := by omega
        subst this
        rw [upd_s, List.getD_eq_getElem?_getD, List.getD_eq_getElem?_getD, List.getElem?_append_right (by omega), Nat.add_sub_cancel_left]
end ViewS

