section SaveS
variable {hi hi' h2 : Nat → Nat → Int32} {hl hl' l2 : Nat → Nat → Int64} {a a' a2 m o : Nat} {σ τ : Sa} {H : List Sa} {V : Nat → Option Tr} {B : List Nat} {S : St} {A : Nat → Prop} {c d : Nat}
/-- the node rows are as they were -/
def Nr (hi hi' : Nat → Nat → Int32) : Prop := hi' 3 = hi 3 ∧ hi' 4 = hi 4 ∧ hi' 5 = hi 5 ∧ hi' 6 = hi 6 ∧ hi' 9 = hi 9
theorem Nr.ns (h : Nr hi hi') : NS A hi hi' hl hl := fun k _ => by
  obtain ⟨h3, h4, h5, h6, h9⟩ := h
  rw [h3, h4, h5, h6]
  exact ⟨rfl, rfl, rfl, rfl, rfl, rfl⟩
theorem ST.keep (h : ST hi hl A c σ) (hv : SV σ) (n : Nr hi hi') (e0 : hi' c = hi c) (e1 : hi' (c + 1) = hi (c + 1)) (e2 : hi' (c + 2) = hi (c + 2)) : ST hi' hl A c σ := by
  obtain ⟨T, ring, rc, mks, s, bal, bd⟩ := σ
  obtain ⟨h2, h3, h4, h6, hm, ⟨k, hk, hT⟩, hr⟩ := h
  obtain ⟨v1, v2, v3, v4, v5, v6⟩ := hv
  unfold ST
  rw [e0, e1, e2]
  refine ⟨h2, h3, h4, h6, hm, ⟨k, hk, hT.ext n.ns (fun _ h => h) v1⟩, fun i hi0 => ?_⟩
  obtain ⟨j, j1, j2⟩ := hr i hi0
  exact ⟨j, j1, j2.ext n.ns (fun _ h => h) (v3 i (by omega)).1⟩
theorem CP.nr (h : CP c d hi hi') (hc : isC c) : Nr hi hi' := by
  have := hc.lt
  exact ⟨h.1 3 (by omega) (by omega) (by omega), h.1 4 (by omega) (by omega) (by omega), h.1 5 (by omega) (by omega) (by omega), h.1 6 (by omega) (by omega) (by omega), h.1 9 (by omega) (by omega) (by omega)⟩
theorem ST.cp (h : ST hi hl A d σ) (hv : SV σ) (hc : isC c) (p : CP c d hi hi') : ST hi' hl A c σ := by
  have n : Nr hi hi' := p.nr hc
  obtain ⟨p0, p1, p2, p3, p4, p5, p6, p7⟩ := p
  obtain ⟨T, ring, rc, mks, s, bal, bd⟩ := σ
  obtain ⟨h2, h3, h4, h6, hm, ⟨k, hk, hT⟩, hr⟩ := h
  obtain ⟨v1, v2, v3, v4, v5, v6⟩ := hv
  refine ⟨p3.trans h2, p4.trans h3, p5.trans h4, p7.trans h6, fun i h => (p1 i h).trans (hm i h), ⟨k, p6.trans hk, hT.ext n.ns (fun _ h => h) v1⟩, fun i hi0 => ?_⟩
  obtain ⟨j, j1, j2⟩ := hr i hi0
  exact ⟨j, (p2 i (by omega)).trans j1, j2.ext n.ns (fun _ h => h) (v3 i (by omega)).1⟩
theorem rgL.cp {rc : Nat} (h : hi d 2 = nI rc) (h4 : rc ≤ 4) (p : CP c d hi hi') : rgL hi' c = rgL hi d := by
  obtain ⟨p0, p1, p2, p3, -⟩ := p
  unfold rgL
  rw [p3, h, iN_nI (by omega)]
  refine List.map_congr_left fun i hi0 => ?_
  rw [List.mem_range] at hi0
  exact p2 i (by omega)
theorem VS.keep {v : Nat} {o : Option Tr} (h : VS hi hl A v o) (hv : ∀ T, o = some T → vt T) (n : Nr hi hi') (e1 : hi' 51 = hi 51) (e2 : hi' 52 = hi 52) : VS hi' hl A v o := by
  cases o with
  | none => exact ⟨by rw [e2]; exact h.1, by rw [e1]; exact h.2⟩
  | some T =>
    obtain ⟨h1, k, h2, h3⟩ := h
    exact ⟨by rw [e2]; exact h1, k, by rw [e1]; exact h2, h3.ext n.ns (fun _ h => h) (hv T rfl)⟩
/-- saving and restoring change these cells alone -/
def Hf (hi hi' : Nat → Nat → Int32) : Prop := ∀ q, q < 31 ∨ 51 ≤ q → hi' q = hi q
/-- the last saved state has the ring of now -/
def SL (hi : Nat → Nat → Int32) (o n : Nat) : Prop := 1 ≤ n ∧ rgL hi (slo6 o (n - 1)) = rgL hi 28
/-- the oldest saved state is dropped -/
theorem RCo.drop1 (h : RCo hi hl a o (σ, H, V, B)) (hv : VV (σ, H, V, B)) (h0 : H.length = 6) (e : ∀ q, q ≠ 31 → hi' q = hi q) (e1 : hi' 31 1 = nI ((o + 1) % 6)) (e2 : hi' 31 2 = nI 5) : RCo hi' hl a ((o + 1) % 6) (σ, H.drop 1, V, B) := by
  obtain ⟨h1, h2, h3, h4, h5, h6, h7, h8, h9⟩ := h
  obtain ⟨v1, v2, v3, v4, v5, v6⟩ := hv
  have n : Nr hi hi' := ⟨e 3 (by decide), e 4 (by decide), e 5 (by decide), e 6 (by decide), e 9 (by decide)⟩
  have hd : (H.drop 1).length = 5 := by rw [List.length_drop, h0]
  have es : ∀ i, slo6 ((o + 1) % 6) i = slo6 o (i + 1) := fun i => by unfold slo6; omega
  have sl : ∀ i, 33 ≤ slo6 o i := fun i => Nat.le_add_right _ _
  have er : ∀ c, isC c → rgL hi' c = rgL hi c := fun c hc => by
    have := hc.lt
    have c3 : c % 3 = 0 ∨ c = 28 := by rcases hc with rfl | ⟨i, _, rfl⟩ <;> omega
    exact rgL.eq (e c (by omega)) (e (c + 2) (by omega))
  refine ⟨Nat.mod_lt _ (by decide), e1, by rw [hd]; exact e2, ?_, fun i τ hτ => ?_, fun v hv => ?_, by rw [e 0 (by decide)]; exact h7, by rw [e 53 (by decide)]; exact h8, fun i hi0 => ?_⟩
  · rw [n.2.2.2.2]; exact h4.keep v1 n (e 28 (by decide)) (e 29 (by decide)) (e 30 (by decide))
  · rw [n.2.2.2.2, es]
    have hτ' : H[i + 1]? = some τ := by rw [List.getElem?_drop] at hτ; rw [Nat.add_comm]; exact hτ
    have s3 : slo6 o (i + 1) % 3 = 0 := by unfold slo6; omega
    exact (h5 (i + 1) τ hτ').keep (v2 τ (List.mem_of_getElem? hτ')) n (e _ (by have := sl (i + 1); omega)) (e _ (by have := sl (i + 1); omega)) (e _ (by have := sl (i + 1); omega))
  · rw [n.2.2.2.2]; exact (h6 v hv).keep (fun T e => (v4 v T e).1) n (e 51 (by decide)) (e 52 (by decide))
  · rw [hd] at hi0 ⊢
    rw [er _ slo6_C, er _ (by split; exact slo6_C; exact isC.n), es, es]
    have := h9 (i + 1) (by omega)
    rw [h0] at this
    by_cases q : i + 1 < 5
    · rw [if_pos q]; rw [if_pos (by omega)] at this; exact this
    · rw [if_neg q]; rw [if_neg (by omega)] at this; exact this
/-- the state is put behind the saved ones -/
theorem RCo.push1 {h1' : Nat → Nat → Int32} (h : RCo hi hl a o (σ, H, V, B)) (hv : VV (σ, H, V, B)) (h0 : H.length ≤ 5) (p : CP (slo6 o H.length) 28 hi h1') (e : ∀ q, q ≠ 31 → hi' q = h1' q) (e1 : hi' 31 1 = nI o) (e2 : hi' 31 2 = nI (H.length + 1)) : RCo hi' hl a o (σ, H ++ [σ], V, B) ∧ SL hi' o (H.length + 1) ∧ Hf hi hi' := by
  obtain ⟨h1, h2, h3, h4, h5, h6, h7, h8, h9⟩ := h
  obtain ⟨v1, v2, v3, v4, v5, v6⟩ := hv
  have n1 := p.nr slo6_C
  have dl : 33 ≤ slo6 o H.length ∧ slo6 o H.length ≤ 48 := by unfold slo6; omega
  have d3 : slo6 o H.length % 3 = 0 := by unfold slo6; omega
  have n : Nr hi hi' := ⟨(e 3 (by decide)).trans n1.1, (e 4 (by decide)).trans n1.2.1, (e 5 (by decide)).trans n1.2.2.1, (e 6 (by decide)).trans n1.2.2.2.1, (e 9 (by decide)).trans n1.2.2.2.2⟩
  have n2 : Nr h1' hi' := ⟨e 3 (by decide), e 4 (by decide), e 5 (by decide), e 6 (by decide), e 9 (by decide)⟩
  have ek : ∀ q, q ≠ 31 → q ≠ slo6 o H.length → q ≠ slo6 o H.length + 1 → q ≠ slo6 o H.length + 2 → hi' q = hi q := fun q a1 a2 a3 a4 => (e q a1).trans (p.1 q a2 a3 a4)
  have rc4 : ∃ rc, hi 28 2 = nI rc ∧ rc ≤ 4 := by
    obtain ⟨T, ring, rc, mks, s, bal, bd⟩ := σ
    exact ⟨rc, h4.1, v1.2.2.2.1⟩
  obtain ⟨rc, rc1, rc2⟩ := rc4
  have rn : rgL hi' (slo6 o H.length) = rgL hi 28 := by
    rw [← rgL.cp rc1 rc2 p]
    exact rgL.eq (e _ (by omega)) (e _ (by omega))
  have r28 : rgL hi' 28 = rgL hi 28 := rgL.eq (ek 28 (by decide) (by omega) (by omega) (by omega)) (ek 30 (by decide) (by omega) (by omega) (by omega))
  have old : ∀ i, i < H.length → rgL hi' (slo6 o i) = rgL hi (slo6 o i) := fun i hi0 => by
    have s1 : slo6 o i ≠ slo6 o H.length := by unfold slo6; omega
    have s3 : slo6 o i % 3 = 0 ∧ 33 ≤ slo6 o i := by unfold slo6; omega
    exact rgL.eq (ek _ (by omega) (by omega) (by omega) (by omega)) (ek _ (by omega) (by omega) (by omega) (by omega))
  have hlen : (H ++ [σ]).length = H.length + 1 := by rw [List.length_append, List.length_singleton]
  refine ⟨⟨h1, e1, by rw [hlen]; exact e2, ?_, fun i τ hτ => ?_, fun v hv => ?_, by rw [ek 0 (by decide) (by omega) (by omega) (by omega)]; exact h7, by rw [ek 53 (by decide) (by omega) (by omega) (by omega)]; exact h8, fun i hi0 => ?_⟩, ⟨by omega, by rw [Nat.add_sub_cancel, rn, r28]⟩, fun q hq => ek q (by omega) (by omega) (by omega) (by omega)⟩
  · rw [n.2.2.2.2]; exact h4.keep v1 n (ek 28 (by decide) (by omega) (by omega) (by omega)) (ek 29 (by decide) (by omega) (by omega) (by omega)) (ek 30 (by decide) (by omega) (by omega) (by omega))
  · rw [n.2.2.2.2]
    rcases Nat.lt_or_ge i H.length with z | z
    · rw [List.getElem?_append_left z] at hτ
      have s1 : slo6 o i ≠ slo6 o H.length := by unfold slo6; omega
      have s3 : slo6 o i % 3 = 0 ∧ 33 ≤ slo6 o i := by unfold slo6; omega
      exact (h5 i τ hτ).keep (v2 τ (List.mem_of_getElem? hτ)) n (ek _ (by omega) (by omega) (by omega) (by omega)) (ek _ (by omega) (by omega) (by omega) (by omega)) (ek _ (by omega) (by omega) (by omega) (by omega))
    · have hlt := (List.getElem?_eq_some_iff.mp hτ).1
      rw [hlen] at hlt
      have : i = H.length := by omega
      subst this
      rw [List.getElem?_append_right (Nat.le_refl _), Nat.sub_self] at hτ
      cases hτ
      exact (h4.cp v1 slo6_C p).keep v1 n2 (e _ (by omega)) (e _ (by omega)) (e _ (by omega))
  · rw [n.2.2.2.2]; exact (h6 v hv).keep (fun T e => (v4 v T e).1) n (ek 51 (by decide) (by omega) (by omega) (by omega)) (ek 52 (by decide) (by omega) (by omega) (by omega))
  · rw [hlen] at hi0 ⊢
    rcases Nat.lt_or_ge i H.length with z | z
    · rw [old i z]
      have := h9 i z
      by_cases q : i + 1 < H.length
      · rw [if_pos (by omega), old _ q]; rw [if_pos q] at this; exact this
      · rw [if_pos (by omega), show i + 1 = H.length by omega, rn]; rw [if_neg q] at this; exact this
    · rw [if_neg (by omega), show i = H.length by omega, rn, r28]
      exact Or.inl rfl
theorem p_save {Nx : Nat} (h : RCo hi hl a o (σ, H, V, B)) (hv : VV (σ, H, V, B)) : Does m_X0_save [.ref 31, .ref 28] (Nx + 55, hi, hl, rf0) (fun v h' => v = none ∧ ∃ hi' o', h' = (Nx + 55, hi', hl, rf0) ∧ RCo hi' hl a o' (σ, savO H σ, V, B) ∧ SL hi' o' (savO H σ).length ∧ Hf hi hi') := by
  obtain ⟨ho, w1, w2, -⟩ := id h
  have h6 := hv.2.2.1
  refine does_of (by simp [argsL, Value.category]) ?_
  unfold b_X0_save
  by_cases q : H.length = 6
  · have hm : (o + 1) % 6 < 6 := Nat.mod_lt _ (by decide)
    rw [q] at w2
    simp (disch := omega) only [run_sq, sqQ_l, sqQ_r, run_bk, bkQ_l, bkQ_0, bkQ_1, bkQ_2, bkQ_3, bkQ_r, rtQ_r, lpQ_l, lpQ_0, lpQ_1, lpQ_2, lpQ_r, r_push, r_iload, r_lload, r_aload, r_istore, r_lstore, r_astore, r_iinc, r_ib, r_ibz, r_lb, r_lbz, r_lsh, r_lcmp, r_i2l, r_l2i, r_dup, r_pop, r_dup2, r_br, r_nop, r_ifnull_r, r_ifnull_n, r_ifnonnull_r, r_ifnonnull_n, r_iret, r_zret, r_lret, r_aret_r, r_aret_n, r_vret, r_geti, r_getr, r_puti, r_putr, r_ald, r_ast, r_zst, r_lld, r_lst, r_qld, r_qst, r_alen, r_max, r_min, r_cpy, r_new, r_newa, r_oini, r_call, r_callV, r_callI, r_if_eq, r_icmp_eq, r_if_ne, r_icmp_ne, r_if_lt, r_icmp_lt, r_if_ge, r_icmp_ge, r_if_gt, r_icmp_gt, r_if_le, r_icmp_le, cat_i, cat_l, cat_r, cat_n, csum_0, csum_s, okst_0, okst_s, gD0, gDs, rv_s, rv_n, rcv_r, List.set_cons_zero, List.set_cons_succ, List.take_succ_cons, List.take_zero, List.take_nil, List.drop_succ_cons, List.drop_zero, List.drop_nil, List.reverse_cons, List.reverse_nil, List.nil_append, List.cons_append, List.append_nil, List.length_cons, List.length_nil, Option.toList_some, Option.toList_none, Value.int.injEq, Value.long.injEq, Value.ref.injEq, exists_eq_left, exists_eq_left', and_true, true_and, beq_self_eq_true, decide_eq_true_eq, not_false_eq_true, reduceCtorEq, argsL_0, argsL_i, argsL_r, argsL_l, locs_eq, List.replicate_succ, List.replicate_zero, rf_0_0, rf_0_1, rf_0_2, rf_0_3, rf_0_4, rf_0_5, rf_0_6, rf_0_7, rf_0_8, rf_0_10, rf_1_0, rf_1_1, rf_1_2, rf_1_3, rf_2_0, rf_2_1, rf_2_2, rf_2_3, rf_2_4, rf_2_5, rf_2_6, rf_2_9, rf_14_0, rf_14_1, rf_14_2, rf_14_3, rf_14_4, rf_14_5, rf_21_0, rf_21_1, rf_21_2, rf_21_3, rf_21_4, rf_21_5, rf_28_0, rf_28_1, rf_31_0, rf_32_0, rf_32_1, rf_32_2, rf_32_3, rf_32_4, rf_32_5, rf_33_0, rf_33_1, rf_36_0, rf_36_1, rf_39_0, rf_39_1, rf_42_0, rf_42_1, rf_45_0, rf_45_1, rf_48_0, rf_48_1, sh_0, sh_1, sh_2, sh_3, sh_4, sh_5, sh_6, sh_7, sh_8, sh_9, sh_10, sh_11, sh_12, sh_13, sh_14, sh_15, sh_16, sh_17, sh_18, sh_19, sh_20, sh_21, sh_22, sh_23, sh_24, sh_25, sh_26, sh_27, sh_28, sh_29, sh_30, sh_31, sh_32, sh_33, sh_34, sh_35, sh_36, sh_37, sh_38, sh_39, sh_40, sh_41, sh_42, sh_43, sh_44, sh_45, sh_46, sh_47, sh_48, sh_49, sh_50, sh_51, sh_52, sh_53, sh_54, sh_55, pk_mul, nI_add, nI_toInt, nI_clamp, pk_sub, nI_ltI, nI_leI, nI_eq, zge, zeq, zgt, zle, z0, one_I, bz0, bz1, bz2, bz3, bz4, bz5, Nat.add_zero, Nat.zero_add, nI_dec, nI_dec2, eqF, nn0, zltT, ltT, ltF, leT, leF, true_or, or_true, false_or, or_false, not_true_eq_false, false_implies, true_implies, and_false, false_and, ite_true, ite_false, if_true, if_false, w1, w2, nI_rem, u2_cu, cu_s, cu_cu, upd_s, upd_n]
    have D := h.drop1 (hi' := cu hi 31 (upd (upd (hi 31) 1 (nI ((o + 1) % 6))) 2 (nI (6 - 1)))) hv q (fun q hq => cu_n hq) (by rw [cu_s, upd_n (by decide), upd_s]) (by rw [cu_s, upd_s])
    have hvD : VV (σ, H.drop 1, V, B) := ⟨hv.1, fun τ hτ => hv.2.1 τ (List.mem_of_mem_drop hτ), by rw [List.length_drop]; omega, hv.2.2.2⟩
    have hd : (H.drop 1).length = 5 := by rw [List.length_drop, q]
    simp only [does_at (c_savedState (hi := cu hi 31 (upd (upd (hi 31) 1 (nI ((o + 1) % 6))) 2 (nI (6 - 1)))) (hl := hl) (k := 6 - 1) hm (by decide) (by rw [cu_s, upd_n (by decide), upd_s])), r_call, r_callV, run_sq, sqQ_l, List.take_succ_cons, List.take_zero, List.take_nil, List.drop_succ_cons, List.drop_zero, List.drop_nil, List.reverse_cons, List.reverse_nil, List.nil_append, List.cons_append, List.append_nil]
    simp (disch := omega) only [run_sq, sqQ_l, sqQ_r, run_bk, bkQ_l, bkQ_0, bkQ_1, bkQ_2, bkQ_3, bkQ_r, rtQ_r, lpQ_l, lpQ_0, lpQ_1, lpQ_2, lpQ_r, r_push, r_iload, r_lload, r_aload, r_istore, r_lstore, r_astore, r_iinc, r_ib, r_ibz, r_lb, r_lbz, r_lsh, r_lcmp, r_i2l, r_l2i, r_dup, r_pop, r_dup2, r_br, r_nop, r_ifnull_r, r_ifnull_n, r_ifnonnull_r, r_ifnonnull_n, r_iret, r_zret, r_lret, r_aret_r, r_aret_n, r_vret, r_geti, r_getr, r_puti, r_putr, r_ald, r_ast, r_zst, r_lld, r_lst, r_qld, r_qst, r_alen, r_max, r_min, r_cpy, r_new, r_newa, r_oini, r_call, r_callV, r_callI, r_if_eq, r_icmp_eq, r_if_ne, r_icmp_ne, r_if_lt, r_icmp_lt, r_if_ge, r_icmp_ge, r_if_gt, r_icmp_gt, r_if_le, r_icmp_le, cat_i, cat_l, cat_r, cat_n, csum_0, csum_s, okst_0, okst_s, gD0, gDs, rv_s, rv_n, rcv_r, List.set_cons_zero, List.set_cons_succ, List.take_succ_cons, List.take_zero, List.take_nil, List.drop_succ_cons, List.drop_zero, List.drop_nil, List.reverse_cons, List.reverse_nil, List.nil_append, List.cons_append, List.append_nil, List.length_cons, List.length_nil, Option.toList_some, Option.toList_none, Value.int.injEq, Value.long.injEq, Value.ref.injEq, exists_eq_left, exists_eq_left', and_true, true_and, beq_self_eq_true, decide_eq_true_eq, not_false_eq_true, reduceCtorEq, argsL_0, argsL_i, argsL_r, argsL_l, locs_eq, List.replicate_succ, List.replicate_zero, rf_0_0, rf_0_1, rf_0_2, rf_0_3, rf_0_4, rf_0_5, rf_0_6, rf_0_7, rf_0_8, rf_0_10, rf_1_0, rf_1_1, rf_1_2, rf_1_3, rf_2_0, rf_2_1, rf_2_2, rf_2_3, rf_2_4, rf_2_5, rf_2_6, rf_2_9, rf_14_0, rf_14_1, rf_14_2, rf_14_3, rf_14_4, rf_14_5, rf_21_0, rf_21_1, rf_21_2, rf_21_3, rf_21_4, rf_21_5, rf_28_0, rf_28_1, rf_31_0, rf_32_0, rf_32_1, rf_32_2, rf_32_3, rf_32_4, rf_32_5, rf_33_0, rf_33_1, rf_36_0, rf_36_1, rf_39_0, rf_39_1, rf_42_0, rf_42_1, rf_45_0, rf_45_1, rf_48_0, rf_48_1, sh_0, sh_1, sh_2, sh_3, sh_4, sh_5, sh_6, sh_7, sh_8, sh_9, sh_10, sh_11, sh_12, sh_13, sh_14, sh_15, sh_16, sh_17, sh_18, sh_19, sh_20, sh_21, sh_22, sh_23, sh_24, sh_25, sh_26, sh_27, sh_28, sh_29, sh_30, sh_31, sh_32, sh_33, sh_34, sh_35, sh_36, sh_37, sh_38, sh_39, sh_40, sh_41, sh_42, sh_43, sh_44, sh_45, sh_46, sh_47, sh_48, sh_49, sh_50, sh_51, sh_52, sh_53, sh_54, sh_55, pk_mul, nI_add, nI_toInt, nI_clamp, pk_sub, nI_ltI, nI_leI, nI_eq, zge, zeq, zgt, zle, z0, one_I, bz0, bz1, bz2, bz3, bz4, bz5, Nat.add_zero, Nat.zero_add, nI_dec, nI_dec2, eqF, nn0, zltT, ltT, ltF, leT, leF, true_or, or_true, false_or, or_false, not_true_eq_false, false_implies, true_implies, and_false, false_and, ite_true, ite_false, if_true, if_false]
    refine ⟨congrArg Prod.fst (isC.h0 (c := slo6 ((o + 1) % 6) 5) slo6_C), does_mono (p_takeFrom (hi := cu hi 31 (upd (upd (hi 31) 1 (nI ((o + 1) % 6))) 2 (nI (6 - 1)))) (hl := hl) (c := slo6 ((o + 1) % 6) 5) (d := 28) slo6_C isC.n (by unfold slo6; omega)) ?_⟩
    rintro v h' ⟨rfl, h1', rfl, cp⟩
    have e31 : h1' 31 2 = nI 5 := by rw [cp.1 31 (by unfold slo6; omega) (by unfold slo6; omega) (by unfold slo6; omega), cu_s, upd_s]
    have e31b : h1' 31 1 = nI ((o + 1) % 6) := by rw [cp.1 31 (by unfold slo6; omega) (by unfold slo6; omega) (by unfold slo6; omega), cu_s, upd_n (by decide), upd_s]
    simp (disch := omega) only [run_sq, sqQ_l, sqQ_r, run_bk, bkQ_l, bkQ_0, bkQ_1, bkQ_2, bkQ_3, bkQ_r, rtQ_r, lpQ_l, lpQ_0, lpQ_1, lpQ_2, lpQ_r, r_push, r_iload, r_lload, r_aload, r_istore, r_lstore, r_astore, r_iinc, r_ib, r_ibz, r_lb, r_lbz, r_lsh, r_lcmp, r_i2l, r_l2i, r_dup, r_pop, r_dup2, r_br, r_nop, r_ifnull_r, r_ifnull_n, r_ifnonnull_r, r_ifnonnull_n, r_iret, r_zret, r_lret, r_aret_r, r_aret_n, r_vret, r_geti, r_getr, r_puti, r_putr, r_ald, r_ast, r_zst, r_lld, r_lst, r_qld, r_qst, r_alen, r_max, r_min, r_cpy, r_new, r_newa, r_oini, r_call, r_callV, r_callI, r_if_eq, r_icmp_eq, r_if_ne, r_icmp_ne, r_if_lt, r_icmp_lt, r_if_ge, r_icmp_ge, r_if_gt, r_icmp_gt, r_if_le, r_icmp_le, cat_i, cat_l, cat_r, cat_n, csum_0, csum_s, okst_0, okst_s, gD0, gDs, rv_s, rv_n, rcv_r, List.set_cons_zero, List.set_cons_succ, List.take_succ_cons, List.take_zero, List.take_nil, List.drop_succ_cons, List.drop_zero, List.drop_nil, List.reverse_cons, List.reverse_nil, List.nil_append, List.cons_append, List.append_nil, List.length_cons, List.length_nil, Option.toList_some, Option.toList_none, Value.int.injEq, Value.long.injEq, Value.ref.injEq, exists_eq_left, exists_eq_left', and_true, true_and, beq_self_eq_true, decide_eq_true_eq, not_false_eq_true, reduceCtorEq, argsL_0, argsL_i, argsL_r, argsL_l, locs_eq, List.replicate_succ, List.replicate_zero, rf_0_0, rf_0_1, rf_0_2, rf_0_3, rf_0_4, rf_0_5, rf_0_6, rf_0_7, rf_0_8, rf_0_10, rf_1_0, rf_1_1, rf_1_2, rf_1_3, rf_2_0, rf_2_1, rf_2_2, rf_2_3, rf_2_4, rf_2_5, rf_2_6, rf_2_9, rf_14_0, rf_14_1, rf_14_2, rf_14_3, rf_14_4, rf_14_5, rf_21_0, rf_21_1, rf_21_2, rf_21_3, rf_21_4, rf_21_5, rf_28_0, rf_28_1, rf_31_0, rf_32_0, rf_32_1, rf_32_2, rf_32_3, rf_32_4, rf_32_5, rf_33_0, rf_33_1, rf_36_0, rf_36_1, rf_39_0, rf_39_1, rf_42_0, rf_42_1, rf_45_0, rf_45_1, rf_48_0, rf_48_1, sh_0, sh_1, sh_2, sh_3, sh_4, sh_5, sh_6, sh_7, sh_8, sh_9, sh_10, sh_11, sh_12, sh_13, sh_14, sh_15, sh_16, sh_17, sh_18, sh_19, sh_20, sh_21, sh_22, sh_23, sh_24, sh_25, sh_26, sh_27, sh_28, sh_29, sh_30, sh_31, sh_32, sh_33, sh_34, sh_35, sh_36, sh_37, sh_38, sh_39, sh_40, sh_41, sh_42, sh_43, sh_44, sh_45, sh_46, sh_47, sh_48, sh_49, sh_50, sh_51, sh_52, sh_53, sh_54, sh_55, pk_mul, nI_add, nI_toInt, nI_clamp, pk_sub, nI_ltI, nI_leI, nI_eq, zge, zeq, zgt, zle, z0, one_I, bz0, bz1, bz2, bz3, bz4, bz5, Nat.add_zero, Nat.zero_add, nI_dec, nI_dec2, eqF, nn0, zltT, ltT, ltF, leT, leF, true_or, or_true, false_or, or_false, not_true_eq_false, false_implies, true_implies, and_false, false_and, ite_true, ite_false, if_true, if_false, e31, u2_cu]
    have es : savO H σ = H.drop 1 ++ [σ] := if_pos q
    obtain ⟨k1, k2, k3⟩ := D.push1 (hi' := cu h1' 31 (upd (h1' 31) 2 (nI (5 + 1)))) hvD (by omega) (by rw [hd]; exact cp) (fun q hq => cu_n hq) (by rw [cu_s, upd_n (by decide)]; exact e31b) (by rw [cu_s, upd_s, hd])
    rw [es]
    refine ⟨_, _, rfl, k1, by rw [List.length_append]; exact k2, fun q hq => (k3 q hq).trans (cu_n (by omega))⟩
  · have hm : (o + 1) % 6 < 6 := Nat.mod_lt _ (by decide)
    simp (disch := omega) only [run_sq, sqQ_l, sqQ_r, run_bk, bkQ_l, bkQ_0, bkQ_1, bkQ_2, bkQ_3, bkQ_r, rtQ_r, lpQ_l, lpQ_0, lpQ_1, lpQ_2, lpQ_r, r_push, r_iload, r_lload, r_aload, r_istore, r_lstore, r_astore, r_iinc, r_ib, r_ibz, r_lb, r_lbz, r_lsh, r_lcmp, r_i2l, r_l2i, r_dup, r_pop, r_dup2, r_br, r_nop, r_ifnull_r, r_ifnull_n, r_ifnonnull_r, r_ifnonnull_n, r_iret, r_zret, r_lret, r_aret_r, r_aret_n, r_vret, r_geti, r_getr, r_puti, r_putr, r_ald, r_ast, r_zst, r_lld, r_lst, r_qld, r_qst, r_alen, r_max, r_min, r_cpy, r_new, r_newa, r_oini, r_call, r_callV, r_callI, r_if_eq, r_icmp_eq, r_if_ne, r_icmp_ne, r_if_lt, r_icmp_lt, r_if_ge, r_icmp_ge, r_if_gt, r_icmp_gt, r_if_le, r_icmp_le, cat_i, cat_l, cat_r, cat_n, csum_0, csum_s, okst_0, okst_s, gD0, gDs, rv_s, rv_n, rcv_r, List.set_cons_zero, List.set_cons_succ, List.take_succ_cons, List.take_zero, List.take_nil, List.drop_succ_cons, List.drop_zero, List.drop_nil, List.reverse_cons, List.reverse_nil, List.nil_append, List.cons_append, List.append_nil, List.length_cons, List.length_nil, Option.toList_some, Option.toList_none, Value.int.injEq, Value.long.injEq, Value.ref.injEq, exists_eq_left, exists_eq_left', and_true, true_and, beq_self_eq_true, decide_eq_true_eq, not_false_eq_true, reduceCtorEq, argsL_0, argsL_i, argsL_r, argsL_l, locs_eq, List.replicate_succ, List.replicate_zero, rf_0_0, rf_0_1, rf_0_2, rf_0_3, rf_0_4, rf_0_5, rf_0_6, rf_0_7, rf_0_8, rf_0_10, rf_1_0, rf_1_1, rf_1_2, rf_1_3, rf_2_0, rf_2_1, rf_2_2, rf_2_3, rf_2_4, rf_2_5, rf_2_6, rf_2_9, rf_14_0, rf_14_1, rf_14_2, rf_14_3, rf_14_4, rf_14_5, rf_21_0, rf_21_1, rf_21_2, rf_21_3, rf_21_4, rf_21_5, rf_28_0, rf_28_1, rf_31_0, rf_32_0, rf_32_1, rf_32_2, rf_32_3, rf_32_4, rf_32_5, rf_33_0, rf_33_1, rf_36_0, rf_36_1, rf_39_0, rf_39_1, rf_42_0, rf_42_1, rf_45_0, rf_45_1, rf_48_0, rf_48_1, sh_0, sh_1, sh_2, sh_3, sh_4, sh_5, sh_6, sh_7, sh_8, sh_9, sh_10, sh_11, sh_12, sh_13, sh_14, sh_15, sh_16, sh_17, sh_18, sh_19, sh_20, sh_21, sh_22, sh_23, sh_24, sh_25, sh_26, sh_27, sh_28, sh_29, sh_30, sh_31, sh_32, sh_33, sh_34, sh_35, sh_36, sh_37, sh_38, sh_39, sh_40, sh_41, sh_42, sh_43, sh_44, sh_45, sh_46, sh_47, sh_48, sh_49, sh_50, sh_51, sh_52, sh_53, sh_54, sh_55, pk_mul, nI_add, nI_toInt, nI_clamp, pk_sub, nI_ltI, nI_leI, nI_eq, zge, zeq, zgt, zle, z0, one_I, bz0, bz1, bz2, bz3, bz4, bz5, Nat.add_zero, Nat.zero_add, nI_dec, nI_dec2, eqF, nn0, zltT, ltT, ltF, leT, leF, true_or, or_true, false_or, or_false, not_true_eq_false, false_implies, true_implies, and_false, false_and, ite_true, ite_false, if_true, if_false, w1, w2]
    simp only [does_at (c_savedState (hi := hi) (hl := hl) (k := H.length) ho (by omega) w1), r_call, r_callV, run_sq, sqQ_l, List.take_succ_cons, List.take_zero, List.take_nil, List.drop_succ_cons, List.drop_zero, List.drop_nil, List.reverse_cons, List.reverse_nil, List.nil_append, List.cons_append, List.append_nil]
    simp (disch := omega) only [run_sq, sqQ_l, sqQ_r, run_bk, bkQ_l, bkQ_0, bkQ_1, bkQ_2, bkQ_3, bkQ_r, rtQ_r, lpQ_l, lpQ_0, lpQ_1, lpQ_2, lpQ_r, r_push, r_iload, r_lload, r_aload, r_istore, r_lstore, r_astore, r_iinc, r_ib, r_ibz, r_lb, r_lbz, r_lsh, r_lcmp, r_i2l, r_l2i, r_dup, r_pop, r_dup2, r_br, r_nop, r_ifnull_r, r_ifnull_n, r_ifnonnull_r, r_ifnonnull_n, r_iret, r_zret, r_lret, r_aret_r, r_aret_n, r_vret, r_geti, r_getr, r_puti, r_putr, r_ald, r_ast, r_zst, r_lld, r_lst, r_qld, r_qst, r_alen, r_max, r_min, r_cpy, r_new, r_newa, r_oini, r_call, r_callV, r_callI, r_if_eq, r_icmp_eq, r_if_ne, r_icmp_ne, r_if_lt, r_icmp_lt, r_if_ge, r_icmp_ge, r_if_gt, r_icmp_gt, r_if_le, r_icmp_le, cat_i, cat_l, cat_r, cat_n, csum_0, csum_s, okst_0, okst_s, gD0, gDs, rv_s, rv_n, rcv_r, List.set_cons_zero, List.set_cons_succ, List.take_succ_cons, List.take_zero, List.take_nil, List.drop_succ_cons, List.drop_zero, List.drop_nil, List.reverse_cons, List.reverse_nil, List.nil_append, List.cons_append, List.append_nil, List.length_cons, List.length_nil, Option.toList_some, Option.toList_none, Value.int.injEq, Value.long.injEq, Value.ref.injEq, exists_eq_left, exists_eq_left', and_true, true_and, beq_self_eq_true, decide_eq_true_eq, not_false_eq_true, reduceCtorEq, argsL_0, argsL_i, argsL_r, argsL_l, locs_eq, List.replicate_succ, List.replicate_zero, rf_0_0, rf_0_1, rf_0_2, rf_0_3, rf_0_4, rf_0_5, rf_0_6, rf_0_7, rf_0_8, rf_0_10, rf_1_0, rf_1_1, rf_1_2, rf_1_3, rf_2_0, rf_2_1, rf_2_2, rf_2_3, rf_2_4, rf_2_5, rf_2_6, rf_2_9, rf_14_0, rf_14_1, rf_14_2, rf_14_3, rf_14_4, rf_14_5, rf_21_0, rf_21_1, rf_21_2, rf_21_3, rf_21_4, rf_21_5, rf_28_0, rf_28_1, rf_31_0, rf_32_0, rf_32_1, rf_32_2, rf_32_3, rf_32_4, rf_32_5, rf_33_0, rf_33_1, rf_36_0, rf_36_1, rf_39_0, rf_39_1, rf_42_0, rf_42_1, rf_45_0, rf_45_1, rf_48_0, rf_48_1, sh_0, sh_1, sh_2, sh_3, sh_4, sh_5, sh_6, sh_7, sh_8, sh_9, sh_10, sh_11, sh_12, sh_13, sh_14, sh_15, sh_16, sh_17, sh_18, sh_19, sh_20, sh_21, sh_22, sh_23, sh_24, sh_25, sh_26, sh_27, sh_28, sh_29, sh_30, sh_31, sh_32, sh_33, sh_34, sh_35, sh_36, sh_37, sh_38, sh_39, sh_40, sh_41, sh_42, sh_43, sh_44, sh_45, sh_46, sh_47, sh_48, sh_49, sh_50, sh_51, sh_52, sh_53, sh_54, sh_55, pk_mul, nI_add, nI_toInt, nI_clamp, pk_sub, nI_ltI, nI_leI, nI_eq, zge, zeq, zgt, zle, z0, one_I, bz0, bz1, bz2, bz3, bz4, bz5, Nat.add_zero, Nat.zero_add, nI_dec, nI_dec2, eqF, nn0, zltT, ltT, ltF, leT, leF, true_or, or_true, false_or, or_false, not_true_eq_false, false_implies, true_implies, and_false, false_and, ite_true, ite_false, if_true, if_false]
    refine ⟨congrArg Prod.fst (isC.h0 (c := slo6 o H.length) slo6_C), does_mono (p_takeFrom (hi := hi) (hl := hl) (c := slo6 o H.length) (d := 28) slo6_C isC.n (by unfold slo6; omega)) ?_⟩
    rintro v h' ⟨rfl, h1', rfl, cp⟩
    have e31 : h1' 31 = hi 31 := cp.1 31 (by unfold slo6; omega) (by unfold slo6; omega) (by unfold slo6; omega)
    simp (disch := omega) only [run_sq, sqQ_l, sqQ_r, run_bk, bkQ_l, bkQ_0, bkQ_1, bkQ_2, bkQ_3, bkQ_r, rtQ_r, lpQ_l, lpQ_0, lpQ_1, lpQ_2, lpQ_r, r_push, r_iload, r_lload, r_aload, r_istore, r_lstore, r_astore, r_iinc, r_ib, r_ibz, r_lb, r_lbz, r_lsh, r_lcmp, r_i2l, r_l2i, r_dup, r_pop, r_dup2, r_br, r_nop, r_ifnull_r, r_ifnull_n, r_ifnonnull_r, r_ifnonnull_n, r_iret, r_zret, r_lret, r_aret_r, r_aret_n, r_vret, r_geti, r_getr, r_puti, r_putr, r_ald, r_ast, r_zst, r_lld, r_lst, r_qld, r_qst, r_alen, r_max, r_min, r_cpy, r_new, r_newa, r_oini, r_call, r_callV, r_callI, r_if_eq, r_icmp_eq, r_if_ne, r_icmp_ne, r_if_lt, r_icmp_lt, r_if_ge, r_icmp_ge, r_if_gt, r_icmp_gt, r_if_le, r_icmp_le, cat_i, cat_l, cat_r, cat_n, csum_0, csum_s, okst_0, okst_s, gD0, gDs, rv_s, rv_n, rcv_r, List.set_cons_zero, List.set_cons_succ, List.take_succ_cons, List.take_zero, List.take_nil, List.drop_succ_cons, List.drop_zero, List.drop_nil, List.reverse_cons, List.reverse_nil, List.nil_append, List.cons_append, List.append_nil, List.length_cons, List.length_nil, Option.toList_some, Option.toList_none, Value.int.injEq, Value.long.injEq, Value.ref.injEq, exists_eq_left, exists_eq_left', and_true, true_and, beq_self_eq_true, decide_eq_true_eq, not_false_eq_true, reduceCtorEq, argsL_0, argsL_i, argsL_r, argsL_l, locs_eq, List.replicate_succ, List.replicate_zero, rf_0_0, rf_0_1, rf_0_2, rf_0_3, rf_0_4, rf_0_5, rf_0_6, rf_0_7, rf_0_8, rf_0_10, rf_1_0, rf_1_1, rf_1_2, rf_1_3, rf_2_0, rf_2_1, rf_2_2, rf_2_3, rf_2_4, rf_2_5, rf_2_6, rf_2_9, rf_14_0, rf_14_1, rf_14_2, rf_14_3, rf_14_4, rf_14_5, rf_21_0, rf_21_1, rf_21_2, rf_21_3, rf_21_4, rf_21_5, rf_28_0, rf_28_1, rf_31_0, rf_32_0, rf_32_1, rf_32_2, rf_32_3, rf_32_4, rf_32_5, rf_33_0, rf_33_1, rf_36_0, rf_36_1, rf_39_0, rf_39_1, rf_42_0, rf_42_1, rf_45_0, rf_45_1, rf_48_0, rf_48_1, sh_0, sh_1, sh_2, sh_3, sh_4, sh_5, sh_6, sh_7, sh_8, sh_9, sh_10, sh_11, sh_12, sh_13, sh_14, sh_15, sh_16, sh_17, sh_18, sh_19, sh_20, sh_21, sh_22, sh_23, sh_24, sh_25, sh_26, sh_27, sh_28, sh_29, sh_30, sh_31, sh_32, sh_33, sh_34, sh_35, sh_36, sh_37, sh_38, sh_39, sh_40, sh_41, sh_42, sh_43, sh_44, sh_45, sh_46, sh_47, sh_48, sh_49, sh_50, sh_51, sh_52, sh_53, sh_54, sh_55, pk_mul, nI_add, nI_toInt, nI_clamp, pk_sub, nI_ltI, nI_leI, nI_eq, zge, zeq, zgt, zle, z0, one_I, bz0, bz1, bz2, bz3, bz4, bz5, Nat.add_zero, Nat.zero_add, nI_dec, nI_dec2, eqF, nn0, zltT, ltT, ltF, leT, leF, true_or, or_true, false_or, or_false, not_true_eq_false, false_implies, true_implies, and_false, false_and, ite_true, ite_false, if_true, if_false, e31, w2, u2_cu]
    have es : savO H σ = H ++ [σ] := if_neg q
    obtain ⟨k1, k2, k3⟩ := h.push1 (hi' := cu h1' 31 (upd (hi 31) 2 (nI (H.length + 1)))) hv (by omega) cp (fun q hq => cu_n hq) (by rw [cu_s, upd_n (by decide)]; exact w1) (by rw [cu_s, upd_s])
    rw [es]
    refine ⟨_, _, rfl, k1, by rw [List.length_append]; exact k2, k3⟩
end SaveS

