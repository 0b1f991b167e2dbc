/-! the law's rows stand for a state -/
def lm (m : Int32) : Int32 := if m = -5 then -1 else m
def MkV (m : Int32) (L : Nat) : Prop := m = -5 ∨ ∃ v, v ≤ L ∧ m = nI v
theorem nI_m5 {v : Nat} (h : v < 2 ^ 31) : ¬ nI v = -5 := fun z => by
  have e := congrArg Int32.toInt z
  rw [nI_toInt h, show (-5 : Int32).toInt = -5 by decide] at e
  omega
theorem nI_nm {v : Nat} {x : Int32} (h : v < 2 ^ 31) (hx : x.toInt < 0) : ¬ nI v ≤ x ∧ ¬ nI v < x := by
  constructor
  · intro z; have := Int32.le_iff_toInt_le.mp z; rw [nI_toInt h] at this; omega
  · intro z; have := Int32.lt_iff_toInt_lt.mp z; rw [nI_toInt h] at this; omega
theorem lm_n {v : Nat} (h : v < 2 ^ 31) : lm (nI v) = nI v := if_neg (nI_m5 h)
theorem lm_5 : lm (-5) = -1 := rfl
theorem mon_l {m : Int32} {L a p : Nat} (h : MkV m L) (ha : a ≤ L) (hL : L ≤ 100) (hp : p ≤ 100) : mkf a 0 p (lm m) = lm (mon a p m) ∧ MkV (mon a p m) (L + p) := by
  rcases h with rfl | ⟨v, hv, rfl⟩
  · have h5 := nI_nm (v := a) (x := -5) (by omega) (by decide)
    have h1 := nI_nm (v := a) (x := -1) (by omega) (by decide)
    have e : mon a p (-5) = -5 := if_neg h5.1
    rw [e, lm_5]
    unfold mkf
    rw [Nat.add_zero, if_neg h1.2, if_neg h1.2, if_neg h1.1]
    exact ⟨by decide, Or.inl rfl⟩
  · rw [lm_n (by omega)]
    unfold mkf mon
    rw [Nat.add_zero]
    by_cases c : a ≤ v
    · have e1 : nI a ≤ nI v := nI_le c (by omega)
      rw [if_pos e1, nI_add, lm_n (by omega)]
      refine ⟨?_, Or.inr ⟨v + p, by omega, rfl⟩⟩
      by_cases c2 : a < v
      · have e2 : nI a < nI v := nI_lt c2 (by omega)
        have e3 : nI v - nI 0 = nI v := by rw [pk_sub (Nat.zero_le _), Nat.sub_zero]
        rw [if_pos e2, e3, if_pos e1, nI_add]
      · have e2 : ¬ nI a < nI v := nI_nlt (by omega) (by omega)
        rw [if_neg e2, if_neg e2, if_pos e1, nI_add]
    · have e1 : ¬ nI a ≤ nI v := nI_ge (by omega) (by omega)
      have e2 : ¬ nI a < nI v := nI_nlt (by omega) (by omega)
      rw [if_neg e1, lm_n (by omega), if_neg e2, if_neg e2, if_neg e1, nI_add, Nat.add_zero]
      exact ⟨rfl, Or.inr ⟨v, by omega, rfl⟩⟩
theorem mbk_l {m : Int32} {L a b : Nat} (h : MkV m L) (hab : a ≤ b) (hb : b ≤ L) (hL : L ≤ 100) : mkf a (b - a) 0 (lm m) = lm (mbk a b m) ∧ MkV (mbk a b m) (L - (b - a)) := by
  have ite0 : ∀ (c : Prop) [Decidable c] (y : Int32), y + (if c then nI 0 else nI 0) = y := fun c _ y => by
    rw [ite_self, nI_0, Int32.add_zero]
  rcases h with rfl | ⟨v, hv, rfl⟩
  · have h5 := nI_nm (v := a) (x := -5) (by omega) (by decide)
    have h6 := nI_nm (v := b) (x := -5) (by omega) (by decide)
    have h1 := nI_nm (v := a) (x := -1) (by omega) (by decide)
    have h2 := nI_nm (v := b) (x := -1) (by omega) (by decide)
    have e : mbk a b (-5) = -5 := by unfold mbk; rw [if_neg h6.2, if_neg h5.1]
    rw [e, lm_5]
    unfold mkf
    rw [show a + (b - a) = b by omega, ite0, if_neg h2.2, if_neg h1.2]
    exact ⟨rfl, Or.inl rfl⟩
  · rw [lm_n (by omega)]
    unfold mkf mbk
    rw [show a + (b - a) = b by omega, ite0]
    by_cases c : b < v
    · have e1 : nI b < nI v := nI_lt c (by omega)
      rw [if_pos e1, if_pos e1, pk_sub (by omega), lm_n (by omega)]
      exact ⟨rfl, Or.inr ⟨v - (b - a), by omega, rfl⟩⟩
    · have e1 : ¬ nI b < nI v := nI_nlt (by omega) (by omega)
      rw [if_neg e1, if_neg e1]
      by_cases c2 : a ≤ v
      · have e2 : nI a ≤ nI v := nI_le c2 (by omega)
        rw [if_pos e2, lm_n (by omega)]
        refine ⟨?_, Or.inr ⟨a, by omega, rfl⟩⟩
        by_cases c3 : a < v
        · rw [if_pos (nI_lt c3 (by omega))]
        · rw [if_neg (nI_nlt (by omega) (by omega)), show v = a by omega]
      · have e2 : ¬ nI a ≤ nI v := nI_ge (by omega) (by omega)
        rw [if_neg e2, lm_n (by omega), if_neg (nI_nlt (by omega) (by omega))]
        exact ⟨rfl, Or.inr ⟨v, by omega, rfl⟩⟩
/-- r is p, the ring g, text 57, kept 59, q 55 -/
def Lr (n p g : Nat) (hi : Nat → Nat → Int32) : St → Prop := fun ((T, ring, rc, mks, s, bal, bd), _, _, B) =>
  (59 < n ∧ 55 < p ∧ p < n ∧ p ≠ 57 ∧ p ≠ 59 ∧ 55 < g ∧ g < n ∧ g ≠ 57 ∧ g ≠ 59 ∧ p ≠ g) ∧
  (hi 55 0 = nI s ∧ hi 55 1 = bal ∧ hi 55 2 = bd ∧ (∀ i, i < 4 → hi 55 (3 + i) = lm (mks i) ∧ MkV (mks i) (len T)) ∧ hi 55 7 = nI (len T) ∧ hi 55 8 = nI rc) ∧
  Row (hi p) T ∧ Txt (hi 57) (ch T) ∧ (0 < rc → Row (hi g) (ring 0) ∧ Txt (hi 59) (ch (ring 0)) ∧ hi 55 9 = nI (len (ring 0)) ∧ len (ring 0) ≤ 60) ∧ len T ≤ 60 ∧ B = [] ∧ (bal = nI 0 ∨ bal = nI 1)
section RelS
variable {hi hi' : Nat → Nat → Int32} {hl hl' : Nat → Nat → Int64} {n p g : Nat} {S : St} {x : Int32 × St}
theorem Lr.km {n' : Nat} (h : Lr n p g hi S) (k : ∀ k, 55 ≤ k → k < n → hi' k = hi k) (hn : n ≤ n') : Lr n' p g hi' S := by
  obtain ⟨⟨T, ring, rc, mks, s, bal, bd⟩, H, V, B⟩ := S
  obtain ⟨⟨a1, a2, a3, a4, a5, a6, a7, a8, a9, a10⟩, b, c1, c2, c3, c4, c5⟩ := h
  unfold Lr
  dsimp only
  rw [k 55 (by omega) (by omega), k p (by omega) a3, k 57 (by omega) (by omega), k g (by omega) a7, k 59 (by omega) (by omega)]
  exact ⟨⟨by omega, a2, by omega, a4, a5, a6, by omega, a8, a9, a10⟩, b, c1, c2, c3, c4, c5⟩
theorem RC.kl (h : RC hi hl S) (hv : VV S) (k : ∀ k, k < 55 → hi' k = hi k) (e : ∀ k, k < 55 → hl' k = hl k) : RC hi' hl' S := by
  obtain ⟨a, o, hu, h⟩ := RC.kc h hv k
  exact ⟨a, o, hu, RCo.kp h hv ⟨Nat.le_refl _, fun _ _ => rfl, fun k _ => ⟨rfl, rfl, rfl, rfl, by rw [e 7 (by decide)], by rw [e 8 (by decide)]⟩⟩⟩
/-- as CA, for any number of cells -/
def CN (n : Nat) (hi : Nat → Nat → Int32) (x : Int32 × St) : Option Value → Hp → Prop := fun v h => v = some (.int x.1) ∧ ∃ hi' hl', h = (n, hi', hl', rf0) ∧ KM hi hi' ∧ RC hi' hl' x.2
theorem cn {m : Mt} {av : List Value} (hn : 54 < n) (h : ∀ Nx, Does m av (Nx + 55, hi, hl, rf0) (CA Nx hi x)) : Does m av (n, hi, hl, rf0) (CN n hi x) := by
  obtain ⟨Nx, rfl⟩ : ∃ Nx, n = Nx + 55 := ⟨n - 55, by omega⟩
  exact h Nx
theorem KM.tr {a b c : Nat → Nat → Int32} (h1 : KM a b) (h2 : KM b c) : KM a c := fun k h => (h2 k h).trans (h1 k h)
theorem KM.rf {a : Nat → Nat → Int32} : KM a a := fun _ _ => rfl
theorem gs_fl {t : Tr} (h : vn t) : ∀ d g e, (gs d g t).map (fun p => p.1) = (fl e t).map (fun p => p.1) := by
  induction t, h using vn_ind with
  | h1 l h0 _ _ => intro d g e; rw [gs_lf h0, fl_lf h0]; rfl
  | h2 a b _ _ i1 i2 => intro d g e; rw [gs_p, fl_p, List.map_append, List.map_append, i1 (d + 1) d (e + 1), i2 (d + 1) g (e + 1)]
theorem fl_at {t : Tr} (h : vn t) {i : Nat} {p : Nat × Nat} (e : (gs 0 0 t)[i]? = some p) : ∃ q, (fl 0 t)[i]? = some q ∧ q.1 = p.1 ∧ ga (fl 0 t) i = q.2 := by
  have k := congrArg (fun l => l[i]?) (gs_fl h 0 0 0)
  simp only [List.getElem?_map] at k
  rw [e] at k
  cases hu : (fl 0 t)[i]? with
  | none => rw [hu] at k; cases k
  | some u => rw [hu] at k; exact ⟨u, rfl, (Option.some.inj k).symm, ga_of hu⟩
theorem isP_of {k n : Nat} (hn : n < 2 ^ 31) (h : k ≤ n) : isP (nI k) n = true := by
  unfold isP
  rw [decide_eq_true_eq, nI_leI (by omega) (by omega), nI_leI (by omega) hn]
  omega
theorem isR_n {k m : Nat} (hm : m < 2 ^ 31) (h : k < m) : isR (nI k) m = true := by
  unfold isR
  rw [decide_eq_true_eq, nI_leI (by omega) (by omega), nI_ltI (by omega) hm]
  omega
theorem isR_no {k m : Nat} (hk : k < 2 ^ 31) (h : m ≤ k) : ¬ isR (nI k) m = true := by
  unfold isR
  rw [decide_eq_true_eq, nI_ltI hk (by omega)]
  omega
theorem iN_n {k : Nat} (h : k < 2 ^ 31) : iN (nI k) = k := nI_clamp h
theorem c_low {y : Int32} {m : Nat} (h0 : 0 < m) (hm : m < 2 ^ 31) : ∃ j, j < m ∧ ∀ h : Hp, m_L_low [.int y, .int (nI m)] h = some (some (.int (nI j)), h) := by
  refine ⟨y.toBitVec.toNat % 2 ^ 31 % m, Nat.mod_lt _ h0, fun h => ?_⟩
  obtain ⟨n, hi, hl, hr⟩ := h
  have e := pk_and y (m := nI 2147483647) 31 (by decide)
  have hlt : y.toBitVec.toNat % 2 ^ 31 < 2 ^ 31 := Nat.mod_lt _ (by decide)
  have e2 := pk_rem hlt h0 hm
  have nz : ¬ m = 0 := by omega
  refine does_eq (does_of (by simp [argsL, Value.category]) ?_)
  unfold b_L_low
  simp (disch := omega) only [run_sq, sqQ_l, sqQ_r, run_bk, bkQ_l, bkQ_0, bkQ_1, bkQ_2, bkQ_3, bkQ_r, rtQ_r, lpQ_l, lpQ_0, lpQ_1, lpQ_2, lpQ_r, r_push, r_iload, r_lload, r_aload, r_istore, r_lstore, r_astore, r_iinc, r_ib, r_ibz, r_lb, r_lbz, r_lsh, r_lcmp, r_i2l, r_l2i, r_dup, r_pop, r_dup2, r_br, r_nop, r_ifnull_r, r_ifnull_n, r_ifnonnull_r, r_ifnonnull_n, r_iret, r_zret, r_lret, r_aret_r, r_aret_n, r_vret, r_geti, r_getr, r_puti, r_putr, r_ald, r_ast, r_zst, r_lld, r_lst, r_qld, r_qst, r_alen, r_max, r_min, r_cpy, r_new, r_newa, r_oini, r_call, r_callV, r_callI, r_if_eq, r_icmp_eq, r_if_ne, r_icmp_ne, r_if_lt, r_icmp_lt, r_if_ge, r_icmp_ge, r_if_gt, r_icmp_gt, r_if_le, r_icmp_le, cat_i, cat_l, cat_r, cat_n, csum_0, csum_s, okst_0, okst_s, gD0, gDs, rv_s, rv_n, rcv_r, List.set_cons_zero, List.set_cons_succ, List.take_succ_cons, List.take_zero, List.take_nil, List.drop_succ_cons, List.drop_zero, List.drop_nil, List.reverse_cons, List.reverse_nil, List.nil_append, List.cons_append, List.append_nil, List.length_cons, List.length_nil, Option.toList_some, Option.toList_none, Value.int.injEq, Value.long.injEq, Value.ref.injEq, exists_eq_left, exists_eq_left', and_true, true_and, beq_self_eq_true, decide_eq_true_eq, not_false_eq_true, reduceCtorEq, argsL_0, argsL_i, argsL_r, argsL_l, locs_eq, List.replicate_succ, List.replicate_zero, rf_0_0, rf_0_1, rf_0_2, rf_0_3, rf_0_4, rf_0_5, rf_0_6, rf_0_7, rf_0_8, rf_0_10, rf_1_0, rf_1_1, rf_1_2, rf_1_3, rf_2_0, rf_2_1, rf_2_2, rf_2_3, rf_2_4, rf_2_5, rf_2_6, rf_2_9, rf_14_0, rf_14_1, rf_14_2, rf_14_3, rf_14_4, rf_14_5, rf_21_0, rf_21_1, rf_21_2, rf_21_3, rf_21_4, rf_21_5, rf_28_0, rf_28_1, rf_31_0, rf_32_0, rf_32_1, rf_32_2, rf_32_3, rf_32_4, rf_32_5, rf_33_0, rf_33_1, rf_36_0, rf_36_1, rf_39_0, rf_39_1, rf_42_0, rf_42_1, rf_45_0, rf_45_1, rf_48_0, rf_48_1, sh_0, sh_1, sh_2, sh_3, sh_4, sh_5, sh_6, sh_7, sh_8, sh_9, sh_10, sh_11, sh_12, sh_13, sh_14, sh_15, sh_16, sh_17, sh_18, sh_19, sh_20, sh_21, sh_22, sh_23, sh_24, sh_25, sh_26, sh_27, sh_28, sh_29, sh_30, sh_31, sh_32, sh_33, sh_34, sh_35, sh_36, sh_37, sh_38, sh_39, sh_40, sh_41, sh_42, sh_43, sh_44, sh_45, sh_46, sh_47, sh_48, sh_49, sh_50, sh_51, sh_52, sh_53, sh_54, sh_55, pk_mul, nI_add, nI_toInt, nI_clamp, pk_sub, nI_ltI, nI_leI, nI_eq, zge, zeq, zgt, zle, z0, one_I, bz0, bz1, bz2, bz3, bz4, bz5, Nat.add_zero, Nat.zero_add, nI_dec, nI_dec2, eqF, nn0, zltT, ltT, ltF, leT, leF, true_or, or_true, false_or, or_false, not_true_eq_false, false_implies, true_implies, and_false, false_and, ite_true, ite_false, if_true, if_false, sh_row, gro, u2_cu, cu_cu, cu_s, cu_n, upd_s, upd_n, eqT, e, e2, nz]
end RelS
