noncomputable def css (b Ln : Nat) (xs : Nat → Int32) : List Fr := [cs1 b Ln xs m_X5_setLeafSize m_X6_setLeafSize 34, cs1 b Ln xs m_X5_setBalancing m_X6_setBalancing 33, cs1 b Ln xs m_X5_type m_X6_type 32, cs0 m_X5_clearBuffer m_X6_clearBuffer 31, cs1 b Ln xs m_X5_insert m_X6_insert 30, cs2 b Ln xs m_X5_delete m_X6_delete 29, cs2 b Ln xs m_X5_cut m_X6_cut 28, cs2 b Ln xs m_X5_copy m_X6_copy 27, cs2 b Ln xs m_X5_paste m_X6_paste 26, cs3 b Ln xs m_X5_move m_X6_move 25, cs0 m_X5_replaceAll m_X6_replaceAll 24, cs0 m_X5_build m_X6_build 23, cs0 m_X5_pack m_X6_pack 22, cs0 m_X5_length m_X6_length 21, cs0 m_X5_depth m_X6_depth 20, cs0 m_X5_leaves m_X6_leaves 19, cs0 m_X5_isBalanced m_X6_isBalanced 18, cs0 m_X5_builds m_X6_builds 17, cs1 b Ln xs m_X5_character m_X6_character 16, cs2 b Ln xs m_X5_leaf m_X6_leaf 15, cs1 b Ln xs m_X5_way m_X6_way 14, cs1 b Ln xs m_X5_find m_X6_find 13, cs0 m_X5_lines m_X6_lines 12, cs1 b Ln xs m_X5_lineStart m_X6_lineStart 11, cs1 b Ln xs m_X5_lineOf m_X6_lineOf 10, cs2 b Ln xs m_X5_setMark m_X6_setMark 9, cs1 b Ln xs m_X5_mark m_X6_mark 8, cs0 m_X5_ring m_X6_ring 7, cs2 b Ln xs m_X5_ofRing m_X6_ofRing 6, cs2 b Ln xs m_X5_ringCharacter m_X6_ringCharacter 5, cs1 b Ln xs m_X5_keep m_X6_keep 4, cs1 b Ln xs m_X5_goBack m_X6_goBack 3, cs1 b Ln xs m_X5_difference m_X6_difference 2, cs0 m_X5_undo m_X6_undo 1, csD m_X5_digest m_X6_digest]
theorem css_len {b Ln : Nat} {xs : Nat → Int32} : (css b Ln xs).length = 35 := rfl
noncomputable def lawL (b Ln : Nat) (xs : Nat → Int32) : Fr := sq (o_iload 3) <| sq (o_aloadS 0) <| sq (o_slen b Ln) <| sq (o_push (.int (nI 4))) <| sq (o_ib (fun x y => x - y)) <| bk (sq (o_icmp_gt 0) <| sq (o_aloadS 0) <| sq (o_iload 3) <| sq (o_sld b Ln xs) <| sq (o_push (.int (nI 63))) <| sq (o_ib (fun x y => x &&& y)) <| sq (bk (nest (o_tsw 0 34 tgs 35) (css b Ln xs))) <| sq (o_iinc 3 (nI 4)) <| o_br 1)
theorem law_eq (b Ln : Nat) (xs : Nat → Int32) : b_L_law b Ln xs = sq (o_new 5 11) (sq (o_dup) <| sq (o_callI 0 m_X5_init) <| sq (o_astore 1) <| sq (o_new 6 12) <| sq (o_dup) <| sq (o_callI 0 m_X6_init) <| sq (o_astore 2) <| sq (o_push (.int (nI 0))) <| sq (o_istore 3) <| sq (lp (lawL b Ln xs)) <| sq (o_push (.int (nI 1))) <| o_zret) := by
  simp only [b_L_law, lawL, css, nest, cs0, cs1, cs2, cs3, csD, csE, ldA, tgs]
def AllC (P : Nat → Fr → Prop) : Nat → List Fr → Prop
  | _, [] => True
  | k, c :: cs => P k c ∧ AllC P (k + 1) cs
theorem AllC.at {P : Nat → Fr → Prop} : ∀ (l : List Fr) (k t : Nat) (c : Fr), AllC P k l → l[t]? = some c → P (k + t) c
  | [], k, t, c, h, hc => by cases hc
  | d :: cs, k, 0, c, h, hc => by
    have e : d = c := Option.some.inj hc
    subst e
    exact h.1
  | d :: cs, k, t + 1, c, h, hc => by
    have := AllC.at cs (k + 1) t c h.2 hc
    rw [show k + (t + 1) = k + 1 + t by omega]
    exact this
theorem case_all {b Ln i : Nat} {xs : Nat → Int32} {hi : Nat → Nat → Int32} {hl : Nat → Nat → Int64} {σ : Sa} {H : List Sa} {V : Nat → Option Tr} {B : List Nat} (h4 : i + 4 ≤ Ln) (hL : Ln ≤ 2048) (rc : RC hi hl (σ, H, V, B)) (rm : RM hi (σ, H, V, B)) (vv : VV (σ, H, V, B)) : AllC (fun t c => Run c (Lw b i, [], (66, hi, hl, rf0)) (Bo b i (34 - t))) 0 (css b Ln xs) := by
  unfold css
  refine ⟨run_cs1 h4 hL (C_setLeafSize rc vv) (fun _ _ r => M_setLeafSize r vv) rm (V_setLeafSize vv), ?_⟩
  refine ⟨run_cs1 h4 hL (C_setBalancing rc vv) (fun _ _ r => M_setBalancing r vv) rm (V_setBalancing vv), ?_⟩
  refine ⟨run_cs1 h4 hL (C_type rc vv) (fun _ _ r => M_type r vv) rm (V_type vv), ?_⟩
  refine ⟨run_cs0 (C_clearBuffer rc vv) (fun _ _ r => M_clearBuffer r) rm (V_clearBuffer vv), ?_⟩
  refine ⟨run_cs1 h4 hL (C_insert rc vv) (fun _ _ r => M_insert r vv) rm (V_insert vv), ?_⟩
  refine ⟨run_cs2 h4 hL (C_delete rc vv) (fun _ _ r => M_delete r vv) rm (V_delete vv), ?_⟩
  refine ⟨run_cs2 h4 hL (C_cut rc vv) (fun _ _ r => M_cut r vv) rm (V_cut vv), ?_⟩
  refine ⟨run_cs2 h4 hL (C_copy rc vv) (fun _ _ r => M_copy r vv) rm (V_copy vv), ?_⟩
  refine ⟨run_cs2 h4 hL (C_paste rc vv) (fun _ _ r => M_paste r vv) rm (V_paste vv), ?_⟩
  refine ⟨run_cs3 h4 hL (C_move rc vv) (fun _ _ r => M_move r vv) rm (V_move vv), ?_⟩
  refine ⟨run_cs0 (C_replaceAll rc vv) (fun _ _ r => M_replaceAll r vv) rm (V_replaceAll vv), ?_⟩
  refine ⟨run_cs0 (C_build rc vv) (fun _ _ r => M_build r vv) rm (V_build vv), ?_⟩
  refine ⟨run_cs0 (C_pack rc vv) (fun _ _ r => M_pack r vv) rm (V_pack vv), ?_⟩
  refine ⟨run_cs0 (C_length rc vv) (fun _ _ r => MA.q (q_length r) r) rm vv, ?_⟩
  refine ⟨run_cs0 (C_depth rc vv) (fun _ _ r => MA.q (q_depth r vv) r) rm vv, ?_⟩
  refine ⟨run_cs0 (C_leaves rc vv) (fun _ _ r => MA.q (q_leaves r) r) rm vv, ?_⟩
  refine ⟨run_cs0 (C_isBalanced rc vv) (fun _ _ r => MA.q (q_isBalanced r vv) r) rm vv, ?_⟩
  refine ⟨run_cs0 (C_builds rc vv) (fun _ _ r => MA.q (q_builds r) r) rm vv, ?_⟩
  refine ⟨run_cs1 h4 hL (C_character rc vv) (fun _ _ r => MA.q (q_character r vv) r) rm vv, ?_⟩
  refine ⟨run_cs2 h4 hL (C_leaf rc vv) (fun _ _ r => MA.q (q_leaf r vv) r) rm vv, ?_⟩
  refine ⟨run_cs1 h4 hL (C_way rc vv) (fun _ _ r => M_way r vv) rm vv, ?_⟩
  refine ⟨run_cs1 h4 hL (C_find rc vv) (fun _ _ r => MA.q (q_find r vv) r) rm vv, ?_⟩
  refine ⟨run_cs0 (C_lines rc vv) (fun _ _ r => MA.q (q_lines r vv) r) rm vv, ?_⟩
  refine ⟨run_cs1 h4 hL (C_lineStart rc vv) (fun _ _ r => MA.q (q_lineStart r vv) r) rm vv, ?_⟩
  refine ⟨run_cs1 h4 hL (C_lineOf rc vv) (fun _ _ r => MA.q (q_lineOf r vv) r) rm vv, ?_⟩
  refine ⟨run_cs2 h4 hL (C_setMark rc vv) (fun _ _ r => M_setMark r vv) rm (V_setMark vv), ?_⟩
  refine ⟨run_cs1 h4 hL (C_mark rc vv) (fun _ _ r => MA.q (q_mark r) r) rm vv, ?_⟩
  refine ⟨run_cs0 (C_ring rc vv) (fun _ _ r => MA.q (q_ring r) r) rm vv, ?_⟩
  refine ⟨run_cs2 h4 hL (C_ofRing rc vv) (fun _ _ r => MA.q (q_ofRing r vv) r) rm vv, ?_⟩
  refine ⟨run_cs2 h4 hL (C_ringCharacter rc vv) (fun _ _ r => MA.q (q_ringCharacter r vv) r) rm vv, ?_⟩
  refine ⟨run_cs1 h4 hL (C_keep rc vv) (fun _ _ r => M_keep r vv) rm (V_keep vv), ?_⟩
  refine ⟨run_cs1 h4 hL (C_goBack rc vv) (fun _ _ r => M_goBack r vv) rm (V_goBack vv), ?_⟩
  refine ⟨run_cs1 h4 hL (C_difference rc vv) (fun _ _ r => MA.q (q_difference r vv) r) rm vv, ?_⟩
  refine ⟨run_cs0 (C_undo rc vv) (fun _ _ r => M_undo r vv) rm (V_undo vv), ?_⟩
  refine ⟨run_csD (C_digest rc vv) (fun _ _ r => q_digest r vv) rm vv, ?_⟩
  exact True.intro
theorem case_at {b Ln i : Nat} {xs : Nat → Int32} {hi : Nat → Nat → Int32} {hl : Nat → Nat → Int64} {S : St} (h4 : i + 4 ≤ Ln) (hL : Ln ≤ 2048) (rc : RC hi hl S) (rm : RM hi S) (vv : VV S) (t : Nat) (c : Fr) (hc : (css b Ln xs)[t]? = some c) : Run c (Lw b i, [], (66, hi, hl, rf0)) (Bo b i (34 - t)) := by
  obtain ⟨σ, H, V, B⟩ := S
  have := AllC.at (css b Ln xs) 0 t c (case_all h4 hL rc rm vv) hc
  rw [Nat.zero_add] at this
  exact this
