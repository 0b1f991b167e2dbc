theorem sav_ok {H : List Sa} {σ : Sa} (h : ∀ τ ∈ H, SV τ) (h6 : H.length ≤ 6) (hs : SV σ) : (∀ τ ∈ savO H σ, SV τ) ∧ (savO H σ).length ≤ 6 := by
  unfold savO
  split
  · refine ⟨fun τ ht => ?_, by rw [List.length_append, List.length_drop, List.length_singleton]; omega⟩
    rcases List.mem_append.mp ht with z | z
    · exact h τ (List.mem_of_mem_drop z)
    · rw [List.mem_singleton.mp z]; exact hs
  · refine ⟨fun τ ht => ?_, by rw [List.length_append, List.length_singleton]; omega⟩
    rcases List.mem_append.mp ht with z | z
    · exact h τ z
    · rw [List.mem_singleton.mp z]; exact hs
section VvS
variable {S : St}
/-- a change: the state before is saved, the new one can be -/
theorem VV.chg {σ σ' : Sa} {H : List Sa} {V : Nat → Option Tr} {B : List Nat} (h : VV (σ, H, V, B)) (h' : SV σ') : VV (σ', savO H σ, V, B) := by
  obtain ⟨h1, h2, h3, h4, h5, h6⟩ := h
  obtain ⟨a, b⟩ := sav_ok h2 h3 h1
  exact ⟨h', a, b, h4, h5, h6⟩
theorem V_setLeafSize {x : Int32} (h : VV S) : VV (A_setLeafSize x S).2 := by
  obtain ⟨⟨T, ring, rc, mks, s, bal, bd⟩, H, V, B⟩ := S
  obtain ⟨v1, v2, v3, v4, v5, v6⟩ := id h.1
  unfold A_setLeafSize
  dsimp only
  split
  · rename_i hx
    obtain ⟨k, hk, rfl⟩ := nI_of2 (M := nI 16) (n := 16) (nI_toInt (by decide)) (Int32.not_lt.mpr (Int32.le_trans (by decide) hx.1)) hx.2
    have h2 := hx.1
    rw [nI_leI (by decide) (by omega)] at h2
    refine h.chg ⟨v1, v2, v3, v4, ?_, ?_⟩ <;> (unfold iN; rw [nI_clamp (by omega)]; omega)
  · exact h
theorem V_setBalancing {x : Int32} (h : VV S) : VV (A_setBalancing x S).2 := by
  obtain ⟨⟨T, ring, rc, mks, s, bal, bd⟩, H, V, B⟩ := S
  unfold A_setBalancing
  dsimp only
  split
  · exact h.chg h.1
  · exact h
theorem V_type {x : Int32} (h : VV S) : VV (A_type x S).2 := by
  obtain ⟨σ, H, V, B⟩ := S
  unfold A_type
  dsimp only
  split
  · exact h
  · split
    · exact h
    · rename_i hx hb
      obtain ⟨h1, h2, h3, h4, h5, h6⟩ := h
      refine ⟨h1, h2, h3, h4, by rw [List.length_append, List.length_singleton]; omega, fun c hc => ?_⟩
      rcases List.mem_append.mp hc with z | z
      · exact h6 c z
      · rw [List.mem_singleton.mp z]
        rcases Decidable.not_not.mp hx with q | q
        · obtain ⟨k, hk, rfl⟩ := nI_of2 (M := nI 126) (n := 126) (nI_toInt (by decide)) (Int32.not_lt.mpr (Int32.le_trans (by decide) q.1)) q.2
          unfold iN; rw [nI_clamp (by omega)]; omega
        · rw [q]; decide
theorem V_clearBuffer (h : VV S) : VV (A_clearBuffer S).2 := by
  obtain ⟨σ, H, V, B⟩ := S
  obtain ⟨h1, h2, h3, h4, h5, h6⟩ := h
  exact ⟨h1, h2, h3, h4, Nat.zero_le _, fun c hc => by cases hc⟩
theorem V_insert {x : Int32} (h : VV S) : VV (A_insert x S).2 := by
  obtain ⟨⟨T, ring, rc, mks, s, bal, bd⟩, H, V, B⟩ := S
  obtain ⟨v1, v2, v3, v4, v5, v6⟩ := id h.1
  unfold A_insert
  dsimp only
  split
  · exact h
  split
  · exact h
  split
  · exact h
  rename_i hx hb hl
  obtain ⟨e1, e2⟩ := isP_nI (by omega) (Decidable.not_not.mp hx)
  obtain ⟨m1, m2, _⟩ := makeT_ok (s := s) v5 v6 (l := B) (by have := h.2.2.2.2.1; omega) h.2.2.2.2.2
  have lm : len (makeT s B) = B.length := by unfold len; rw [m2]
  obtain ⟨i1, i2, _⟩ := insT_ok (s := s) (k := iN x) v6 v1 m1 e2
  obtain ⟨b1, b2⟩ := balO_ok (bal := bal) (bd := bd) i1 (by omega)
  obtain ⟨h1, h2, h3, h4, h5, h6⟩ := h.chg (σ' := ((balO (insT s T (makeT s B) (iN x)) bal bd).1, ring, rc, fun i => mon (iN x) B.length (mks i), s, bal, (balO (insT s T (makeT s B) (iN x)) bal bd).2)) ⟨b1, by omega, v3, v4, v5, v6⟩
  exact ⟨h1, h2, h3, h4, by decide, fun c hc => by cases hc⟩
theorem V_delete {x y : Int32} (h : VV S) : VV (A_delete x y S).2 := by
  obtain ⟨⟨T, ring, rc, mks, s, bal, bd⟩, H, V, B⟩ := S
  obtain ⟨v1, v2, v3, v4, v5, v6⟩ := id h.1
  unfold A_delete
  dsimp only
  split
  · exact h
  rename_i hw
  obtain ⟨e1, e2, e3, e4⟩ := why_ok v2 hw
  obtain ⟨o1, o2, o3, o4, _⟩ := outT_ok (s := s) (a := iN x) (b := iN y) v6 v1 (by omega) e4
  obtain ⟨b1, b2⟩ := balO_ok (bal := bal) (bd := bd) o1 (by omega)
  exact h.chg ⟨b1, by omega, v3, v4, v5, v6⟩
theorem cons_ok {R : Tr} {ring : Nat → Tr} (h1 : vt R ∧ len R ≤ 400) (h : ∀ i, i < 4 → vt (ring i) ∧ len (ring i) ≤ 400) : ∀ i, i < 4 → vt (consR R ring i) ∧ len (consR R ring i) ≤ 400
  | 0, _ => h1
  | i + 1, hi => h i (by omega)
theorem V_cut {x y : Int32} (h : VV S) : VV (A_cut x y S).2 := by
  obtain ⟨⟨T, ring, rc, mks, s, bal, bd⟩, H, V, B⟩ := S
  obtain ⟨v1, v2, v3, v4, v5, v6⟩ := id h.1
  unfold A_cut
  dsimp only
  split
  · exact h
  rename_i hw
  obtain ⟨e1, e2, e3, e4⟩ := why_ok v2 hw
  obtain ⟨o1, o2, o3, o4, _⟩ := outT_ok (s := s) (a := iN x) (b := iN y) v6 v1 (by omega) e4
  obtain ⟨b1, b2⟩ := balO_ok (bal := bal) (bd := bd) o1 (by omega)
  exact h.chg ⟨b1, by omega, cons_ok ⟨o2, by omega⟩ v3, Nat.min_le_right _ _, v5, v6⟩
theorem V_copy {x y : Int32} (h : VV S) : VV (A_copy x y S).2 := by
  obtain ⟨⟨T, ring, rc, mks, s, bal, bd⟩, H, V, B⟩ := S
  obtain ⟨v1, v2, v3, v4, v5, v6⟩ := id h.1
  unfold A_copy
  dsimp only
  split
  · exact h
  rename_i hw
  obtain ⟨e1, e2, e3, e4⟩ := why_ok v2 hw
  obtain ⟨o1, o2, o3, o4, _⟩ := outT_ok (s := s) (a := iN x) (b := iN y) v6 v1 (by omega) e4
  exact h.chg ⟨v1, v2, cons_ok ⟨o2, by omega⟩ v3, Nat.min_le_right _ _, v5, v6⟩
theorem V_paste {x r : Int32} (h : VV S) : VV (A_paste x r S).2 := by
  obtain ⟨⟨T, ring, rc, mks, s, bal, bd⟩, H, V, B⟩ := S
  obtain ⟨v1, v2, v3, v4, v5, v6⟩ := id h.1
  unfold A_paste
  dsimp only
  split
  · exact h
  split
  · exact h
  rename_i hx hl
  rw [not_or] at hx
  obtain ⟨e1, e2⟩ := isP_nI (by omega) (Decidable.not_not.mp hx.1)
  obtain ⟨f1, f2⟩ := isR_of (by omega) (Decidable.not_not.mp hx.2)
  obtain ⟨i1, i2, _⟩ := insT_ok (s := s) (k := iN x) v6 v1 (v3 (iN r) (by omega)).1 e2
  obtain ⟨b1, b2⟩ := balO_ok (bal := bal) (bd := bd) i1 (by omega)
  exact h.chg ⟨b1, by omega, v3, v4, v5, v6⟩
theorem V_move {x y z : Int32} (h : VV S) : VV (A_move x y z S).2 := by
  obtain ⟨⟨T, ring, rc, mks, s, bal, bd⟩, H, V, B⟩ := S
  obtain ⟨v1, v2, v3, v4, v5, v6⟩ := id h.1
  unfold A_move
  dsimp only
  split
  · exact h
  split
  · exact h
  rename_i hw hz
  obtain ⟨e1, e2, e3, e4⟩ := why_ok v2 hw
  obtain ⟨o1, o2, o3, o4, _⟩ := outT_ok (s := s) (a := iN x) (b := iN y) v6 v1 (by omega) e4
  obtain ⟨f1, f2⟩ := isP_nI (by omega) (Decidable.not_not.mp hz)
  obtain ⟨i1, i2, _⟩ := insT_ok (s := s) (k := iN z) v6 o1 o2 (by omega)
  obtain ⟨b1, b2⟩ := balO_ok (bal := bal) (bd := bd) i1 (by omega)
  exact h.chg ⟨b1, by omega, v3, v4, v5, v6⟩
theorem V_build (h : VV S) : VV (A_build S).2 := by
  obtain ⟨⟨T, ring, rc, mks, s, bal, bd⟩, H, V, B⟩ := S
  obtain ⟨v1, v2, v3, v4, v5, v6⟩ := id h.1
  obtain ⟨r1, r2⟩ := rebT_vt v1 v2
  exact h.chg ⟨r1, by unfold len; rw [r2]; exact v2, v3, v4, v5, v6⟩
theorem V_pack (h : VV S) : VV (A_pack S).2 := by
  obtain ⟨⟨T, ring, rc, mks, s, bal, bd⟩, H, V, B⟩ := S
  obtain ⟨v1, v2, v3, v4, v5, v6⟩ := id h.1
  obtain ⟨m1, m2, _⟩ := makeT_ok (s := s) v5 v6 (l := ch T) v2 (vt_c v1)
  exact h.chg ⟨m1, by unfold len; rw [m2]; exact v2, v3, v4, v5, v6⟩
theorem V_setMark {x y : Int32} (h : VV S) : VV (A_setMark x y S).2 := by
  obtain ⟨⟨T, ring, rc, mks, s, bal, bd⟩, H, V, B⟩ := S
  unfold A_setMark
  dsimp only
  split
  · exact h
  · exact h.chg h.1
theorem V_keep {x : Int32} (h : VV S) : VV (A_keep x S).2 := by
  obtain ⟨⟨T, ring, rc, mks, s, bal, bd⟩, H, V, B⟩ := S
  unfold A_keep
  dsimp only
  split
  · obtain ⟨h1, h2, h3, h4, h5, h6⟩ := h
    refine ⟨h1, h2, h3, fun v U e => ?_, h5, h6⟩
    dsimp only at e
    split at e
    · cases e; exact ⟨h1.1, h1.2.1⟩
    · exact h4 v U e
  · exact h
theorem V_goBack {x : Int32} (h : VV S) : VV (A_goBack x S).2 := by
  obtain ⟨⟨T, ring, rc, mks, s, bal, bd⟩, H, V, B⟩ := S
  obtain ⟨v1, v2, v3, v4, v5, v6⟩ := id h.1
  unfold A_goBack
  dsimp only
  split
  · exact h
  cases e : V (iN x) with
  | none => exact h
  | some U =>
    have := h.2.2.2.1 _ U e
    exact h.chg ⟨this.1, this.2, v3, v4, v5, v6⟩
theorem V_undo (h : VV S) : VV (A_undo S).2 := by
  obtain ⟨σ, H, V, B⟩ := S
  unfold A_undo
  dsimp only
  cases e : H.getLast? with
  | none => exact h
  | some τ =>
    obtain ⟨h1, h2, h3, h4, h5, h6⟩ := h
    refine ⟨h2 τ (List.mem_of_getLast? e), fun q hq => h2 q ((List.dropLast_sublist _).subset hq), ?_, h4, h5, h6⟩
    rw [List.length_dropLast]; omega
theorem rep_ok {s : Nat} {B C : List Nat} {R : Tr} (hs : s ≤ 16) (hB0 : 0 < B.length) (vr : vt R) : ∀ n (T : Tr) (mks : Nat → Int32) k f p, vt T → k ≤ len T → p ≤ C.length → (ch T).drop k = C.drop p → occF C B f p = n → vt (repF s B R n (T, mks, k)).1 ∧ len (repF s B R n (T, mks, k)).1 + n * B.length = len T + n * len R
  | 0, T, mks, k, f, p, vT, hk, hp, hd, ho => ⟨vT, by rw [repF_0]; show len T + _ = _; omega⟩
  | n + 1, T, mks, k, f, p, vT, hk, hp, hd, ho => by
    cases e : fnd C B p with
    | none => rw [occF_n e] at ho; omega
    | some q =>
      obtain ⟨f, rfl⟩ : ∃ j, f = j + 1 := by
        cases f with
        | zero => rw [show occF C B 0 p = 0 from rfl] at ho; omega
        | succ j => exact ⟨j, rfl⟩
      rw [occF_s e] at ho
      obtain ⟨q1, q2⟩ := fnd_some _ _ _ e
      obtain ⟨j, rfl⟩ : ∃ j, q = p + j := ⟨q - p, by omega⟩
      have eT : (ch T).length = len T := rfl
      have e' := fnd_sh hB0 _ C (ch T) p k j rfl hd.symm (by omega) (by omega) e
      obtain ⟨q3, q4⟩ := fnd_some _ _ _ e'
      rw [repF_s e']
      obtain ⟨o1, o2, o3, o4, o5, o6⟩ := outT_ok (s := s) (a := k + j) (b := k + j + B.length) hs vT (by omega) (by omega)
      obtain ⟨i1, i2, i3⟩ := insT_ok (s := s) (k := k + j) hs o1 vr (by omega)
      have hd2 : (ch (insT s (outT s T (k + j) (k + j + B.length)).1 R (k + j))).drop (k + j + len R) = C.drop (p + j + B.length) := by
        rw [i3, o5, List.take_append_of_le_length (by rw [List.length_take]; omega), List.drop_append_of_le_length (l₁ := (ch T).take (k + j)) (by rw [List.length_take]; omega)]
        have x1 : ((ch T).take (k + j)).length = k + j := by rw [List.length_take]; omega
        rw [List.take_of_length_le (by omega), List.drop_eq_nil_of_le (as := (ch T).take (k + j)) (by omega), List.nil_append, List.drop_append_of_le_length (by rw [List.length_append, x1]; exact Nat.le_refl _), List.drop_eq_nil_of_le (by rw [List.length_append, x1]; exact Nat.le_refl _), List.nil_append]
        have y1 := congrArg (List.drop (j + B.length)) hd
        rw [List.drop_drop, List.drop_drop] at y1
        rw [Nat.add_assoc, Nat.add_assoc]
        exact y1
      obtain ⟨r1, r2⟩ := rep_ok hs hB0 vr n _ (fun i => mon (k + j) (len R) (mbk (k + j) (k + j + B.length) (mks i))) (k + j + len R) f (p + j + B.length) i1 (by omega) (by omega) hd2 (by omega)
      refine ⟨r1, ?_⟩
      rw [Nat.succ_mul, Nat.succ_mul]
      omega
theorem V_replaceAll (h : VV S) : VV (A_replaceAll S).2 := by
  obtain ⟨⟨T, ring, rc, mks, s, bal, bd⟩, H, V, B⟩ := S
  obtain ⟨v1, v2, v3, v4, v5, v6⟩ := id h.1
  unfold A_replaceAll
  dsimp only
  split
  · exact h
  split
  · exact h
  rename_i h0 hl
  split
  · exact h.chg h.1
  obtain ⟨r1, r2⟩ := rep_ok (C := ch T) (B := B) v6 (by omega) (v3 0 (by decide)).1 _ T mks 0 401 0 v1 (Nat.zero_le _) (Nat.zero_le _) rfl rfl
  obtain ⟨b1, b2⟩ := balO_ok (bal := bal) (bd := bd) r1 (by omega)
  exact h.chg ⟨b1, by omega, v3, v4, v5, v6⟩
end VvS
