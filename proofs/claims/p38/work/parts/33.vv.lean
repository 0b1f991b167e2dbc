theorem sav_ok {H : List Sa} {σ : Sa} (h : ∀ τ ∈ H, SV τ) (h6 : H.length ≤ 6) (hs : SV σ) : (∀ τ ∈ savO H σ, SV τ) ∧ (savO H σ).length ≤ 6 := by
  unfold savO
  split
  · refine ⟨fun τ ht => ?_, by rw [List.length_append, List.length_drop, List.length_singleton]; omega⟩
    rcases List.mem_append.mp ht with z | z
    · exact h τ (List.mem_of_mem_drop z)
    · rw [List.mem_singleton.mp z]; exact hs
  · refine ⟨fun τ ht => ?_, by rw [List.length_append, List.length_singleton]; omega⟩
    rcases List.mem_append.mp ht with z | z
    · exact h τ z
    · rw [List.mem_singleton.mp z]; exact hs
section VvS
variable {S : St}
/-- a change: the state before is saved, the new one can be -/
theorem VV.chg {σ σ' : Sa} {H : List Sa} {V : Nat → Option Tr} {B : List Nat} (h : VV (σ, H, V, B)) (h' : SV σ') : VV (σ', savO H σ, V, B) := by
  obtain ⟨h1, h2, h3, h4, h5, h6⟩ := h
  obtain ⟨a, b⟩ := sav_ok h2 h3 h1
  exact ⟨h', a, b, h4, h5, h6⟩
theorem V_setLeafSize {x : Int32} (h : VV S) : VV (A_setLeafSize x S).2 := by
  obtain ⟨⟨T, ring, rc, mks, s, bal, bd⟩, H, V, B⟩ := S
  obtain ⟨v1, v2, v3, v4, v5, v6⟩ := id h.1
  unfold A_setLeafSize
  dsimp only
  split
  · rename_i hx
    obtain ⟨k, hk, rfl⟩ := nI_of2 (M := nI 16) (n := 16) (nI_toInt (by decide)) (Int32.not_lt.mpr (Int32.le_trans (by decide) hx.1)) hx.2
    have h2 := hx.1
    rw [nI_leI (by decide) (by omega)] at h2
    refine h.chg ⟨v1, v2, v3, v4, ?_, ?_⟩ <;> (unfold iN; rw [nI_clamp (by omega)]; omega)
  · exact h
theorem V_setBalancing {x : Int32} (h : VV S) : VV (A_setBalancing x S).2 := by
  obtain ⟨⟨T, ring, rc, mks, s, bal, bd⟩, H, V, B⟩ := S
  unfold A_setBalancing
  dsimp only
  split
  · exact h.chg h.1
  · exact h
theorem V_type {x : Int32} (h : VV S) : VV (A_type x S).2 := by
  obtain ⟨σ, H, V, B⟩ := S
  unfold A_type
  dsimp only
  split
  · exact h
  · split
    · exact h
    · rename_i hx hb
      obtain ⟨h1, h2, h3, h4, h5, h6⟩ := h
      refine ⟨h1, h2, h3, h4, by rw [List.length_append, List.length_singleton]; omega, fun c hc => ?_⟩
      rcases List.mem_append.mp hc with z | z
      · exact h6 c z
      · rw [List.mem_singleton.mp z]
        rcases Decidable.not_not.mp hx with q | q
        · obtain ⟨k, hk, rfl⟩ := nI_of2 (M := nI 126) (n := 126) (nI_toInt (by decide)) (Int32.not_lt.mpr (Int32.le_trans (by decide) q.1)) q.2
          unfold iN; rw [nI_clamp (by omega)]; omega
        · rw [q]; decide
theorem V_insert {x : Int32} (h : VV S) : VV (A_insert x S).2 := by
  obtain ⟨⟨T, ring, rc, mks, s, bal, bd⟩, H, V, B⟩ := S
  obtain ⟨v1, v2, v3, v4, v5, v6⟩ := id h.1
  unfold A_insert
  dsimp only
  split
  · exact h
  split
  · exact h
  split
  · exact h
  rename_i hx hb hl
  obtain ⟨e1, e2⟩ := isP_nI (by omega) (Decidable.not_not.mp hx)
  obtain ⟨m1, m2, _⟩ := makeT_ok (s := s) v5 v6 (l := B) (by have := h.2.2.2.2.1; omega) h.2.2.2.2.2
  have lm : len (makeT s B) = B.length := by unfold len; rw [m2]
  obtain ⟨i1, i2, _⟩ := insT_ok (s := s) (k := iN x) v6 v1 m1 e2
  obtain ⟨b1, b2⟩ := balO_ok (bal := bal) (bd := bd) i1 (by omega)
  obtain ⟨h1, h2, h3, h4, h5, h6⟩ := h.chg (σ' := ((balO (insT s T (makeT s B) (iN x)) bal bd).1, ring, rc, fun i => mon (iN x) B.length (mks i), s, bal, (balO (insT s T (makeT s B) (iN x)) bal bd).2)) ⟨b1, by omega, v3, v4, v5, v6⟩
  exact ⟨h1, h2, h3, h4, by decide, fun c hc => by cases hc⟩
theorem V_delete {x y : Int32} (h : VV S) : VV (A_delete x y S).2 := by
  obtain ⟨⟨T, ring, rc, mks, s, bal, bd⟩, H, V, B⟩ := S
  obtain ⟨v1, v2, v3, v4, v5, v6⟩ := id h.1
  unfold A_delete
  dsimp only
  split
  · exact h
  rename_i hw
  obtain ⟨e1, e2, e3, e4⟩ := why_ok v2 hw
  obtain ⟨o1, o2, o3, o4, _⟩ := outT_ok (s := s) (a := iN x) (b := iN y) v6 v1 (by omega) e4
  obtain ⟨b1, b2⟩ := balO_ok (bal := bal) (bd := bd) o1 (by omega)
  exact h.chg ⟨b1, by omega, v3, v4, v5, v6⟩
theorem cons_ok {R : Tr} {ring : Nat → Tr} (h1 : vt R ∧ len R ≤ 400) (h : ∀ i, i < 4 → vt (ring i) ∧ len (ring i) ≤ 400) : ∀ i, i < 4 → vt (consR R ring i) ∧ len (consR R ring i) ≤ 400
  | 0, _ => h1
  | i + 1, hi => h i (by omega)
theorem V_cut {x y : Int32} (h : VV S) : VV (A_cut x y S).2 := by
  obtain ⟨⟨T, ring, rc, mks, s, bal, bd⟩, H, V, B⟩ := S
  obtain ⟨v1, v2, v3, v4, v5, v6⟩ := id h.1
  unfold A_cut
  dsimp only
  split
  · exact h
  rename_i hw
  obtain ⟨e1, e2, e3, e4⟩ := why_ok v2 hw
  obtain ⟨o1, o2, o3, o4, _⟩ := outT_ok (s := s) (a := iN x) (b := iN y) v6 v1 (by omega) e4
  obtain ⟨b1, b2⟩ := balO_ok (bal := bal) (bd := bd) o1 (by omega)
  exact h.chg ⟨b1, by omega, cons_ok ⟨o2, by omega⟩ v3, Nat.min_le_right _ _, v5, v6⟩
theorem V_copy {x y : Int32} (h : VV S) : VV (A_copy x y S).2 := by
  obtain ⟨⟨T, ring, rc, mks, s, bal, bd⟩, H, V, B⟩ := S
  obtain ⟨v1, v2, v3, v4, v5, v6⟩ := id h.1
  unfold A_copy
  dsimp only
  split
  · exact h
  rename_i hw
  obtain ⟨e1, e2, e3, e4⟩ := why_ok v2 hw
  obtain ⟨o1, o2, o3, o4, _⟩ := outT_ok (s := s) (a := iN x) (b := iN y) v6 v1 (by omega) e4
  exact h.chg ⟨v1, v2, cons_ok ⟨o2, by omega⟩ v3, Nat.min_le_right _ _, v5, v6⟩
theorem V_paste {x r : Int32} (h : VV S) : VV (A_paste x r S).2 := by
  obtain ⟨⟨T, ring, rc, mks, s, bal, bd⟩, H, V, B⟩ := S
  obtain ⟨v1, v2, v3, v4, v5, v6⟩ := id h.1
  unfold A_paste
  dsimp only
  split
  · exact h
  split
  · exact h
  rename_i hx hl
  rw [not_or] at hx
  obtain ⟨e1, e2⟩ := isP_nI (by omega) (Decidable.not_not.mp hx.1)
  obtain ⟨f1, f2⟩ := isR_of (by omega) (Decidable.not_not.mp hx.2)
  obtain ⟨i1, i2, _⟩ := insT_ok (s := s) (k := iN x) v6 v1 (v3 (iN r) (by omega)).1 e2
  obtain ⟨b1, b2⟩ := balO_ok (bal := bal) (bd := bd) i1 (by omega)
  exact h.chg ⟨b1, by omega, v3, v4, v5, v6⟩
theorem V_move {x y z : Int32} (h : VV S) : VV (A_move x y z S).2 := by
  obtain ⟨⟨T, ring, rc, mks, s, bal, bd⟩, H, V, B⟩ := S
  obtain ⟨v1, v2, v3, v4, v5, v6⟩ := id h.1
  unfold A_move
  dsimp only
  split
  · exact h
  split
  · exact h
  rename_i hw hz
  obtain ⟨e1, e2, e3, e4⟩ := why_ok v2 hw
  obtain ⟨o1, o2, o3, o4, _⟩ := outT_ok (s := s) (a := iN x) (b := iN y) v6 v1 (by omega) e4
  obtain ⟨f1, f2⟩ := isP_nI (by omega) (Decidable.not_not.mp hz)
  obtain ⟨i1, i2, _⟩ := insT_ok (s := s) (k := iN z) v6 o1 o2 (by omega)
  obtain ⟨b1, b2⟩ := balO_ok (bal := bal) (bd := bd) i1 (by omega)
  exact h.chg ⟨b1, by omega, v3, v4, v5, v6⟩
theorem V_build (h : VV S) : VV (A_build S).2 := by
  obtain ⟨⟨T, ring, rc, mks, s, bal, bd⟩, H, V, B⟩ := S
  obtain ⟨v1, v2, v3, v4, v5, v6⟩ := id h.1
  obtain ⟨r1, r2⟩ := rebT_vt v1 v2
  exact h.chg ⟨r1, by unfold len; rw [r2]; exact v2, v3, v4, v5, v6⟩
theorem V_pack (h : VV S) : VV (A_pack S).2 := by
  obtain ⟨⟨T, ring, rc, mks, s, bal, bd⟩, H, V, B⟩ := S
  obtain ⟨v1, v2, v3, v4, v5, v6⟩ := id h.1
  obtain ⟨m1, m2, _⟩ := makeT_ok (s := s) v5 v6 (l := ch T) v2 (vt_c v1)
  exact h.chg ⟨m1, by unfold len; rw [m2]; exact v2, v3, v4, v5, v6⟩
theorem V_setMark {x y : Int32} (h : VV S) : VV (A_setMark x y S).2 := by
  obtain ⟨⟨T, ring, rc, mks, s, bal, bd⟩, H, V, B⟩ := S
  unfold A_setMark
  dsimp only
  split
  · exact h
  · exact h.chg h.1
end VvS

