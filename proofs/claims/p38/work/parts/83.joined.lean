theorem tR_L {t : Tr} (h : isL t = true) : tR t = .nil ∧ tl t = .nil := by cases t <;> first | exact ⟨rfl, rfl⟩ | cases h
theorem fit_eq {s : Nat} {a b : Tr} : fit s a b = (isL a && isL b && decide (len a + len b ≤ s)) := rfl
section JoinedS
variable {s : Nat} {A B A1 A2 B1 B2 : Tr} {f : Nat → Int32} {x : Int32} {p : Nat × Nat}
theorem jt_1 (vA : vn A) (vB : vn B) (hA : isL A = true) (hB : isL B = true) (h : len A + len B ≤ s) : joinT s A B = lf (ch A ++ ch B) := by
  unfold joinT
  rw [if_neg (by rw [vn_nN vA]; decide), if_neg (by rw [vn_nN vB]; decide), if_pos (by rw [fit_eq, hA, hB]; simpa using h)]
theorem jt_2 (vA2 : vn A2) (vB : vn B) (hA : isL A2 = true) (hB : isL B = true) (h : len A2 + len B ≤ s) : joinT s (.append A1 A2) B = pr A1 (lf (ch A2 ++ ch B)) := by
  unfold joinT
  rw [if_neg (fun z => by cases z), if_neg (by rw [vn_nN vB]; decide), if_neg (by rw [fit_eq]; simp [isL]), if_pos (by rw [fit_eq]; simp [tR, hA, hB, h])]
  rfl
theorem jt_3 (vA : vn A) (hA : isL A = true) (hB : isL B1 = true) (h : len A + len B1 ≤ s) : joinT s A (.append B1 B2) = pr (lf (ch A ++ ch B1)) B2 := by
  unfold joinT
  rw [if_neg (by rw [vn_nN vA]; decide), if_neg (fun z => by cases z), if_neg (by rw [fit_eq]; simp [isL]), if_neg (by rw [fit_eq]; simp [isL]), if_pos (by rw [fit_eq]; simp [tl, hA, hB, h])]
  rfl
/-- else: a pair -/
theorem jt_4 (vA : vn A) (vB : vn B) (h1 : isL A = true → isL B = true → ¬ len A + len B ≤ s) (h2 : isL (tR A) = true → isL B = true → ¬ len (tR A) + len B ≤ s) (h3 : isL A = true → isL (tl B) = true → ¬ len A + len (tl B) ≤ s) : joinT s A B = pr A B := by
  have key : ∀ X Y : Tr, (isL X = true → isL Y = true → ¬ len X + len Y ≤ s) → ¬ fit s X Y = true := fun X Y h z => by
    obtain ⟨z1, z2, z3⟩ := fit_ok z
    exact h z1 z2 z3
  unfold joinT
  rw [if_neg (by rw [vn_nN vA]; decide), if_neg (by rw [vn_nN vB]; decide), if_neg (key _ _ h1), if_neg (key _ _ h2), if_neg (key _ _ h3)]
theorem lf_len {C D : List Nat} : (C ++ D).length = len (lf C) + len (lf D) := by unfold len; rw [ch_lf, ch_lf, List.length_append]
theorem len_ch {t : Tr} : (ch t).length = len t := rfl
theorem ch_ne (vA : vn A) {D : List Nat} : ch A ++ D ≠ [] := fun z => by
  have := vn_len vA
  have e := congrArg List.length z
  rw [List.length_append, List.length_nil, len_ch] at e
  omega
theorem row_1 (vA : vn A) (r : Row f A) (h1 : nlv A = 1) (hx : x = nI (len A + len B)) : Row (upd f (nlv A - 1) x) (lf (ch A ++ ch B)) := by
  refine ⟨by rw [upd_n (by omega), nlv_lf (ch_ne vA), r.1, h1], Reg.lf (ch_ne vA) ?_⟩
  rw [h1, upd_s, hx]
  unfold enc
  rw [List.length_append]; rfl
theorem row_2 (v1 : vn A1) (v2 : vn A2) (r : Row f (.append A1 A2)) (h6 : nlv (.append A1 A2) ≤ 62) (h1 : nlv A2 = 1) (hx : x = nI (len A2 + len B)) : Row (upd f (nlv (.append A1 A2) - 1) x) (pr A1 (lf (ch A2 ++ ch B))) := by
  have e := nlv_p v1 v2
  have n1 := nlv_pos v1
  have e2 : nlv (pr A1 (lf (ch A2 ++ ch B))) = nlv A1 + 1 := by
    show (fl 0 (pr A1 (lf (ch A2 ++ ch B)))).length = _
    rw [fl_p, List.length_append, fl_len v1, fl_lf (ch_ne v2)]; rfl
  refine ⟨by rw [upd_n (by omega), e2, r.1, e, h1], Reg.mk (Reg.cong (r.2.l v1) (Or.inr v1) fun j _ hj => upd_n (by omega)) (Reg.lf (ch_ne v2) ?_) v1⟩
  rw [e, h1, Nat.zero_add, Nat.add_sub_cancel, upd_s, hx]
  unfold enc
  rw [List.length_append]; rfl
theorem row_3 (v1 : vn B1) (v2 : vn B2) (vA : vn A) (r : Row f (.append B1 B2)) (h6 : nlv (.append B1 B2) ≤ 62) (h1 : nlv B1 = 1) (hx : x = nI (len B1 + len A)) : Row (upd f 0 x) (pr (lf (ch A ++ ch B1)) B2) := by
  have e := nlv_p v1 v2
  have rr := r.2.r v1
  have q1 : ∀ d g, gs d g (lf (ch A ++ ch B1)) = [((ch A ++ ch B1).length, g)] := fun d g => gs_lf (ch_ne vA)
  have e2 : nlv (pr (lf (ch A ++ ch B1)) B2) = 1 + nlv B2 := by
    show (fl 0 (pr (lf (ch A ++ ch B1)) B2)).length = _
    rw [fl_p, List.length_append, fl_len v2, fl_lf (ch_ne vA)]; rfl
  refine ⟨by rw [upd_n (by omega), e2, r.1, e, h1], fun i p hp => ?_⟩
  rw [gs_p, q1] at hp
  rw [Nat.zero_add]
  cases i with
  | zero =>
    cases hp
    rw [upd_s, hx]
    unfold enc
    rw [List.length_append, len_ch, len_ch, Nat.add_comm (len A)]; rfl
  | succ i =>
    have hp2 : (gs 1 0 B2)[i]? = some p := hp
    rw [upd_n (by omega)]
    have := rr i p hp2
    rw [h1, Nat.zero_add, Nat.add_comm] at this
    exact this
theorem pen_gap (v1 : vn A1) (v2 : vn A2) (hp : (gs 0 0 (.append A1 A2))[nlv (.append A1 A2) - 2]? = some p) : p.2 = 0 ↔ isL A2 = true := by
  have e := nlv_p v1 v2
  have n1 := nlv_pos v1
  have n2 := nlv_pos v2
  rw [gs_p, e] at hp
  rcases vn_cs v2 with ⟨z1, z2, -⟩ | ⟨a, b, rfl, va, vb⟩
  · rw [List.getElem?_append_left (by rw [gs_len v1]; omega)] at hp
    have := (gs_in v1 _ _ _ _ hp).2.2.2.1 (by omega)
    exact ⟨fun _ => z1, fun _ => this⟩
  · have e3 := nlv_p va vb
    have n3 := nlv_pos va
    have n4 := nlv_pos vb
    rw [List.getElem?_append_right (by rw [gs_len v1]; omega), gs_len v1] at hp
    have := ((gs_in v2 _ _ _ _ hp).2.2.2.2 (by omega)).1
    exact ⟨fun z => by omega, fun z => by cases z⟩
theorem fst_gap (v1 : vn B1) (v2 : vn B2) (hp : (gs 0 0 (.append B1 B2))[0]? = some p) : (p.2 = 0 ↔ isL B1 = true) ∧ (isL B1 = true → p.1 = len B1) := by
  have n1 := nlv_pos v1
  rw [gs_p, List.getElem?_append_left (by rw [gs_len v1]; omega)] at hp
  rcases vn_cs v1 with ⟨z1, z2, -, -, -, -, z3⟩ | ⟨a, b, rfl, va, vb⟩
  · rw [z3] at hp
    cases hp
    exact ⟨⟨fun _ => z1, fun _ => rfl⟩, fun _ => rfl⟩
  · have e3 := nlv_p va vb
    have n3 := nlv_pos va
    have n4 := nlv_pos vb
    have := ((gs_in v1 _ _ _ _ hp).2.2.2.2 (by omega)).1
    exact ⟨⟨fun z => by omega, fun z => by cases z⟩, fun z => by cases z⟩
theorem lst_sz (v1 : vn A1) (v2 : vn A2) (h : isL A2 = true) (hp : (gs 0 0 (.append A1 A2))[nlv (.append A1 A2) - 1]? = some p) : p.1 = len A2 := by
  have e := nlv_p v1 v2
  rcases vn_cs v2 with ⟨z1, z2, -, -, -, -, z3⟩ | ⟨a, b, rfl, va, vb⟩
  · rw [gs_p, e, List.getElem?_append_right (by rw [gs_len v1]; omega), gs_len v1, z3, z2, Nat.add_sub_cancel, Nat.sub_self] at hp
    cases hp; rfl
  · cases h
end JoinedS
