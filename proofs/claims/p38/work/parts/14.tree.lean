abbrev Tr : Type := Std.Format
def ch : Tr → List Nat
  | .nest c t => c.toNat :: ch t
  | .append a b => ch a ++ ch b
  | _ => []
def lf : List Nat → Tr
  | [] => .nil
  | c :: cs => .nest (c : Int) (lf cs)
abbrev pr (a b : Tr) : Tr := .append a b
def isL : Tr → Bool
  | .nest _ _ => true
  | _ => false
def isN : Tr → Bool
  | .nil => true
  | _ => false
def tl : Tr → Tr
  | .append a _ => a
  | _ => .nil
def tR : Tr → Tr
  | .append _ b => b
  | _ => .nil
def len (t : Tr) : Nat := (ch t).length
/-- the leaves: sizes and levels -/
def fl : Nat → Tr → List (Nat × Nat)
  | d, .nest _ t => [((ch t).length + 1, d)]
  | d, .append a b => fl (d + 1) a ++ fl (d + 1) b
  | _, _ => []
def nlv (t : Tr) : Nat := (fl 0 t).length
def dp : Tr → Nat
  | .append a b => 1 + max (dp a) (dp b)
  | _ => 0
/-- a rope that isn't empty, as the document has it -/
def vn : Tr → Prop
  | .nest c t => (∃ cs, Std.Format.nest c t = lf cs) ∧ (ch t).length + 1 ≤ 16 ∧ ∀ x ∈ c.toNat :: ch t, x < 128
  | .append a b => vn a ∧ vn b
  | _ => False
def vt (t : Tr) : Prop := t = .nil ∨ vn t
theorem ch_lf : ∀ l : List Nat, ch (lf l) = l
  | [] => rfl
  | c :: cs => by
    show Int.toNat (c : Int) :: ch (lf cs) = _
    rw [ch_lf cs]; rfl
theorem vn_lf {l : List Nat} (h0 : l ≠ []) (h1 : l.length ≤ 16) (h2 : ∀ x ∈ l, x < 128) : vn (lf l) := by
  cases l with
  | nil => exact absurd rfl h0
  | cons c cs =>
    refine ⟨⟨c :: cs, rfl⟩, by rw [ch_lf]; exact h1, fun x hx => ?_⟩
    rw [ch_lf] at hx
    exact h2 x hx
theorem vn_ind {P : (t : Tr) → vn t → Prop} (h1 : ∀ (l : List Nat) (h0 : l ≠ []) (h1 : l.length ≤ 16) (h2 : ∀ x ∈ l, x < 128), P (lf l) (vn_lf h0 h1 h2)) (h2 : ∀ (a b : Tr) (ha : vn a) (hb : vn b), P a ha → P b hb → P (.append a b) ⟨ha, hb⟩) : ∀ (t : Tr) (h : vn t), P t h
  | .nest c t, h => by
    have key : ∀ (cs : List Nat) (u : Tr) (hu : vn u), u = lf cs → (cs ≠ [] ∧ cs.length ≤ 16 ∧ ∀ x ∈ cs, x < 128) → P u hu := by
      rintro cs u hu rfl ⟨a, b, c⟩; exact h1 cs a b c
    obtain ⟨⟨cs, e⟩, h3, h4⟩ := id h
    have hc : c.toNat :: ch t = cs := by
      have := congrArg ch e
      rw [ch_lf] at this
      exact this
    refine key cs _ h e ⟨?_, ?_, ?_⟩
    · rintro rfl; cases hc
    · rw [← hc]; exact h3
    · rw [← hc]; exact h4
  | .append a b, h => h2 a b h.1 h.2 (vn_ind h1 h2 a h.1) (vn_ind h1 h2 b h.2)
  | .nil, h => h.elim
  | .line, h => h.elim
  | .align _, h => h.elim
  | .text _, h => h.elim
  | .group _ _, h => h.elim
  | .tag _ _, h => h.elim
theorem fl_lf {d : Nat} {l : List Nat} (h : l ≠ []) : fl d (lf l) = [(l.length, d)] := by
  cases l with
  | nil => exact absurd rfl h
  | cons c cs => show [((ch (lf cs)).length + 1, d)] = _; rw [ch_lf]; rfl
theorem isL_lf {l : List Nat} (h : l ≠ []) : isL (lf l) = true := by
  cases l with
  | nil => exact absurd rfl h
  | cons c cs => rfl
theorem dp_lf {l : List Nat} : dp (lf l) = 0 := by cases l <;> rfl
theorem lf_of {t : Tr} (h : vn t) (hL : isL t = true) : t = lf (ch t) := by
  induction t, h using vn_ind with
  | h1 l h0 h1 h2 => rw [ch_lf]
  | h2 a b _ _ _ _ => cases hL
theorem vn_nN {t : Tr} (h : vn t) : isN t = false := by
  cases t <;> first | rfl | exact h.elim
theorem vn_len {t : Tr} (h : vn t) : 1 ≤ len t := by
  induction t, h using vn_ind with
  | h1 l h0 _ _ => unfold len; rw [ch_lf]; cases l with | nil => exact absurd rfl h0 | cons c cs => simp
  | h2 a b _ _ i1 i2 => unfold len at *; show 1 ≤ (ch a ++ ch b).length; rw [List.length_append]; omega
theorem vn_c {t : Tr} (h : vn t) : ∀ x ∈ ch t, x < 128 := by
  induction t, h using vn_ind with
  | h1 l _ _ h2 => rw [ch_lf]; exact h2
  | h2 a b _ _ i1 i2 => intro x hx; rcases List.mem_append.mp hx with q | q; exact i1 x q; exact i2 x q
theorem len_p {a b : Tr} : len (.append a b) = len a + len b := by unfold len; show (ch a ++ ch b).length = _; rw [List.length_append]
theorem fl_p {d : Nat} {a b : Tr} : fl d (.append a b) = fl (d + 1) a ++ fl (d + 1) b := rfl
theorem fl_sh (e : Nat) {t : Tr} (h : vn t) : ∀ d, fl (d + e) t = (fl d t).map fun p => (p.1, p.2 + e) := by
  induction t, h using vn_ind with
  | h1 l h0 _ _ => intro d; rw [fl_lf h0, fl_lf h0]; rfl
  | h2 a b _ _ i1 i2 => intro d; rw [fl_p, fl_p, List.map_append, ← i1, ← i2, Nat.add_right_comm]
theorem fl_len {t : Tr} (h : vn t) (d : Nat) : (fl d t).length = nlv t := by
  have := congrArg List.length (fl_sh d h 0)
  rw [Nat.zero_add] at this
  rw [this, List.length_map]; rfl
theorem nlv_p {a b : Tr} (ha : vn a) (hb : vn b) : nlv (.append a b) = nlv a + nlv b := by
  unfold nlv; rw [fl_p, List.length_append, fl_len ha, fl_len hb]; rfl
theorem nlv_lf {l : List Nat} (h : l ≠ []) : nlv (lf l) = 1 := by unfold nlv; rw [fl_lf h]; rfl
theorem nlv_pos {t : Tr} (h : vn t) : 1 ≤ nlv t := by
  induction t, h using vn_ind with
  | h1 l h0 _ _ => rw [nlv_lf h0]; exact Nat.le_refl _
  | h2 a b ha hb i1 i2 => rw [nlv_p ha hb]; omega
theorem nlv_len {t : Tr} (h : vn t) : nlv t ≤ len t := by
  induction t, h using vn_ind with
  | h1 l h0 h1 h2 => rw [nlv_lf h0]; exact vn_len (vn_lf h0 h1 h2)
  | h2 a b ha hb i1 i2 => rw [nlv_p ha hb, len_p]; omega
theorem dp_nlv {t : Tr} (h : vn t) : dp t + 1 ≤ nlv t := by
  induction t, h using vn_ind with
  | h1 l h0 _ _ => rw [nlv_lf h0, dp_lf]; exact Nat.le_refl _
  | h2 a b ha hb i1 i2 => rw [nlv_p ha hb]; show 1 + max (dp a) (dp b) + 1 ≤ _; have := nlv_pos ha; have := nlv_pos hb; omega
def fst1 : Nat → Tr → Nat × Nat
  | d, .append a _ => fst1 (d + 1) a
  | d, t => (len t, d)
def lst1 : Nat → Tr → Nat × Nat
  | d, .append _ b => lst1 (d + 1) b
  | d, t => (len t, d)
def fit (s : Nat) (a b : Tr) : Bool := isL a && isL b && decide (len a + len b ≤ s)
def joinT (s : Nat) (a b : Tr) : Tr :=
  if isN a = true then b else if isN b = true then a
  else if fit s a b = true then lf (ch a ++ ch b)
  else if fit s (tR a) b = true then pr (tl a) (lf (ch (tR a) ++ ch b))
  else if fit s a (tl b) = true then pr (lf (ch a ++ ch (tl b))) (tR b)
  else pr a b
def splitT (s : Nat) : Tr → Nat → Tr × Tr
  | .append a b, k => if k = 0 then (.nil, .append a b) else if k = len a + len b then (.append a b, .nil)
    else if k = len a then (a, b)
    else if k < len a then ((splitT s a k).1, joinT s (splitT s a k).2 b)
    else (joinT s a (splitT s b (k - len a)).1, (splitT s b (k - len a)).2)
  | t, k => if k = 0 then (.nil, t) else if k = len t then (t, .nil) else (lf ((ch t).take k), lf ((ch t).drop k))
def lvs : Tr → List Tr
  | .append a b => lvs a ++ lvs b
  | .nest c t => [.nest c t]
  | _ => []
def buildT : Nat → List Tr → Tr
  | 0, _ => .nil
  | d + 1, l => if l.length = 0 then .nil else if l.length = 1 then l.headD .nil else pr (buildT d (l.take ((l.length + 1) / 2))) (buildT d (l.drop ((l.length + 1) / 2)))
def chunks (s : Nat) : Nat → List Nat → List Tr
  | 0, _ => []
  | n + 1, l => if l.length = 0 then [] else lf (l.take s) :: chunks s n (l.drop s)
def makeT (s : Nat) (l : List Nat) : Tr := buildT 21 (chunks s l.length l)
def fbs : Nat → Nat × Nat
  | 0 => (1, 2)
  | n + 1 => if (fbs n).1 ≤ 400 then ((fbs n).2, (fbs n).1 + (fbs n).2) else fbs n
def balT (t : Tr) : Bool := decide (len t = 0 ∨ (fbs (dp t)).1 ≤ len t)
theorem fit_ok {s : Nat} {a b : Tr} (h : fit s a b = true) : isL a = true ∧ isL b = true ∧ len a + len b ≤ s := by
  simpa [fit, and_assoc] using h
theorem joinT_ch {s : Nat} {a b : Tr} (ha : vt a) (hb : vt b) : ch (joinT s a b) = ch a ++ ch b := by
  have n0 : ∀ t : Tr, isN t = true → ch t = [] := fun t h => by cases t <;> first | rfl | cases h
  unfold joinT
  split
  · next h => rw [n0 _ h]; rfl
  · split
    · next h => rw [n0 _ h, List.append_nil]
    · split
      · rw [ch_lf]
      · split
        · next h =>
          cases a <;> first | (show ch (tl _) ++ ch (lf _) = _; rw [ch_lf]; exact (List.append_assoc _ _ _).symm) | (exact absurd (show false = true from (fit_ok h).1) (by decide))
        · split
          · next h =>
            cases b <;> first | (show ch (lf _) ++ ch (tR _) = _; rw [ch_lf]; exact List.append_assoc _ _ _) | (exact absurd (show false = true from (fit_ok h).2.1) (by decide))
          · rfl
theorem vn_cat {s : Nat} {a b : Tr} (ha : vn a) (hb : vn b) (h : fit s a b = true) (hs : s ≤ 16) : vn (lf (ch a ++ ch b)) := by
  obtain ⟨-, -, h3⟩ := fit_ok h
  refine vn_lf ?_ ?_ ?_
  · have h9 := vn_len ha; intro z; have e := congrArg List.length z; rw [List.length_append, List.length_nil] at e; unfold len at h9; omega
  · rw [List.length_append]; unfold len at h3; omega
  · intro x hx; rcases List.mem_append.mp hx with q | q; exact vn_c ha x q; exact vn_c hb x q
theorem joinT_vn {s : Nat} {a b : Tr} (ha : vt a) (hb : vt b) (hs : s ≤ 16) (hne : ¬ (a = .nil ∧ b = .nil)) : vn (joinT s a b) := by
  unfold joinT
  rcases ha with rfl | ha
  · rw [if_pos (show isN .nil = true from rfl)]
    rcases hb with rfl | hb
    · exact absurd ⟨rfl, rfl⟩ hne
    · exact hb
  · rw [if_neg (by rw [vn_nN ha]; decide)]
    rcases hb with rfl | hb
    · rw [if_pos (show isN .nil = true from rfl)]; exact ha
    · rw [if_neg (by rw [vn_nN hb]; decide)]
      split
      · next h => exact vn_cat ha hb h hs
      · split
        · next h =>
          cases a <;> first | exact ⟨ha.1, vn_cat ha.2 hb h hs⟩ | (exact absurd (show false = true from (fit_ok h).1) (by decide))
        · split
          · next h =>
            cases b <;> first | exact ⟨vn_cat ha hb.1 h hs, hb.2⟩ | (exact absurd (show false = true from (fit_ok h).2.1) (by decide))
          · exact ⟨ha, hb⟩
theorem joinT_vt {s : Nat} {a b : Tr} (ha : vt a) (hb : vt b) (hs : s ≤ 16) : vt (joinT s a b) := by
  by_cases h : a = .nil ∧ b = .nil
  · obtain ⟨rfl, rfl⟩ := h; exact Or.inl rfl
  · exact Or.inr (joinT_vn ha hb hs h)
theorem joinT_len {s : Nat} {a b : Tr} (ha : vt a) (hb : vt b) : len (joinT s a b) = len a + len b := by unfold len; rw [joinT_ch ha hb, List.length_append]
theorem vn_take {t : Tr} {k : Nat} (h : vn t) (hL : isL t = true) (h0 : 0 < k) (h1 : k < len t) : vn (lf ((ch t).take k)) ∧ vn (lf ((ch t).drop k)) := by
  have e := lf_of h hL
  have h16 : len t ≤ 16 := by
    induction t, h using vn_ind with
    | h1 l _ h _ => unfold len; rw [ch_lf]; exact h
    | h2 a b _ _ _ _ => cases hL
  have hc := vn_c h
  unfold len at h1 h16
  exact ⟨vn_lf (fun z => by have e := congrArg List.length z; rw [List.length_take, List.length_nil] at e; omega) (by simp; omega) (fun x hx => hc x (List.mem_of_mem_take hx)), vn_lf (fun z => by have e := congrArg List.length z; rw [List.length_drop, List.length_nil] at e; omega) (by simp; omega) (fun x hx => hc x (List.mem_of_mem_drop hx))⟩
theorem splitT_vn {s : Nat} (hs : s ≤ 16) {t : Tr} (h : vn t) : ∀ k, 0 < k → k < len t → vn (splitT s t k).1 ∧ vn (splitT s t k).2 ∧ ch (splitT s t k).1 = (ch t).take k ∧ ch (splitT s t k).2 = (ch t).drop k := by
  induction t, h using vn_ind with
  | h1 l h0 h1 h2 =>
    intro k hk1 hk2
    have e : splitT s (lf l) k = (lf ((ch (lf l)).take k), lf ((ch (lf l)).drop k)) := by
      cases l with
      | nil => exact absurd rfl h0
      | cons c cs => show (if k = 0 then _ else if k = len (lf (c :: cs)) then _ else _) = _; rw [if_neg (by omega), if_neg (by omega)]
    have := vn_take (vn_lf h0 h1 h2) (isL_lf h0) hk1 hk2
    rw [e]
    exact ⟨this.1, this.2, by rw [ch_lf], by rw [ch_lf]⟩
  | h2 a b ha hb i1 i2 =>
    intro k hk1 hk2
    rw [len_p] at hk2
    unfold splitT
    rw [if_neg (by omega), if_neg (by omega)]
    have hca : (ch a).length = len a := rfl
    have hcp : ch (Std.Format.append a b) = ch a ++ ch b := rfl
    split
    · next e => subst e; exact ⟨ha, hb, by rw [hcp, ← hca, List.take_left], by rw [hcp, ← hca, List.drop_left]⟩
    · split
      · next e1 e2 =>
        obtain ⟨j1, j2, j3, j4⟩ := i1 k hk1 e2
        refine ⟨j1, joinT_vn (Or.inr j2) (Or.inr hb) hs (fun z => by rw [z.1] at j2; exact j2.elim), by rw [hcp, j3, List.take_append_of_le_length (by omega)], ?_⟩
        dsimp only
        rw [joinT_ch (Or.inr j2) (Or.inr hb), j4, hcp, List.drop_append_of_le_length (by omega)]
      · next e1 e2 =>
        obtain ⟨j1, j2, j3, j4⟩ := i2 (k - len a) (by omega) (by omega)
        refine ⟨joinT_vn (Or.inr ha) (Or.inr j1) hs (fun z => by rw [z.2] at j1; exact j1.elim), j2, ?_, ?_⟩
        · dsimp only
          rw [joinT_ch (Or.inr ha) (Or.inr j1), j3, hcp, List.take_append, List.take_of_length_le (show (ch a).length ≤ k by omega)]
          rfl
        · dsimp only
          rw [j4, hcp, List.drop_append, List.drop_eq_nil_of_le (show (ch a).length ≤ k by omega), List.nil_append]
          rfl
theorem splitT_vt {s : Nat} (hs : s ≤ 16) {t : Tr} (h : vt t) {k : Nat} (hk : k ≤ len t) : vt (splitT s t k).1 ∧ vt (splitT s t k).2 ∧ ch (splitT s t k).1 = (ch t).take k ∧ ch (splitT s t k).2 = (ch t).drop k := by
  by_cases h0 : k = 0
  · subst h0
    have e : splitT s t 0 = (.nil, t) := by cases t <;> rfl
    rw [e]
    exact ⟨Or.inl rfl, h, rfl, rfl⟩
  · rcases h with rfl | h
    · exact absurd (Nat.le_zero.mp hk) h0
    · by_cases h1 : k = len t
      · have e : splitT s t k = (t, .nil) := by
          subst h1
          cases t <;> first | (unfold splitT; rw [if_neg h0, if_pos len_p]) | (unfold splitT; rw [if_neg h0, if_pos rfl])
        rw [e]
        exact ⟨Or.inr h, Or.inl rfl, by rw [List.take_of_length_le (by rw [h1]; exact Nat.le_refl _)], by rw [List.drop_eq_nil_of_le (by rw [h1]; exact Nat.le_refl _)]; rfl⟩
      · obtain ⟨a1, a2, a3, a4⟩ := splitT_vn hs h k (by omega) (by omega)
        exact ⟨Or.inr a1, Or.inr a2, a3, a4⟩

