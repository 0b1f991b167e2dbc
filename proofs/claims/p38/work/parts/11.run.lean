def Run (F : Fr) (st : Ms) (Q : Rs → Prop) : Prop := ∃ r, F st = some r ∧ Q r
theorem run_some {F : Fr} {st : Ms} {r : Rs} (h : F st = some r) (Q : Rs → Prop) : Run F st Q ↔ Q r := ⟨fun ⟨q, e, hq⟩ => by rw [h] at e; cases e; exact hq, fun hq => ⟨r, h, hq⟩⟩
theorem run_if {F : Fr} {st : Ms} {c : Prop} [Decidable c] {r : Rs} (h : F st = if c then some r else none) (Q : Rs → Prop) : Run F st Q ↔ c ∧ Q r := by
  by_cases hc : c
  · rw [run_some (by rw [h, if_pos hc])]; simp [hc]
  · constructor
    · rintro ⟨q, e, -⟩; rw [h, if_neg hc] at e; cases e
    · rintro ⟨z, -⟩; exact absurd z hc
theorem run_br {F : Fr} {st : Ms} {c : Prop} [Decidable c] {r q : Rs} (h : F st = if c then some r else some q) (Q : Rs → Prop) : Run F st Q ↔ (c → Q r) ∧ (¬ c → Q q) := by
  by_cases hc : c
  · rw [run_some (by rw [h, if_pos hc])]; simp [hc]
  · rw [run_some (by rw [h, if_neg hc])]; simp [hc]
def sqQ (G : Fr) (Q : Rs → Prop) : Rs → Prop
  | .inl m => Run G m Q
  | .inr x => Q (.inr x)
theorem run_sq {F G : Fr} {st : Ms} {Q : Rs → Prop} : Run (sq F G) st Q ↔ Run F st (sqQ G Q) := by
  constructor
  · rintro ⟨r, e, hq⟩
    change (match F st with | some (.inl m) => G m | r => r) = some r at e
    split at e
    · next m e1 => exact ⟨_, e1, r, e, hq⟩
    · next hne =>
      refine ⟨r, e, ?_⟩
      rcases r with m | r
      · exact absurd e (hne m)
      · exact hq
  · rintro ⟨r, e, hq⟩
    rcases r with m | r
    · obtain ⟨q, e2, h2⟩ := hq
      refine ⟨q, ?_, h2⟩
      change (match F st with | some (.inl m) => G m | r => r) = _
      rw [e]; exact e2
    · refine ⟨_, ?_, hq⟩
      change (match F st with | some (.inl m) => G m | r => r) = _
      rw [e]
theorem sqQ_l {G : Fr} {Q : Rs → Prop} {m : Ms} : sqQ G Q (.inl m) ↔ Run G m Q := Iff.rfl
theorem sqQ_r {G : Fr} {Q : Rs → Prop} {x : (Nat × Ms) ⊕ (Option Value × Hp)} : sqQ G Q (.inr x) ↔ Q (.inr x) := Iff.rfl
def bkQ (Q : Rs → Prop) : Rs → Prop
  | .inl m => Q (.inl m)
  | .inr (.inl (0, m)) => Q (.inl m)
  | .inr (.inl (i + 1, m)) => Q (.inr (.inl (i, m)))
  | .inr (.inr x) => Q (.inr (.inr x))
theorem run_bk {F : Fr} {st : Ms} {Q : Rs → Prop} : Run (bk F) st Q ↔ Run F st (bkQ Q) := by
  unfold Run bk
  constructor
  · rintro ⟨r, e, hq⟩
    cases e1 : F st with
    | none => rw [e1] at e; cases e
    | some q =>
      rw [e1] at e
      refine ⟨q, rfl, ?_⟩
      rcases q with m | ⟨i, m⟩ | x
      · cases e; exact hq
      · cases i with
        | zero => cases e; exact hq
        | succ i => cases e; exact hq
      · cases e; exact hq
  · rintro ⟨q, e, hq⟩
    rw [e]
    rcases q with m | ⟨i, m⟩ | x
    · exact ⟨_, rfl, hq⟩
    · cases i with
      | zero => exact ⟨_, rfl, hq⟩
      | succ i => exact ⟨_, rfl, hq⟩
    · exact ⟨_, rfl, hq⟩
theorem bkQ_l {Q : Rs → Prop} {m : Ms} : bkQ Q (.inl m) ↔ Q (.inl m) := Iff.rfl
theorem bkQ_0 {Q : Rs → Prop} {m : Ms} : bkQ Q (.inr (.inl (0, m))) ↔ Q (.inl m) := Iff.rfl
theorem bkQ_1 {Q : Rs → Prop} {m : Ms} : bkQ Q (.inr (.inl (1, m))) ↔ Q (.inr (.inl (0, m))) := Iff.rfl
theorem bkQ_2 {Q : Rs → Prop} {m : Ms} : bkQ Q (.inr (.inl (2, m))) ↔ Q (.inr (.inl (1, m))) := Iff.rfl
theorem bkQ_3 {Q : Rs → Prop} {m : Ms} : bkQ Q (.inr (.inl (3, m))) ↔ Q (.inr (.inl (2, m))) := Iff.rfl
theorem bkQ_s {Q : Rs → Prop} {i : Nat} {m : Ms} : bkQ Q (.inr (.inl (i + 1, m))) ↔ Q (.inr (.inl (i, m))) := Iff.rfl
theorem bkQ_r {Q : Rs → Prop} {x : Option Value × Hp} : bkQ Q (.inr (.inr x)) ↔ Q (.inr (.inr x)) := Iff.rfl
/-- what a loop's round may end in: again (br 0) with Again, else Q -/
def lpQ (Again : Ms → Prop) (Q : Rs → Prop) : Rs → Prop
  | .inl m => Q (.inl m)
  | .inr (.inl (0, m)) => Again m
  | .inr (.inl (i + 1, m)) => Q (.inr (.inl (i, m)))
  | .inr (.inr x) => Q (.inr (.inr x))
theorem lpQ_l {A : Ms → Prop} {Q : Rs → Prop} {m : Ms} : lpQ A Q (.inl m) ↔ Q (.inl m) := Iff.rfl
theorem lpQ_0 {A : Ms → Prop} {Q : Rs → Prop} {m : Ms} : lpQ A Q (.inr (.inl (0, m))) ↔ A m := Iff.rfl
theorem lpQ_1 {A : Ms → Prop} {Q : Rs → Prop} {m : Ms} : lpQ A Q (.inr (.inl (1, m))) ↔ Q (.inr (.inl (0, m))) := Iff.rfl
theorem lpQ_2 {A : Ms → Prop} {Q : Rs → Prop} {m : Ms} : lpQ A Q (.inr (.inl (2, m))) ↔ Q (.inr (.inl (1, m))) := Iff.rfl
theorem lpQ_s {A : Ms → Prop} {Q : Rs → Prop} {i : Nat} {m : Ms} : lpQ A Q (.inr (.inl (i + 1, m))) ↔ Q (.inr (.inl (i, m))) := Iff.rfl
theorem lpQ_r {A : Ms → Prop} {Q : Rs → Prop} {x : Option Value × Hp} : lpQ A Q (.inr (.inr x)) ↔ Q (.inr (.inr x)) := Iff.rfl
theorem run_lp {F : Fr} {st : Ms} {Q : Rs → Prop} : Run (lp F) st Q ↔ Run F st (lpQ (fun m => Run (lp F) m Q) Q) := by
  unfold Run
  rw [lp_eq]
  cases e1 : F st with
  | none => simp [lpR]
  | some q =>
    rcases q with m | ⟨i, m⟩ | x
    · simp [lpR, lpQ]
    · cases i with
      | zero => simp [lpR, lpQ]
      | succ i => simp [lpR, lpQ]
    · simp [lpR, lpQ]
/-- a loop by an invariant with a number that falls -/
theorem run_loop {F : Fr} {Q : Rs → Prop} (I : Nat → Ms → Prop) (hs : ∀ n st, I n st → Run F st (lpQ (fun m => ∃ k, k < n ∧ I k m) Q)) : ∀ n st, I n st → Run (lp F) st Q := by
  intro n
  induction n using Nat.strongRecOn with
  | ind n ih =>
    intro st hI
    rw [run_lp]
    obtain ⟨r, e, hr⟩ := hs n st hI
    refine ⟨r, e, ?_⟩
    rcases r with m | ⟨i, m⟩ | x
    · exact hr
    · cases i with
      | zero => obtain ⟨k, hk, hI2⟩ := hr; exact ih k hk m hI2
      | succ i => exact hr
    · exact hr
theorem run_mono {F : Fr} {st : Ms} {P Q : Rs → Prop} (h : Run F st P) (k : ∀ r, P r → Q r) : Run F st Q := by
  obtain ⟨r, e, hp⟩ := h
  exact ⟨r, e, k r hp⟩
/-- a method's answer -/
def rtQ (P : Option Value → Hp → Prop) : Rs → Prop
  | .inr (.inr (v, h)) => P v h
  | _ => False
theorem rtQ_r {P : Option Value → Hp → Prop} {v : Option Value} {h : Hp} : rtQ P (.inr (.inr (v, h))) ↔ P v h := Iff.rfl
/-- a call ends, with P -/
def Does (f : Mt) (av : List Value) (h : Hp) (P : Option Value → Hp → Prop) : Prop := ∃ v h', f av h = some (v, h') ∧ P v h'
theorem does_of {nL : Nat} {F : Fr} {av : List Value} {h : Hp} {P : Option Value → Hp → Prop} (hl : (argsL av).length ≤ nL) (hr : Run F (locsOf nL av, [], h) (rtQ P)) : Does (mkM nL F) av h P := by
  obtain ⟨r, e, hq⟩ := hr
  rcases r with m | ⟨i, m⟩ | ⟨v, h'⟩
  · exact hq.elim
  · exact hq.elim
  · exact ⟨v, h', by unfold mkM; rw [if_pos hl, e]; rfl, hq⟩
theorem does_eq {f : Mt} {av : List Value} {h : Hp} {v : Option Value} {h' : Hp} (hd : Does f av h (fun w k => w = v ∧ k = h')) : f av h = some (v, h') := by
  obtain ⟨w, k, e, rfl, rfl⟩ := hd
  exact e
section OpS
variable {L S : List Value} {h : Hp} {Q : Rs → Prop}
theorem r_push {v : Value} : Run (o_push v) (L, S, h) Q ↔ Q (.inl (L, v :: S, h)) := run_some rfl Q
theorem r_iload {k : Nat} : Run (o_iload k) (L, S, h) Q ↔ ∃ x, L.getD k .null = .int x ∧ Q (.inl (L, .int x :: S, h)) := by
  unfold Run o_iload
  dsimp only
  generalize L.getD k .null = v
  cases v <;> simp
theorem r_lload {k : Nat} : Run (o_lload k) (L, S, h) Q ↔ ∃ x, L.getD k .null = .long x ∧ Q (.inl (L, .long x :: S, h)) := by
  unfold Run o_lload
  dsimp only
  generalize L.getD k .null = v
  cases v <;> simp
theorem r_aload {k : Nat} : Run (o_aload k) (L, S, h) Q ↔ ∃ x, L.getD k .null = .ref x ∧ Q (.inl (L, .ref x :: S, h)) := by
  unfold Run o_aload
  dsimp only
  generalize L.getD k .null = v
  cases v <;> simp
theorem r_istore {k : Nat} {x : Int32} : Run (o_istore k) (L, .int x :: S, h) Q ↔ okst k L = true ∧ Q (.inl (L.set k (.int x), S, h)) := run_if rfl Q
theorem r_lstore {k : Nat} {x : Int64} : Run (o_lstore k) (L, .long x :: S, h) Q ↔ okst k L = true ∧ Q (.inl ((L.set k (.long x)).set (k + 1) .null, S, h)) := run_if rfl Q
theorem r_astore {k x : Nat} : Run (o_astore k) (L, .ref x :: S, h) Q ↔ okst k L = true ∧ Q (.inl (L.set k (.ref x), S, h)) := run_if rfl Q
theorem r_iinc {k : Nat} {n : Int32} : Run (o_iinc k n) (L, S, h) Q ↔ ∃ x, L.getD k .null = .int x ∧ okst k L = true ∧ Q (.inl (L.set k (.int (x + n)), S, h)) := by
  unfold Run o_iinc
  dsimp only
  generalize L.getD k .null = v
  cases v <;> simp
  constructor
  · rintro ⟨r, ⟨c, rfl⟩, hq⟩; exact ⟨c, hq⟩
  · rintro ⟨c, hq⟩; exact ⟨_, ⟨c, rfl⟩, hq⟩
theorem r_ib {g : Int32 → Int32 → Int32} {x y : Int32} : Run (o_ib g) (L, .int y :: .int x :: S, h) Q ↔ Q (.inl (L, .int (g x y) :: S, h)) := run_some rfl Q
theorem r_ibz {g : Int32 → Int32 → Int32} {x y : Int32} : Run (o_ibz g) (L, .int y :: .int x :: S, h) Q ↔ ¬ y = 0 ∧ Q (.inl (L, .int (g x y) :: S, h)) := by
  by_cases c : y = 0
  · constructor
    · rintro ⟨r, e, hq⟩; simp [o_ibz, c] at e
    · rintro ⟨z, -⟩; exact absurd c z
  · rw [run_some (r := .inl (L, .int (g x y) :: S, h)) (by simp [o_ibz, c])]; simp [c]
theorem r_lb {g : Int64 → Int64 → Int64} {x y : Int64} : Run (o_lb g) (L, .long y :: .long x :: S, h) Q ↔ Q (.inl (L, .long (g x y) :: S, h)) := run_some rfl Q
theorem r_lbz {g : Int64 → Int64 → Int64} {x y : Int64} : Run (o_lbz g) (L, .long y :: .long x :: S, h) Q ↔ ¬ y = 0 ∧ Q (.inl (L, .long (g x y) :: S, h)) := by
  by_cases c : y = 0
  · constructor
    · rintro ⟨r, e, hq⟩; simp [o_lbz, c] at e
    · rintro ⟨z, -⟩; exact absurd c z
  · rw [run_some (r := .inl (L, .long (g x y) :: S, h)) (by simp [o_lbz, c])]; simp [c]
theorem r_lsh {g : Int64 → Int32 → Int64} {x : Int64} {y : Int32} : Run (o_lsh g) (L, .int y :: .long x :: S, h) Q ↔ Q (.inl (L, .long (g x y) :: S, h)) := run_some rfl Q
theorem r_lcmp {x y : Int64} : Run o_lcmp (L, .long y :: .long x :: S, h) Q ↔ Q (.inl (L, .int (lg_cmp x y) :: S, h)) := run_some rfl Q
theorem r_i2l {x : Int32} : Run o_i2l (L, .int x :: S, h) Q ↔ Q (.inl (L, .long x.toInt64 :: S, h)) := run_some rfl Q
theorem r_l2i {x : Int64} : Run o_l2i (L, .long x :: S, h) Q ↔ Q (.inl (L, .int x.toInt32 :: S, h)) := run_some rfl Q
theorem r_dup {v : Value} : Run o_dup (L, v :: S, h) Q ↔ v.category = 1 ∧ Q (.inl (L, v :: v :: S, h)) := run_if rfl Q
theorem r_pop {v : Value} : Run o_pop (L, v :: S, h) Q ↔ v.category = 1 ∧ Q (.inl (L, S, h)) := run_if rfl Q
theorem r_dup2 {v w : Value} : Run o_dup2 (L, v :: w :: S, h) Q ↔ (v.category = 1 ∧ w.category = 1) ∧ Q (.inl (L, v :: w :: v :: w :: S, h)) := run_if rfl Q
theorem r_br {i : Nat} : Run (o_br i) (L, S, h) Q ↔ Q (.inr (.inl (i, L, S, h))) := run_some rfl Q
theorem r_nop : Run o_nop (L, S, h) Q ↔ Q (.inl (L, S, h)) := run_some rfl Q
theorem r_if_eq {i : Nat} {x : Int32} : Run (o_if_eq i) (L, .int x :: S, h) Q ↔ (x = 0 → Q (.inr (.inl (i, L, S, h)))) ∧ (¬ (x = 0) → Q (.inl (L, S, h))) := run_br rfl Q
theorem r_icmp_eq {i : Nat} {x y : Int32} : Run (o_icmp_eq i) (L, .int y :: .int x :: S, h) Q ↔ (x = y → Q (.inr (.inl (i, L, S, h)))) ∧ (¬ (x = y) → Q (.inl (L, S, h))) := run_br rfl Q
theorem r_if_ne {i : Nat} {x : Int32} : Run (o_if_ne i) (L, .int x :: S, h) Q ↔ (¬ x = 0 → Q (.inr (.inl (i, L, S, h)))) ∧ (¬ (¬ x = 0) → Q (.inl (L, S, h))) := run_br rfl Q
theorem r_icmp_ne {i : Nat} {x y : Int32} : Run (o_icmp_ne i) (L, .int y :: .int x :: S, h) Q ↔ (¬ x = y → Q (.inr (.inl (i, L, S, h)))) ∧ (¬ (¬ x = y) → Q (.inl (L, S, h))) := run_br rfl Q
theorem r_if_lt {i : Nat} {x : Int32} : Run (o_if_lt i) (L, .int x :: S, h) Q ↔ (x < 0 → Q (.inr (.inl (i, L, S, h)))) ∧ (¬ (x < 0) → Q (.inl (L, S, h))) := run_br rfl Q
theorem r_icmp_lt {i : Nat} {x y : Int32} : Run (o_icmp_lt i) (L, .int y :: .int x :: S, h) Q ↔ (x < y → Q (.inr (.inl (i, L, S, h)))) ∧ (¬ (x < y) → Q (.inl (L, S, h))) := run_br rfl Q
theorem r_if_ge {i : Nat} {x : Int32} : Run (o_if_ge i) (L, .int x :: S, h) Q ↔ (0 ≤ x → Q (.inr (.inl (i, L, S, h)))) ∧ (¬ (0 ≤ x) → Q (.inl (L, S, h))) := run_br rfl Q
theorem r_icmp_ge {i : Nat} {x y : Int32} : Run (o_icmp_ge i) (L, .int y :: .int x :: S, h) Q ↔ (y ≤ x → Q (.inr (.inl (i, L, S, h)))) ∧ (¬ (y ≤ x) → Q (.inl (L, S, h))) := run_br rfl Q
theorem r_if_gt {i : Nat} {x : Int32} : Run (o_if_gt i) (L, .int x :: S, h) Q ↔ (0 < x → Q (.inr (.inl (i, L, S, h)))) ∧ (¬ (0 < x) → Q (.inl (L, S, h))) := run_br rfl Q
theorem r_icmp_gt {i : Nat} {x y : Int32} : Run (o_icmp_gt i) (L, .int y :: .int x :: S, h) Q ↔ (y < x → Q (.inr (.inl (i, L, S, h)))) ∧ (¬ (y < x) → Q (.inl (L, S, h))) := run_br rfl Q
theorem r_if_le {i : Nat} {x : Int32} : Run (o_if_le i) (L, .int x :: S, h) Q ↔ (x ≤ 0 → Q (.inr (.inl (i, L, S, h)))) ∧ (¬ (x ≤ 0) → Q (.inl (L, S, h))) := run_br rfl Q
theorem r_icmp_le {i : Nat} {x y : Int32} : Run (o_icmp_le i) (L, .int y :: .int x :: S, h) Q ↔ (x ≤ y → Q (.inr (.inl (i, L, S, h)))) ∧ (¬ (x ≤ y) → Q (.inl (L, S, h))) := run_br rfl Q
theorem r_ifnull_r {i x : Nat} : Run (o_ifnull i) (L, .ref x :: S, h) Q ↔ Q (.inl (L, S, h)) := run_some rfl Q
theorem r_ifnull_n {i : Nat} : Run (o_ifnull i) (L, .null :: S, h) Q ↔ Q (.inr (.inl (i, L, S, h))) := run_some rfl Q
theorem r_ifnonnull_r {i x : Nat} : Run (o_ifnonnull i) (L, .ref x :: S, h) Q ↔ Q (.inr (.inl (i, L, S, h))) := run_some rfl Q
theorem r_ifnonnull_n {i : Nat} : Run (o_ifnonnull i) (L, .null :: S, h) Q ↔ Q (.inl (L, S, h)) := run_some rfl Q
theorem r_iret {x : Int32} : Run o_iret (L, [.int x], h) Q ↔ Q (.inr (.inr (some (.int x), h))) := run_some rfl Q
theorem r_zret {x : Int32} : Run o_zret (L, [.int x], h) Q ↔ (x = 0 ∨ x = 1) ∧ Q (.inr (.inr (some (.int x), h))) := run_if rfl Q
theorem r_lret {x : Int64} : Run o_lret (L, [.long x], h) Q ↔ Q (.inr (.inr (some (.long x), h))) := run_some rfl Q
theorem r_aret_r {x : Nat} : Run o_aret (L, [.ref x], h) Q ↔ Q (.inr (.inr (some (.ref x), h))) := run_some rfl Q
theorem r_aret_n : Run o_aret (L, [.null], h) Q ↔ Q (.inr (.inr (some .null, h))) := run_some rfl Q
theorem r_vret : Run o_vret (L, [], h) Q ↔ Q (.inr (.inr (none, h))) := run_some rfl Q
end OpS
section OpH
variable {L S : List Value} {n : Nat} {hi : Nat → Nat → Int32} {hl : Nat → Nat → Int64} {hr : Nat → Nat → Option Nat} {Q : Rs → Prop}
theorem r_geti {ci N j k : Nat} : Run (o_geti ci N j) (L, .ref k :: S, n, hi, hl, hr) Q ↔ (k < n ∧ sh k = (ci, N)) ∧ Q (.inl (L, .int (hi k j) :: S, n, hi, hl, hr)) := run_if rfl Q
theorem r_getr {ci N j k : Nat} : Run (o_getr ci N j) (L, .ref k :: S, n, hi, hl, hr) Q ↔ (k < n ∧ sh k = (ci, N)) ∧ Q (.inl (L, rv (hr k j) :: S, n, hi, hl, hr)) := run_if rfl Q
theorem r_puti {ci N j k : Nat} {x : Int32} : Run (o_puti ci N j) (L, .int x :: .ref k :: S, n, hi, hl, hr) Q ↔ (k < n ∧ sh k = (ci, N)) ∧ Q (.inl (L, S, n, u2 hi k j x, hl, hr)) := run_if rfl Q
theorem r_putr {ci N j k v : Nat} : Run (o_putr ci N j) (L, .ref v :: .ref k :: S, n, hi, hl, hr) Q ↔ ((k < n ∧ sh k = (ci, N)) ∧ v < n) ∧ Q (.inl (L, S, n, hi, hl, u2 hr k j (some v))) := run_if rfl Q
theorem r_ald {kd k : Nat} {i : Int32} : Run (o_ald kd) (L, .int i :: .ref k :: S, n, hi, hl, hr) Q ↔ (k < n ∧ (sh k).1 = kd ∧ 0 ≤ i.toInt ∧ i.toInt < (sh k).2) ∧ Q (.inl (L, .int (hi k i.toNatClampNeg) :: S, n, hi, hl, hr)) := run_if rfl Q
theorem r_ast {k : Nat} {i x : Int32} : Run o_ast (L, .int x :: .int i :: .ref k :: S, n, hi, hl, hr) Q ↔ (k < n ∧ (sh k).1 = 100 ∧ 0 ≤ i.toInt ∧ i.toInt < (sh k).2) ∧ Q (.inl (L, S, n, u2 hi k i.toNatClampNeg x, hl, hr)) := run_if rfl Q
theorem r_zst {k : Nat} {i x : Int32} : Run o_zst (L, .int x :: .int i :: .ref k :: S, n, hi, hl, hr) Q ↔ ((k < n ∧ (sh k).1 = 102 ∧ 0 ≤ i.toInt ∧ i.toInt < (sh k).2) ∧ (x = 0 ∨ x = 1)) ∧ Q (.inl (L, S, n, u2 hi k i.toNatClampNeg x, hl, hr)) := run_if rfl Q
theorem r_lld {k : Nat} {i : Int32} : Run o_lld (L, .int i :: .ref k :: S, n, hi, hl, hr) Q ↔ (k < n ∧ (sh k).1 = 101 ∧ 0 ≤ i.toInt ∧ i.toInt < (sh k).2) ∧ Q (.inl (L, .long (hl k i.toNatClampNeg) :: S, n, hi, hl, hr)) := run_if rfl Q
theorem r_lst {k : Nat} {i : Int32} {x : Int64} : Run o_lst (L, .long x :: .int i :: .ref k :: S, n, hi, hl, hr) Q ↔ (k < n ∧ (sh k).1 = 101 ∧ 0 ≤ i.toInt ∧ i.toInt < (sh k).2) ∧ Q (.inl (L, S, n, hi, u2 hl k i.toNatClampNeg x, hr)) := run_if rfl Q
theorem r_qld {k : Nat} {i : Int32} : Run o_qld (L, .int i :: .ref k :: S, n, hi, hl, hr) Q ↔ (k < n ∧ (sh k).1 = 103 ∧ 0 ≤ i.toInt ∧ i.toInt < (sh k).2) ∧ Q (.inl (L, rv (hr k i.toNatClampNeg) :: S, n, hi, hl, hr)) := run_if rfl Q
theorem r_qst {k v : Nat} {i : Int32} : Run o_qst (L, .ref v :: .int i :: .ref k :: S, n, hi, hl, hr) Q ↔ ((k < n ∧ (sh k).1 = 103 ∧ 0 ≤ i.toInt ∧ i.toInt < (sh k).2) ∧ v < n ∧ sh v = (2, 7)) ∧ Q (.inl (L, S, n, hi, hl, u2 hr k i.toNatClampNeg (some v))) := run_if rfl Q
theorem r_alen {k : Nat} : Run o_alen (L, .ref k :: S, n, hi, hl, hr) Q ↔ (k < n ∧ (sh k).1 = 100 ∨ k < n ∧ (sh k).1 = 102 ∨ k < n ∧ (sh k).1 = 103) ∧ Q (.inl (L, .int (nI (sh k).2) :: S, n, hi, hl, hr)) := run_if rfl Q
theorem r_max {x y : Int32} : Run o_max (L, .int y :: .int x :: S, n, hi, hl, hr) Q ↔ csum S ≤ 8 ∧ Q (.inl (L, .int (if x < y then y else x) :: S, n, hi, hl, hr)) := run_if rfl Q
theorem r_min {x y : Int32} : Run o_min (L, .int y :: .int x :: S, n, hi, hl, hr) Q ↔ csum S ≤ 8 ∧ Q (.inl (L, .int (if y < x then y else x) :: S, n, hi, hl, hr)) := run_if rfl Q
theorem r_cpy {c dp sp : Int32} {k0 k1 : Nat} : Run o_cpy (L, .int c :: .int dp :: .ref k1 :: .int sp :: .ref k0 :: S, n, hi, hl, hr) Q ↔ ((k0 < n ∧ k1 < n ∧ (sh k0).1 = 100 ∧ (sh k1).1 = 100) ∧ (0 ≤ sp.toInt ∧ 0 ≤ dp.toInt ∧ 0 ≤ c.toInt) ∧ sp.toNatClampNeg + c.toNatClampNeg ≤ (sh k0).2 ∧ dp.toNatClampNeg + c.toNatClampNeg ≤ (sh k1).2 ∧ csum S ≤ 8) ∧ Q (.inl (L, S, n, (fun a => if a = k1 then va_cpy (hi k0) (hi k1) sp.toNatClampNeg dp.toNatClampNeg c.toNatClampNeg else hi a), hl, hr)) := run_if rfl Q
theorem r_new {ci N : Nat} : Run (o_new ci N) (L, S, n, hi, hl, hr) Q ↔ sh n = (ci, N) ∧ Q (.inl (L, .ref n :: S, grow (n, hi, hl, hr))) := run_if rfl Q
theorem r_newa {kd : Nat} {x : Int32} : Run (o_newa kd) (L, .int x :: S, n, hi, hl, hr) Q ↔ ((sh n).1 = kd ∧ 0 ≤ x.toInt ∧ x.toNatClampNeg = (sh n).2 ∧ (sh n).2 ≤ 1000000) ∧ Q (.inl (L, .ref n :: S, grow (n, hi, hl, hr))) := run_if rfl Q
theorem r_oini {k : Nat} : Run o_oini (L, .ref k :: S, n, hi, hl, hr) Q ↔ csum S ≤ 8 ∧ Q (.inl (L, S, n, hi, hl, hr)) := run_if rfl Q
end OpH
section OpC
variable {L S : List Value} {h : Hp} {Q : Rs → Prop} {f : Mt}
theorem r_call {k : Nat} : Run (o_call k f) (L, S, h) Q ↔ (k ≤ S.length ∧ csum (S.drop k) ≤ 8) ∧ Does f (S.take k).reverse h (fun v h' => Q (.inl (L, v.toList ++ S.drop k, h'))) := by
  constructor
  · rintro ⟨r, e, hq⟩
    obtain ⟨z1, z2, v, h', e1, rfl⟩ := o_call_inv e
    exact ⟨⟨z1, z2⟩, v, h', e1, hq⟩
  · rintro ⟨z, v, h', e1, hq⟩
    exact ⟨_, by unfold o_call; dsimp only; rw [if_pos z, e1], hq⟩
theorem r_callV {ci k : Nat} : Run (o_callV ci k f) (L, S, h) Q ↔ rcv h.1 ci (S.getD k .null) = true ∧ Run (o_call (k + 1) f) (L, S, h) Q := by
  unfold Run o_callV
  dsimp only
  generalize rcv h.1 ci (S.getD k .null) = c
  cases c <;> simp
theorem r_callI {k : Nat} : Run (o_callI k f) (L, S, h) Q ↔ ∃ q, S.getD k .null = .ref q ∧ Run (o_call (k + 1) f) (L, S, h) Q := by
  unfold Run o_callI
  dsimp only
  generalize S.getD k .null = v
  cases v <;> simp
theorem does_at {av : List Value} {v : Option Value} {h' : Hp} {P : Option Value → Hp → Prop} (e : f av h = some (v, h')) : Does f av h P ↔ P v h' := by
  constructor
  · rintro ⟨w, k, e2, hp⟩; rw [e] at e2; cases e2; exact hp
  · exact fun hp => ⟨v, h', e, hp⟩
theorem does_mono {av : List Value} {P P' : Option Value → Hp → Prop} (hd : Does f av h P) (k : ∀ v h', P v h' → P' v h') : Does f av h P' := by
  obtain ⟨v, h', e, hp⟩ := hd
  exact ⟨v, h', e, k v h' hp⟩
end OpC
theorem cat_i {x : Int32} : Value.category (.int x) = 1 := rfl
theorem cat_l {x : Int64} : Value.category (.long x) = 2 := rfl
theorem cat_r {x : Nat} : Value.category (.ref x) = 1 := rfl
theorem cat_n : Value.category .null = 1 := rfl
theorem cat_s {x : Nat} : Value.category (.retAddr x) = 1 := rfl
theorem csum_0 : csum [] = 0 := rfl
theorem csum_s {v : Value} {S : List Value} : csum (v :: S) = v.category + csum S := rfl
theorem okst_0 {L : List Value} : okst 0 L = true := rfl
theorem okst_s {k : Nat} {L : List Value} : okst (k + 1) L = ((L.getD k .null).category == 1) := rfl
theorem gD0 {v d : Value} {l : List Value} : (v :: l).getD 0 d = v := rfl
theorem gDs {v d : Value} {l : List Value} {k : Nat} : (v :: l).getD (k + 1) d = l.getD k d := rfl
theorem rv_s {k : Nat} : rv (some k) = .ref k := rfl
theorem rv_n : rv none = .null := rfl
theorem rcv_r {n ci q : Nat} : rcv n ci (.ref q) = decide (q < n ∧ (sh q).1 = ci) := rfl
theorem u2_eq {α : Type} {f : Nat → Nat → α} {k j a b : Nat} {x : α} : u2 f k j x a b = if a = k ∧ b = j then x else f a b := rfl
theorem argsL_0 : argsL [] = [] := rfl
theorem argsL_i {x : Int32} {l : List Value} : argsL (.int x :: l) = .int x :: argsL l := rfl
theorem argsL_r {x : Nat} {l : List Value} : argsL (.ref x :: l) = .ref x :: argsL l := rfl
theorem argsL_l {x : Int64} {l : List Value} : argsL (.long x :: l) = .long x :: .null :: argsL l := rfl
theorem argsL_s {x : Nat} {l : List Value} : argsL (.retAddr x :: l) = .retAddr x :: argsL l := rfl
theorem locs_eq {n : Nat} {l : List Value} : locsOf n l = argsL l ++ List.replicate (n - (argsL l).length) .null := rfl
theorem z0 {n : Nat} (h : n < 2 ^ 31) : (nI n < 0) ↔ False := by simp [nI_pos h]

