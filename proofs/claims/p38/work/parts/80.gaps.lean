/-! the law's ropes: rows of leaves with gaps -/
/-- the leaves of a rope at a depth, each with the gap behind it; g: the gap behind the last -/
def gs : Nat → Nat → Tr → List (Nat × Nat)
  | _, g, .nest _ t => [((ch t).length + 1, g)]
  | d, g, .append a b => gs (d + 1) d a ++ gs (d + 1) g b
  | _, _, _ => []
theorem gs_lf {d g : Nat} {l : List Nat} (h : l ≠ []) : gs d g (lf l) = [(l.length, g)] := by
  cases l with
  | nil => exact absurd rfl h
  | cons c cs => show [((ch (lf cs)).length + 1, g)] = _; rw [ch_lf]; rfl
theorem gs_p {d g : Nat} {a b : Tr} : gs d g (.append a b) = gs (d + 1) d a ++ gs (d + 1) g b := rfl
theorem gs_len {t : Tr} (h : vn t) : ∀ d g, (gs d g t).length = nlv t := by
  induction t, h using vn_ind with
  | h1 l h0 _ _ => intro d g; rw [gs_lf h0, nlv_lf h0]; rfl
  | h2 a b ha hb i1 i2 => intro d g; rw [gs_p, List.length_append, i1, i2, nlv_p ha hb]
theorem gs_in {t : Tr} (h : vn t) : ∀ d g i p, (gs d g t)[i]? = some p → i < nlv t ∧ 1 ≤ p.1 ∧ p.1 ≤ 16 ∧ (i + 1 = nlv t → p.2 = g) ∧ (i + 1 ≠ nlv t → d ≤ p.2 ∧ p.2 < d + dp t) := by
  induction t, h using vn_ind with
  | h1 l h0 h1 _ =>
    intro d g i p e
    rw [gs_lf h0] at e
    rw [nlv_lf h0]
    have h9 : 1 ≤ l.length := by cases l with | nil => exact absurd rfl h0 | cons c cs => simp
    cases i with
    | zero => cases e; exact ⟨by omega, h9, h1, fun _ => rfl, fun z => absurd rfl z⟩
    | succ i => simp at e
  | h2 a b ha hb i1 i2 =>
    intro d g i p e
    rw [gs_p] at e
    rw [nlv_p ha hb]
    have n1 := nlv_pos hb
    have hd : dp (Std.Format.append a b) = 1 + max (dp a) (dp b) := rfl
    rw [hd]
    by_cases c : i < nlv a
    · rw [List.getElem?_append_left (by rw [gs_len ha]; exact c)] at e
      obtain ⟨j1, j2, j3, j4, j5⟩ := i1 _ _ _ _ e
      refine ⟨by omega, j2, j3, fun z => by omega, fun _ => ?_⟩
      by_cases z : i + 1 = nlv a
      · have := j4 z; omega
      · have := j5 z; omega
    · rw [List.getElem?_append_right (by rw [gs_len ha]; omega), gs_len ha] at e
      obtain ⟨j1, j2, j3, j4, j5⟩ := i2 _ _ _ _ e
      refine ⟨by omega, j2, j3, fun z => j4 (by omega), fun z => ?_⟩
      have := j5 (by omega); omega
theorem gs_at {t : Tr} (h : vn t) (d g : Nat) {i : Nat} (hi : i < nlv t) : ∃ p, (gs d g t)[i]? = some p :=
  ⟨_, List.getElem?_eq_getElem (by rw [gs_len h]; exact hi)⟩
theorem gs_sh {t : Tr} (h : vn t) : ∀ d g e g' i p, (gs d g t)[i]? = some p → (gs (d + e) g' t)[i]? = some (p.1, if i + 1 = nlv t then g' else p.2 + e) := by
  induction t, h using vn_ind with
  | h1 l h0 h1 _ =>
    intro d g e g' i p hp
    rw [gs_lf h0] at hp
    rw [gs_lf h0, nlv_lf h0]
    cases i with
    | zero => cases hp; rfl
    | succ i => simp at hp
  | h2 a b ha hb i1 i2 =>
    intro d g e g' i p hp
    rw [gs_p] at hp
    rw [gs_p, nlv_p ha hb]
    have n1 := nlv_pos hb
    by_cases c : i < nlv a
    · rw [List.getElem?_append_left (by rw [gs_len ha]; exact c)] at hp ⊢
      have j := i1 _ _ e (d + e) _ _ hp
      rw [show d + e + 1 = d + 1 + e by omega, j, if_neg (show ¬ i + 1 = nlv a + nlv b by omega)]
      by_cases z : i + 1 = nlv a
      · rw [if_pos z, (gs_in ha _ _ _ _ hp).2.2.2.1 z]
      · rw [if_neg z]
    · rw [List.getElem?_append_right (by rw [gs_len ha]; omega), gs_len ha] at hp ⊢
      have j := i2 _ _ e g' _ _ hp
      rw [show d + e + 1 = d + 1 + e by omega, j]
      by_cases z : i + 1 = nlv a + nlv b
      · rw [if_pos z, if_pos (by omega)]
      · rw [if_neg z, if_neg (by omega)]
/-- the same one level up: from depth d to the top -/
theorem gs_up {t : Tr} (h : vn t) {d g i : Nat} {p : Nat × Nat} (e : (gs d g t)[i]? = some p) : (gs 0 0 t)[i]? = some (p.1, if i + 1 = nlv t then 0 else p.2 - d) := by
  obtain ⟨q, hq⟩ := gs_at h 0 0 (gs_in h _ _ _ _ e).1
  have j := gs_sh h 0 0 d g _ _ hq
  rw [Nat.zero_add, e] at j
  cases j
  rw [hq]
  have k := (gs_in h _ _ _ _ hq).2.2.2
  by_cases z : i + 1 = nlv t
  · dsimp only
    rw [if_pos z, ← k.1 z]
  · rw [if_neg z]
    dsimp only
    rw [if_neg z, Nat.add_sub_cancel]
def enc (p : Nat × Nat) : Int32 := nI (p.1 + 32 * p.2)
/-- from o on the row has the leaves of a rope at depth d -/
def Reg (f : Nat → Int32) (o d g : Nat) (t : Tr) : Prop := ∀ i p, (gs d g t)[i]? = some p → f (o + i) = enc p
/-- a row stands for a rope -/
def Row (f : Nat → Int32) (t : Tr) : Prop := f 63 = nI (nlv t) ∧ Reg f 0 0 0 t
section RegS
variable {f : Nat → Int32} {o d g : Nat} {a b : Tr}
theorem Reg.l (h : Reg f o d g (.append a b)) (ha : vn a) : Reg f o (d + 1) d a := fun i p e => h i p (by
  rw [gs_p, List.getElem?_append_left (by rw [gs_len ha]; exact (gs_in ha _ _ _ _ e).1)]; exact e)
theorem Reg.r (h : Reg f o d g (.append a b)) (ha : vn a) : Reg f (o + nlv a) (d + 1) g b := fun i p e => by
  rw [Nat.add_assoc]
  refine h (nlv a + i) p ?_
  rw [gs_p, List.getElem?_append_right (by rw [gs_len ha]; omega), gs_len ha, Nat.add_sub_cancel_left]; exact e
theorem Reg.mk (h1 : Reg f o (d + 1) d a) (h2 : Reg f (o + nlv a) (d + 1) g b) (ha : vn a) : Reg f o d g (.append a b) := fun i p e => by
  rw [gs_p] at e
  by_cases c : i < nlv a
  · rw [List.getElem?_append_left (by rw [gs_len ha]; exact c)] at e
    exact h1 i p e
  · rw [List.getElem?_append_right (by rw [gs_len ha]; omega), gs_len ha] at e
    have := h2 _ p e
    rw [show o + nlv a + (i - nlv a) = o + i by omega] at this
    exact this
theorem Reg.nl : Reg f o d g .nil := fun i p e => by cases e
theorem Reg.lf {l : List Nat} (h0 : l ≠ []) (e : f o = enc (l.length, g)) : Reg f o d g (lf l) := fun i p h => by
  rw [gs_lf h0] at h
  cases i with
  | zero => cases h; exact e
  | succ i => simp at h
theorem Reg.cong {f' : Nat → Int32} (h : Reg f o d g a) (hv : vt a) (e : ∀ j, o ≤ j → j < o + nlv a → f' j = f j) : Reg f' o d g a := fun i p hp => by
  rcases hv with rfl | hv
  · cases hp
  · rw [e _ (by omega) (by have := (gs_in hv _ _ _ _ hp).1; omega)]; exact h i p hp
theorem Row.cong {f' : Nat → Int32} (h : Row f a) (e : f' = f) : Row f' a := e ▸ h
theorem Row.nl (h : f 63 = nI 0) : Row f .nil := ⟨h, Reg.nl⟩
end RegS
theorem nlv_nil : nlv .nil = 0 := rfl
theorem vt_nlv {t : Tr} (h : vt t) : nlv t ≤ len t := by
  rcases h with rfl | h
  · exact Nat.zero_le _
  · exact nlv_len h
theorem vt_dp {t : Tr} (h : vt t) : dp t ≤ nlv t := by
  rcases h with rfl | h
  · exact Nat.zero_le _
  · have := dp_nlv h; omega
/-! numbers -/
theorem and31 {a b : Nat} (h : a < 32) (h2 : b < 100000) : nI (a + 32 * b) &&& nI 31 = nI a := by
  rw [pk_andN (by omega) 5 (by decide)]; congr 1; omega
theorem shr5 {a b : Nat} (h : a < 32) (h2 : b < 100000) : nI (a + 32 * b) >>> (nI 5 &&& 31) = nI b := by
  rw [pk_shrN (by omega) _ 5 (by decide)]; congr 1; omega
theorem shl5 {b : Nat} (h2 : b < 100000) : nI b <<< (nI 5 &&& 31) = nI (b * 32) := by
  rw [pk_shlN _ 5 (by decide) (by omega)]
theorem or_0 {a : Nat} : nI a ||| nI 0 = nI a := by rw [nI_0]; exact Int32.or_zero
theorem or_sh {a b : Nat} (h : a < 32) (h2 : b < 100000) : nI a ||| nI (b * 32) = nI (a + 32 * b) := by
  apply Int32.toBitVec_inj.mp
  apply BitVec.eq_of_toNat_eq
  rw [Int32.toBitVec_or, BitVec.toNat_or, pk_tn (by omega), pk_tn (by omega), pk_tn (by omega)]
  have := Nat.two_pow_add_eq_or_of_lt (i := 5) h b
  rw [Nat.or_comm, show b * 32 = 2 ^ 5 * b by omega, ← this]
  omega
/-! cells -/
def zl (hl : Nat → Nat → Int64) (n : Nat) : Nat → Nat → Int64 := fun a b => if a = n then 0 else hl a b
theorem zl_n {hl : Nat → Nat → Int64} {n k : Nat} (h : k ≠ n) : zl hl n k = hl k := by funext j; simp [zl, h]
theorem sh_row {k : Nat} (h : 55 < k) : sh k = (100, 64) := by
  unfold sh
  rw [List.getD_eq_getElem?_getD, List.getElem?_eq_none (show shL.length ≤ k from h)]
  rfl
theorem gro {n : Nat} {hi : Nat → Nat → Int32} {hl : Nat → Nat → Int64} (h : 54 < n) : grow (n, hi, hl, rf0) = (n + 1, cu hi n (fun _ => 0), zl hl n, rf0) := by
  unfold grow
  refine Prod.ext rfl (Prod.ext ?_ (Prod.ext rfl ?_))
  · funext a b; show (if a = n then 0 else hi a b) = cu hi n (fun _ => 0) a b; unfold cu; split <;> rfl
  · funext a b
    show (if a = n then none else rf0 a b) = rf0 a b
    split
    · next e => rw [e, rf0_out (Or.inl h)]
    · rfl
/-- a new row for a rope, at most c cells more -/
def NR (n : Nat) (hi : Nat → Nat → Int32) (hl : Nat → Nat → Int64) (c : Nat) (t : Tr) : Option Value → Hp → Prop := fun v h' => ∃ (p n' : Nat) (hi' : Nat → Nat → Int32) (hl' : Nat → Nat → Int64), v = some (.ref p) ∧ h' = (n', hi', hl', rf0) ∧ n ≤ p ∧ p < n' ∧ n' ≤ n + c ∧ (∀ k, k < n → hi' k = hi k ∧ hl' k = hl k) ∧ Row (hi' p) t
