theorem slo_mono {a b : Nat} (h : a ≤ b) : slo a ≤ slo b := by
  induction h with
  | refl => exact Nat.le_refl _
  | step _ ih => exact Nat.le_trans ih (Nat.le_add_right _ _)
theorem cnt_obj {Ar : Nat → ClassId} {ad : Nat → Nat} {h : Hp} {k ci N : Nat} (e : sh k = (ci, N)) (hc : ci < 100) : cnt Ar ad h k = .inr (ci, (List.range N).map fun j => tr ad (fvm h k j (ft ci j))) := by
  unfold cnt; rw [e]; rw [if_pos hc]
theorem cnt_i {Ar : Nat → ClassId} {ad : Nat → Nat} {h : Hp} {k : Nat} (e : (sh k).1 = 100) : cnt Ar ad h k = .inl (Ar 0, (sh k).2, .inl (h.2.1 k)) := by
  unfold cnt; rw [e]; simp
theorem cnt_l {Ar : Nat → ClassId} {ad : Nat → Nat} {h : Hp} {k : Nat} (e : (sh k).1 = 101) : cnt Ar ad h k = .inl (Ar 1, (sh k).2, .inr (.inl (h.2.2.1 k))) := by
  unfold cnt; rw [e]; simp
theorem cnt_z {Ar : Nat → ClassId} {ad : Nat → Nat} {h : Hp} {k : Nat} (e : (sh k).1 = 102) : cnt Ar ad h k = .inl (Ar 2, (sh k).2, .inl (h.2.1 k)) := by
  unfold cnt; rw [e]; simp
theorem cnt_q {Ar : Nat → ClassId} {ad : Nat → Nat} {h : Hp} {k : Nat} (e : (sh k).1 = 103) : cnt Ar ad h k = .inl (Ar 3, (sh k).2, .inr (.inr (.inr (.inr fun j => (h.2.2.2 k j).map ad)))) := by
  unfold cnt; rw [e]; simp
theorem rng_at {α : Type} {N j : Nat} {f : Nat → α} (h : j < N) : ((List.range N).map f)[j]? = some (f j) := by simp [h]
theorem vin_of {i : Int32} {n : Nat} (h1 : 0 ≤ i.toInt) (h2 : i.toInt < n) : vp_in i n := vp_in_iff.mpr ⟨h1, h2⟩
def csum : List Value → Nat
  | [] => 0
  | v :: S => v.category + csum S
theorem catsum {ad : Nat → Nat} {S : List Value} (h : csum S ≤ 8) : ((S.map (tr ad)).map fun v => v.category).sum ≤ 8 := by
  have key : ∀ S : List Value, ((S.map (tr ad)).map fun v => v.category).sum = csum S := by
    intro S
    induction S with
    | nil => rfl
    | cons v S ih =>
      simp only [List.map_cons, List.sum_cons]
      rw [ih]
      show _ = v.category + csum S
      cases v <;> rfl
  rw [key]; exact h
abbrev ook (n k ci N : Nat) : Prop := k < n ∧ sh k = (ci, N)
abbrev aok (n k kd : Nat) (i : Int32) : Prop := k < n ∧ (sh k).1 = kd ∧ 0 ≤ i.toInt ∧ i.toInt < (sh k).2
def o_geti (ci N j : Nat) : Fr := fun m => match m.2.1 with
  | .ref k :: S => if ook m.2.2.1 k ci N then rNx (m.1, .int (m.2.2.2.1 k j) :: S, m.2.2) else none
  | _ => none
def o_getr (ci N j : Nat) : Fr := fun m => match m.2.1 with
  | .ref k :: S => if ook m.2.2.1 k ci N then rNx (m.1, rv (m.2.2.2.2.2 k j) :: S, m.2.2) else none
  | _ => none
def o_puti (ci N j : Nat) : Fr := fun m => match m.2.1 with
  | .int x :: .ref k :: S => if ook m.2.2.1 k ci N then rNx (m.1, S, m.2.2.1, u2 m.2.2.2.1 k j x, m.2.2.2.2.1, m.2.2.2.2.2) else none
  | _ => none
def o_ald (kd : Nat) : Fr := fun m => match m.2.1 with
  | .int i :: .ref k :: S => if aok m.2.2.1 k kd i then rNx (m.1, .int (m.2.2.2.1 k i.toNatClampNeg) :: S, m.2.2) else none
  | _ => none
def o_ast : Fr := fun m => match m.2.1 with
  | .int x :: .int i :: .ref k :: S => if aok m.2.2.1 k 100 i then rNx (m.1, S, m.2.2.1, u2 m.2.2.2.1 k i.toNatClampNeg x, m.2.2.2.2.1, m.2.2.2.2.2) else none
  | _ => none
def o_zst : Fr := fun m => match m.2.1 with
  | .int x :: .int i :: .ref k :: S => if aok m.2.2.1 k 102 i ∧ (x = 0 ∨ x = 1) then rNx (m.1, S, m.2.2.1, u2 m.2.2.2.1 k i.toNatClampNeg x, m.2.2.2.2.1, m.2.2.2.2.2) else none
  | _ => none
def o_lld : Fr := fun m => match m.2.1 with
  | .int i :: .ref k :: S => if aok m.2.2.1 k 101 i then rNx (m.1, .long (m.2.2.2.2.1 k i.toNatClampNeg) :: S, m.2.2) else none
  | _ => none
def o_lst : Fr := fun m => match m.2.1 with
  | .long x :: .int i :: .ref k :: S => if aok m.2.2.1 k 101 i then rNx (m.1, S, m.2.2.1, m.2.2.2.1, u2 m.2.2.2.2.1 k i.toNatClampNeg x, m.2.2.2.2.2) else none
  | _ => none
def o_qld : Fr := fun m => match m.2.1 with
  | .int i :: .ref k :: S => if aok m.2.2.1 k 103 i then rNx (m.1, rv (m.2.2.2.2.2 k i.toNatClampNeg) :: S, m.2.2) else none
  | _ => none
def o_alen : Fr := fun m => match m.2.1 with
  | .ref k :: S => if k < m.2.2.1 ∧ (sh k).1 = 100 ∨ k < m.2.2.1 ∧ (sh k).1 = 102 ∨ k < m.2.2.1 ∧ (sh k).1 = 103 then rNx (m.1, .int (nI (sh k).2) :: S, m.2.2) else none
  | _ => none
def o_max : Fr := fun m => match m.2.1 with
  | .int y :: .int x :: S => if csum S ≤ 8 then rNx (m.1, .int (if x < y then y else x) :: S, m.2.2) else none
  | _ => none
def o_min : Fr := fun m => match m.2.1 with
  | .int y :: .int x :: S => if csum S ≤ 8 then rNx (m.1, .int (if y < x then y else x) :: S, m.2.2) else none
  | _ => none
/-- System.arraycopy between rows of ints -/
def o_cpy : Fr := fun m => match m.2.1 with
  | .int n :: .int dp :: .ref k1 :: .int sp :: .ref k0 :: S => if (k0 < m.2.2.1 ∧ k1 < m.2.2.1 ∧ (sh k0).1 = 100 ∧ (sh k1).1 = 100) ∧ (0 ≤ sp.toInt ∧ 0 ≤ dp.toInt ∧ 0 ≤ n.toInt) ∧ sp.toNatClampNeg + n.toNatClampNeg ≤ (sh k0).2 ∧ dp.toNatClampNeg + n.toNatClampNeg ≤ (sh k1).2 ∧ csum S ≤ 8 then
      rNx (m.1, S, m.2.2.1, (fun a => if a = k1 then va_cpy (m.2.2.2.1 k0) (m.2.2.2.1 k1) sp.toNatClampNeg dp.toNatClampNeg n.toNatClampNeg else m.2.2.2.1 a), m.2.2.2.2.1, m.2.2.2.2.2) else none
  | _ => none
theorem rv_ok {h : Hp} {k j : Nat} (H : Hok h) (hk : k < h.1) : vok h.1 (rv (h.2.2.2 k j)) := by
  cases e : h.2.2.2 k j with
  | none => trivial
  | some i => exact H k j i hk e
theorem tr_rv {ad : Nat → Nat} {o : Option Nat} : tr ad (rv o) = va_rf (o.map ad) := by cases o <;> rfl
theorem u2s {α : Type} {f : Nat → Nat → α} {k j : Nat} {x : α} : u2 f k j x k j = x := by simp [u2]
theorem u2o {α : Type} {f : Nat → Nat → α} {k j a b : Nat} {x : α} (h : ¬ (a = k ∧ b = j)) : u2 f k j x a b = f a b := by simp [u2, h]
theorem u2r {α : Type} {f : Nat → Nat → α} {k j a : Nat} {x : α} (h : a ≠ k) : u2 f k j x a = f a := by funext b; simp [u2, h]
theorem cnt_hi {Ar : Nat → ClassId} {ad : Nat → Nat} {h h' : Hp} {k : Nat} (e1 : h'.2.1 k = h.2.1 k) (e2 : h'.2.2.1 k = h.2.2.1 k) (e3 : h'.2.2.2 k = h.2.2.2 k) : cnt Ar ad h' k = cnt Ar ad h k := by
  unfold cnt fvm
  rw [e1, e2, e3]
section HeapS
variable {l : Launch} {E : Cxt → Prop} {own nm : String} {cc : ByteArray} {nL : Nat} {rt : Option FieldType} {fr lo : Nat} {lb : List Nat} {pc : Nat}
theorem s_geti {ci N j index : Nat} {C : String} {T : u_T} (hc : vwCl[ci]? = some (C, T, N)) (hci : ci < 100) (hj : j < N) (hin : ∀ w ∈ u_ws C T N, w ∈ lw_gd) (hw : Cond.fieldLink own index (T j).1 (T j).2.1 (T j).2.2.1 ∈ lw_gd) (hft : ft ci j = 0) (hd : decode cc pc = .ok (.getfield index, 3)) : Sim l E own nm cc nL rt fr lo lb (o_geti ci N j) pc (pc + 3) := by
  refine Sim.step fun st r h => ?_
  obtain ⟨L, S, n, hi, hl, hr0⟩ := st
  dsimp only [o_geti] at h
  split at h
  case h_2 => cases h
  rename_i k S
  split at h
  case isFalse => cases h
  rename_i hz
  cases h
  refine ⟨_, rfl, Nat.le_refl _, fun X C hn K => ?_⟩
  obtain ⟨⟨p, e, s, m⟩, ⟨args, below, meth, c⟩, ⟨D, Ar, ad0, n0⟩, A0, vF, hF⟩ := X
  obtain ⟨hx, hb, hml, hr, hlk, hown, hts, hK, hA, hn0⟩ := C
  intro ad ls H locs a1 a2 a3 a4 a5 a6 a7 a8 a9
  have hv : ((List.range N).map fun j => tr ad (fvm (n, hi, hl, hr0) k j (ft ci j)))[j]? = some (.int (hi k j)) := by rw [rng_at hj, hft]; rfl
  exact va_get hx hb hts hin hown hK a7 k ((ws_at hz.1).trans (by rw [cnt_obj hz.2 hci])) hc j hj (hts _ hw) (fun _ h9 => h9) hv hd (K ad ls H locs a1 a2 a3 (vkc trivial (vkt a4)) a5 a6 a7 a8 a9)
theorem s_getr {ci N j index : Nat} {C : String} {T : u_T} (hc : vwCl[ci]? = some (C, T, N)) (hci : ci < 100) (hj : j < N) (hin : ∀ w ∈ u_ws C T N, w ∈ lw_gd) (hw : Cond.fieldLink own index (T j).1 (T j).2.1 (T j).2.2.1 ∈ lw_gd) (hft : ft ci j = 2) (hd : decode cc pc = .ok (.getfield index, 3)) : Sim l E own nm cc nL rt fr lo lb (o_getr ci N j) pc (pc + 3) := by
  refine Sim.step fun st r h => ?_
  obtain ⟨L, S, n, hi, hl, hr0⟩ := st
  dsimp only [o_getr] at h
  split at h
  case h_2 => cases h
  rename_i k S
  split at h
  case isFalse => cases h
  rename_i hz
  cases h
  refine ⟨_, rfl, Nat.le_refl _, fun X C hn K => ?_⟩
  obtain ⟨⟨p, e, s, m⟩, ⟨args, below, meth, c⟩, ⟨D, Ar, ad0, n0⟩, A0, vF, hF⟩ := X
  obtain ⟨hx, hb, hml, hr, hlk, hown, hts, hK, hA, hn0⟩ := C
  intro ad ls H locs a1 a2 a3 a4 a5 a6 a7 a8 a9
  have hv : ((List.range N).map fun j => tr ad (fvm (n, hi, hl, hr0) k j (ft ci j)))[j]? = some (tr ad (rv (hr0 k j))) := by rw [rng_at hj, hft]; rfl
  exact va_get hx hb hts hin hown hK a7 k ((ws_at hz.1).trans (by rw [cnt_obj hz.2 hci])) hc j hj (hts _ hw) (fun _ h9 => h9) hv hd (K ad ls H locs a1 a2 a3 (vkc (rv_ok a5 hz.1) (vkt a4)) a5 a6 a7 a8 a9)
theorem s_puti {ci N j index : Nat} {C : String} {T : u_T} (hc : vwCl[ci]? = some (C, T, N)) (hci : ci < 100) (hj : j < N) (hin : ∀ w ∈ u_ws C T N, w ∈ lw_gd) (hw : Cond.fieldLink own index (T j).1 (T j).2.1 (T j).2.2.1 ∈ lw_gd) (hft : ft ci j = 0) (ty : Nat → FieldType) (hty : ∀ k, k < N → parseFieldDescriptor (T k).2.2.1 = some (ty k)) (hnm : ∀ a, a < N → ∀ b, b < N → a ≠ b → (T a).2.1 ≠ (T b).2.1) (hfin : (T j).2.2.2 = false) (hd2 : parseFieldDescriptor (T j).2.2.1 = some .int) (hd : decode cc pc = .ok (.putfield index, 3)) : Sim l E own nm cc nL rt fr lo lb (o_puti ci N j) pc (pc + 3) := by
  refine Sim.step fun st r h => ?_
  obtain ⟨L, S, n, hi, hl, hr0⟩ := st
  dsimp only [o_puti] at h
  split at h
  case h_2 => cases h
  rename_i x k S
  split at h
  case isFalse => cases h
  rename_i hz
  cases h
  refine ⟨_, rfl, Nat.le_refl _, fun X C hn K => ?_⟩
  obtain ⟨⟨p, e, s, m⟩, ⟨args, below, meth, c⟩, ⟨D, Ar, ad0, n0⟩, A0, vF, hF⟩ := X
  obtain ⟨hx, hb, hml, hr, hlk, hown, hts, hK, hA, hn0⟩ := C
  intro ad ls H locs a1 a2 a3 a4 a5 a6 a7 a8 a9
  have he : cnt Ar ad (n, u2 hi k j x, hl, hr0) k = .inr (ci, ((List.range N).map fun j => tr ad (fvm (n, hi, hl, hr0) k j (ft ci j))).set j (.int x)) := by
    rw [cnt_obj hz.2 hci]
    refine congrArg (fun z => (Sum.inr (ci, z) : va_E)) (List.ext_getElem? fun q => ?_)
    rw [List.getElem?_set]
    by_cases c1 : j = q
    · subst c1
      rw [if_pos rfl, rng_at hj, if_pos (by simpa using hj), hft]
      show some (Value.int (u2 hi k j x k j)) = _
      rw [u2s]
    · rw [if_neg c1]
      by_cases c2 : q < N
      · rw [rng_at c2, rng_at c2]
        unfold fvm
        dsimp only
        rw [u2o (fun z => c1 z.2.symm)]
      · simp [c2]
  refine va_put hx hb hts hin ty hty hnm hown hK a7 a8 a9 k ((ws_at hz.1).trans (by rw [cnt_obj hz.2 hci])) hc j hj (hts _ hw) (fun _ h9 => h9) hfin hd2 rfl rfl (by simpa using hj) hd (fun H1 locs1 b7 b8 b9 => ?_)
  have hE := ws_set (Ar := Ar) (ad := ad) (h := (n, hi, hl, hr0)) (h' := (n, u2 hi k j x, hl, hr0)) rfl he (fun q hq => cnt_hi (u2r hq) rfl rfl)
  have b7 := hE.subst (motive := fun z => va_P D vwCl z H1) b7
  have b8 := hE.subst (motive := fun z => va_D A0 z) b8
  exact K ad ls H1 locs1 a1 a2 a3 (vkt (vkt a4)) a5 a6 b7 b8 b9
theorem s_iald (hd : decode cc pc = .ok (.iaload, 1)) : Sim l E own nm cc nL rt fr lo lb (o_ald 100) pc (pc + 1) := by
  refine Sim.step fun st r h => ?_
  obtain ⟨L, S, n, hi, hl, hr0⟩ := st
  dsimp only [o_ald] at h
  split at h
  case h_2 => cases h
  rename_i i k S
  split at h
  case isFalse => cases h
  rename_i hz
  cases h
  refine ⟨_, rfl, Nat.le_refl _, fun X C hn K => ?_⟩
  obtain ⟨⟨p, e, s, m⟩, ⟨args, below, meth, c⟩, ⟨D, Ar, ad0, n0⟩, A0, vF, hF⟩ := X
  obtain ⟨hx, hb, hml, hr, hlk, hown, hts, hK, hA, hn0⟩ := C
  intro ad ls H locs a1 a2 a3 a4 a5 a6 a7 a8 a9
  exact va_iald hx hb hK a7 k 0 ((ws_at hz.1).trans (by rw [cnt_i hz.2.1])) rfl (vin_of hz.2.2.1 hz.2.2.2) hd (K ad ls H locs a1 a2 a3 (vkc trivial (vkt (vkt a4))) a5 a6 a7 a8 a9)
theorem s_zald (hd : decode cc pc = .ok (.baload, 1)) : Sim l E own nm cc nL rt fr lo lb (o_ald 102) pc (pc + 1) := by
  refine Sim.step fun st r h => ?_
  obtain ⟨L, S, n, hi, hl, hr0⟩ := st
  dsimp only [o_ald] at h
  split at h
  case h_2 => cases h
  rename_i i k S
  split at h
  case isFalse => cases h
  rename_i hz
  cases h
  refine ⟨_, rfl, Nat.le_refl _, fun X C hn K => ?_⟩
  obtain ⟨⟨p, e, s, m⟩, ⟨args, below, meth, c⟩, ⟨D, Ar, ad0, n0⟩, A0, vF, hF⟩ := X
  obtain ⟨hx, hb, hml, hr, hlk, hown, hts, hK, hA, hn0⟩ := C
  intro ad ls H locs a1 a2 a3 a4 a5 a6 a7 a8 a9
  exact va_zald hx hb hK a7 k 2 ((ws_at hz.1).trans (by rw [cnt_z hz.2.1])) rfl (vin_of hz.2.2.1 hz.2.2.2) hd (K ad ls H locs a1 a2 a3 (vkc trivial (vkt (vkt a4))) a5 a6 a7 a8 a9)
theorem s_lald (hd : decode cc pc = .ok (.laload, 1)) : Sim l E own nm cc nL rt fr lo lb (o_lld) pc (pc + 1) := by
  refine Sim.step fun st r h => ?_
  obtain ⟨L, S, n, hi, hl, hr0⟩ := st
  dsimp only [o_lld] at h
  split at h
  case h_2 => cases h
  rename_i i k S
  split at h
  case isFalse => cases h
  rename_i hz
  cases h
  refine ⟨_, rfl, Nat.le_refl _, fun X C hn K => ?_⟩
  obtain ⟨⟨p, e, s, m⟩, ⟨args, below, meth, c⟩, ⟨D, Ar, ad0, n0⟩, A0, vF, hF⟩ := X
  obtain ⟨hx, hb, hml, hr, hlk, hown, hts, hK, hA, hn0⟩ := C
  intro ad ls H locs a1 a2 a3 a4 a5 a6 a7 a8 a9
  exact va_lald hx hb hK a7 k 1 ((ws_at hz.1).trans (by rw [cnt_l hz.2.1])) rfl (vin_of hz.2.2.1 hz.2.2.2) hd (K ad ls H locs a1 a2 a3 (vkc trivial (vkt (vkt a4))) a5 a6 a7 a8 a9)
theorem s_qald (hd : decode cc pc = .ok (.aaload, 1)) : Sim l E own nm cc nL rt fr lo lb (o_qld) pc (pc + 1) := by
  refine Sim.step fun st r h => ?_
  obtain ⟨L, S, n, hi, hl, hr0⟩ := st
  dsimp only [o_qld] at h
  split at h
  case h_2 => cases h
  rename_i i k S
  split at h
  case isFalse => cases h
  rename_i hz
  cases h
  refine ⟨_, rfl, Nat.le_refl _, fun X C hn K => ?_⟩
  obtain ⟨⟨p, e, s, m⟩, ⟨args, below, meth, c⟩, ⟨D, Ar, ad0, n0⟩, A0, vF, hF⟩ := X
  obtain ⟨hx, hb, hml, hr, hlk, hown, hts, hK, hA, hn0⟩ := C
  intro ad ls H locs a1 a2 a3 a4 a5 a6 a7 a8 a9
  refine va_aldq hx hb hK a7 k 3 ((ws_at hz.1).trans (by rw [cnt_q hz.2.1])) rfl (vin_of hz.2.2.1 hz.2.2.2) hd ?_
  have K2 := K ad ls H locs a1 a2 a3 (vkc (rv_ok a5 hz.1) (vkt (vkt a4))) a5 a6 a7 a8 a9
  rw [List.map_cons, tr_rv] at K2
  exact K2
theorem s_iast (hd : decode cc pc = .ok (.iastore, 1)) : Sim l E own nm cc nL rt fr lo lb (o_ast) pc (pc + 1) := by
  refine Sim.step fun st r h => ?_
  obtain ⟨L, S, n, hi, hl, hr0⟩ := st
  dsimp only [o_ast] at h
  split at h
  case h_2 => cases h
  rename_i x i k S
  split at h
  case isFalse => cases h
  rename_i hz
  cases h
  refine ⟨_, rfl, Nat.le_refl _, fun X C hn K => ?_⟩
  obtain ⟨⟨p, e, s, m⟩, ⟨args, below, meth, c⟩, ⟨D, Ar, ad0, n0⟩, A0, vF, hF⟩ := X
  obtain ⟨hx, hb, hml, hr, hlk, hown, hts, hK, hA, hn0⟩ := C
  intro ad ls H locs a1 a2 a3 a4 a5 a6 a7 a8 a9
  refine va_iast hx hb hK a7 a8 a9 k 0 ((ws_at hz.1).trans (by rw [cnt_i hz.2.1])) rfl (vin_of hz.2.2.1 hz.2.2.2) hd (fun H1 locs1 b7 b8 b9 => ?_)
  have hE : (wsOf Ar ad (n, hi, hl, hr0)).set k (ad k, .inl (Ar 0, (sh k).2, .inl (upd (hi k) i.toNatClampNeg x))) = wsOf Ar ad (n, u2 hi k i.toNatClampNeg x, hl, hr0) := by
    refine ws_set rfl ((cnt_i hz.2.1).trans ?_) (fun q hq => cnt_hi (u2r hq) rfl rfl)
    refine congrArg (fun z => (Sum.inl (Ar 0, (sh k).2, .inl z) : va_E)) (funext fun q => ?_)
    show u2 _ k i.toNatClampNeg x k q = upd _ i.toNatClampNeg x q
    simp [u2, upd]
  have b7 := hE.subst (motive := fun z => va_P D vwCl z H1) b7
  have b8 := hE.subst (motive := fun z => va_D A0 z) b8
  exact K ad ls H1 locs1 a1 a2 a3 (vkt (vkt (vkt a4))) a5 a6 b7 b8 b9
theorem s_last (hd : decode cc pc = .ok (.lastore, 1)) : Sim l E own nm cc nL rt fr lo lb (o_lst) pc (pc + 1) := by
  refine Sim.step fun st r h => ?_
  obtain ⟨L, S, n, hi, hl, hr0⟩ := st
  dsimp only [o_lst] at h
  split at h
  case h_2 => cases h
  rename_i x i k S
  split at h
  case isFalse => cases h
  rename_i hz
  cases h
  refine ⟨_, rfl, Nat.le_refl _, fun X C hn K => ?_⟩
  obtain ⟨⟨p, e, s, m⟩, ⟨args, below, meth, c⟩, ⟨D, Ar, ad0, n0⟩, A0, vF, hF⟩ := X
  obtain ⟨hx, hb, hml, hr, hlk, hown, hts, hK, hA, hn0⟩ := C
  intro ad ls H locs a1 a2 a3 a4 a5 a6 a7 a8 a9
  refine va_last hx hb hK a7 a8 a9 k 1 ((ws_at hz.1).trans (by rw [cnt_l hz.2.1])) rfl (vin_of hz.2.2.1 hz.2.2.2) hd (fun H1 locs1 b7 b8 b9 => ?_)
  have hE : (wsOf Ar ad (n, hi, hl, hr0)).set k (ad k, .inl (Ar 1, (sh k).2, .inr <| .inl (vp_updL (hl k) i.toNatClampNeg x))) = wsOf Ar ad (n, hi, u2 hl k i.toNatClampNeg x, hr0) := by
    refine ws_set rfl ((cnt_l hz.2.1).trans ?_) (fun q hq => cnt_hi rfl (u2r hq) rfl)
    refine congrArg (fun z => (Sum.inl (Ar 1, (sh k).2, .inr <| .inl z) : va_E)) (funext fun q => ?_)
    show u2 _ k i.toNatClampNeg x k q = vp_updL _ i.toNatClampNeg x q
    simp [u2, vp_updL]
  have b7 := hE.subst (motive := fun z => va_P D vwCl z H1) b7
  have b8 := hE.subst (motive := fun z => va_D A0 z) b8
  exact K ad ls H1 locs1 a1 a2 a3 (vkt (vkt (vkt a4))) a5 a6 b7 b8 b9
theorem s_zast (hd : decode cc pc = .ok (.bastore, 1)) : Sim l E own nm cc nL rt fr lo lb (o_zst) pc (pc + 1) := by
  refine Sim.step fun st r h => ?_
  obtain ⟨L, S, n, hi, hl, hr0⟩ := st
  dsimp only [o_zst] at h
  split at h
  case h_2 => cases h
  rename_i x i k S
  split at h
  case isFalse => cases h
  rename_i hz
  cases h
  refine ⟨_, rfl, Nat.le_refl _, fun X C hn K => ?_⟩
  obtain ⟨⟨p, e, s, m⟩, ⟨args, below, meth, c⟩, ⟨D, Ar, ad0, n0⟩, A0, vF, hF⟩ := X
  obtain ⟨hx, hb, hml, hr, hlk, hown, hts, hK, hA, hn0⟩ := C
  intro ad ls H locs a1 a2 a3 a4 a5 a6 a7 a8 a9
  refine va_zast hx hb hK a7 a8 a9 k 2 ((ws_at hz.1.1).trans (by rw [cnt_z hz.1.2.1])) rfl (vin_of hz.1.2.2.1 hz.1.2.2.2) hd (fun H1 locs1 b7 b8 b9 => ?_)
  rw [show vp_nar .boolean x = x by rcases hz.2 with rfl | rfl <;> decide +kernel] at b7 b8
  have hE : (wsOf Ar ad (n, hi, hl, hr0)).set k (ad k, .inl (Ar 2, (sh k).2, .inl (upd (hi k) i.toNatClampNeg x))) = wsOf Ar ad (n, u2 hi k i.toNatClampNeg x, hl, hr0) := by
    refine ws_set rfl ((cnt_z hz.1.2.1).trans ?_) (fun q hq => cnt_hi (u2r hq) rfl rfl)
    refine congrArg (fun z => (Sum.inl (Ar 2, (sh k).2, .inl z) : va_E)) (funext fun q => ?_)
    show u2 _ k i.toNatClampNeg x k q = upd _ i.toNatClampNeg x q
    simp [u2, upd]
  have b7 := hE.subst (motive := fun z => va_P D vwCl z H1) b7
  have b8 := hE.subst (motive := fun z => va_D A0 z) b8
  exact K ad ls H1 locs1 a1 a2 a3 (vkt (vkt (vkt a4))) a5 a6 b7 b8 b9
theorem s_alen (hd : decode cc pc = .ok (.arraylength, 1)) : Sim l E own nm cc nL rt fr lo lb (o_alen) pc (pc + 1) := by
  refine Sim.step fun st r h => ?_
  obtain ⟨L, S, n, hi, hl, hr0⟩ := st
  dsimp only [o_alen] at h
  split at h
  case h_2 => cases h
  rename_i k S
  split at h
  case isFalse => cases h
  rename_i hz
  cases h
  refine ⟨_, rfl, Nat.le_refl _, fun X C hn K => ?_⟩
  obtain ⟨⟨p, e, s, m⟩, ⟨args, below, meth, c⟩, ⟨D, Ar, ad0, n0⟩, A0, vF, hF⟩ := X
  obtain ⟨hx, hb, hml, hr, hlk, hown, hts, hK, hA, hn0⟩ := C
  intro ad ls H locs a1 a2 a3 a4 a5 a6 a7 a8 a9
  have K2 := K ad ls H locs a1 a2 a3 (vkc trivial (vkt a4)) a5 a6 a7 a8 a9
  rcases hz with hz | hz | hz
  · exact va_alen (v := nI (sh k).2) hx hb hK a7 k 0 ((ws_at hz.1).trans (by rw [cnt_i hz.2])) rfl rfl hd K2
  · exact va_alen (v := nI (sh k).2) hx hb hK a7 k 2 ((ws_at hz.1).trans (by rw [cnt_z hz.2])) rfl rfl hd K2
  · exact va_alen (v := nI (sh k).2) hx hb hK a7 k 3 ((ws_at hz.1).trans (by rw [cnt_q hz.2])) rfl rfl hd K2
theorem s_max {index : Nat} (hfr : 1 ≤ fr) (hlo : 21 ≤ lo) (w1 : Cond.methodLink own index Lib.Math.max.name ∈ lw_gd) (w2 : Cond.static Lib.Math.max.name ∈ lw_gd) (w3 : Cond.initialized "java/lang/Math" ∈ lw_gd) (w4 : Cond.code Lib.Math.max.name Lib.Math.max.code 2 (some .int) ∈ lw_gd) (hd : decode cc pc = .ok (.invokestatic index, 3)) : Sim l E own nm cc nL rt fr lo lb (o_max) pc (pc + 3) := by
  refine Sim.step fun st r h => ?_
  obtain ⟨L, S, n, hi, hl, hr0⟩ := st
  dsimp only [o_max] at h
  split at h
  case h_2 => cases h
  rename_i y x S
  split at h
  case isFalse => cases h
  rename_i hz
  cases h
  refine ⟨_, rfl, Nat.le_refl _, fun X C hn K => ?_⟩
  obtain ⟨⟨p, e, s, m⟩, ⟨args, below, meth, c⟩, ⟨D, Ar, ad0, n0⟩, A0, vF, hF⟩ := X
  obtain ⟨hx, hb, hml, hr, hlk, hown, hts, hK, hA, hn0⟩ := C
  intro ad ls H locs a1 a2 a3 a4 a5 a6 a7 a8 a9
  have hcs := catsum (ad := ad) hz
  change n ≤ hF.1 at hn
  refine va_mmax hx hb (hml.trans a6.1.symm) hown (hts _ w1) (hts _ w2) (hts _ w3) (hts _ w4) hfr (by show _ ≤ lo; omega) (by show n - n0 ≤ hF.1 - n0; omega) (by show slo n - slo n0 ≤ slo hF.1 - slo n0; have := slo_mono hn; omega) hd ?_
  exact K ad ls H locs a1 a2 a3 (vkc trivial (vkt (vkt a4))) a5 a6 a7 a8 a9
theorem s_min {index : Nat} (hfr : 1 ≤ fr) (hlo : 21 ≤ lo) (w1 : Cond.methodLink own index Lib.Math.min.name ∈ lw_gd) (w2 : Cond.static Lib.Math.min.name ∈ lw_gd) (w3 : Cond.initialized "java/lang/Math" ∈ lw_gd) (w4 : Cond.code Lib.Math.min.name Lib.Math.min.code 2 (some .int) ∈ lw_gd) (hd : decode cc pc = .ok (.invokestatic index, 3)) : Sim l E own nm cc nL rt fr lo lb (o_min) pc (pc + 3) := by
  refine Sim.step fun st r h => ?_
  obtain ⟨L, S, n, hi, hl, hr0⟩ := st
  dsimp only [o_min] at h
  split at h
  case h_2 => cases h
  rename_i y x S
  split at h
  case isFalse => cases h
  rename_i hz
  cases h
  refine ⟨_, rfl, Nat.le_refl _, fun X C hn K => ?_⟩
  obtain ⟨⟨p, e, s, m⟩, ⟨args, below, meth, c⟩, ⟨D, Ar, ad0, n0⟩, A0, vF, hF⟩ := X
  obtain ⟨hx, hb, hml, hr, hlk, hown, hts, hK, hA, hn0⟩ := C
  intro ad ls H locs a1 a2 a3 a4 a5 a6 a7 a8 a9
  have hcs := catsum (ad := ad) hz
  change n ≤ hF.1 at hn
  refine va_mmin hx hb (hml.trans a6.1.symm) hown (hts _ w1) (hts _ w2) (hts _ w3) (hts _ w4) hfr (by show _ ≤ lo; omega) (by show n - n0 ≤ hF.1 - n0; omega) (by show slo n - slo n0 ≤ slo hF.1 - slo n0; have := slo_mono hn; omega) hd ?_
  exact K ad ls H locs a1 a2 a3 (vkc trivial (vkt (vkt a4))) a5 a6 a7 a8 a9
theorem s_cpy {index : Nat} (hfr : 1 ≤ fr) (hlo : 8 + (nativeFrameWords "java/lang/System" "arraycopy" 5 + 11) ≤ lo) (w1 : Cond.methodLink own index arraycopyName ∈ lw_gd) (w2 : Cond.native arraycopyName ∈ lw_gd) (w3 : Cond.static arraycopyName ∈ lw_gd) (w4 : Cond.initialized "java/lang/System" ∈ lw_gd) (hd : decode cc pc = .ok (.invokestatic index, 3)) : Sim l E own nm cc nL rt fr lo lb (o_cpy) pc (pc + 3) := by
  refine Sim.step fun st r h => ?_
  obtain ⟨L, S, n, hi, hl, hr0⟩ := st
  dsimp only [o_cpy] at h
  split at h
  case h_2 => cases h
  rename_i cn dp k1 sp k0 S
  split at h
  case isFalse => cases h
  rename_i hz
  cases h
  refine ⟨_, rfl, Nat.le_refl _, fun X C hn K => ?_⟩
  obtain ⟨⟨p, e, s, m⟩, ⟨args, below, meth, c⟩, ⟨D, Ar, ad0, n0⟩, A0, vF, hF⟩ := X
  obtain ⟨hx, hb, hml, hr, hlk, hown, hts, hK, hA, hn0⟩ := C
  intro ad ls H locs a1 a2 a3 a4 a5 a6 a7 a8 a9
  obtain ⟨⟨z1, z2, z3, z4⟩, ⟨y1, y2, y3⟩, x1, x2, x3⟩ := hz
  have hcs := catsum (ad := ad) x3
  have nlt : ∀ z : Int32, 0 ≤ z.toInt → ¬ z < 0 := fun z h0 h1 => by
    have := Int32.lt_iff_toInt_lt.mp h1
    simp at this
    omega
  refine va_copyi hx hb (hml.trans a6.1.symm) hown (hts _ w1) (hts _ w2) (hts _ w3) (hts _ w4) hK a7 a8 a9 k0 k1 0 0 ((ws_at z1).trans (by rw [cnt_i z3])) ((ws_at z2).trans (by rw [cnt_i z4])) rfl rfl rfl (nlt _ y1) (nlt _ y2) (nlt _ y3) x1 x2 (fun i _ => rfl) hfr (by show _ ≤ lo; omega) hd (fun H1 locs1 b7 b8 b9 => ?_)
  have hE : (wsOf Ar ad (n, hi, hl, hr0)).set k1 (ad k1, .inl (Ar 0, (sh k1).2, .inl (va_cpy (hi k0) (hi k1) sp.toNatClampNeg dp.toNatClampNeg cn.toNatClampNeg))) = wsOf Ar ad (n, (fun a => if a = k1 then va_cpy (hi k0) (hi k1) sp.toNatClampNeg dp.toNatClampNeg cn.toNatClampNeg else hi a), hl, hr0) :=
    ws_set rfl ((cnt_i z4).trans (by simp)) (fun q hq => cnt_hi (by simp [hq]) rfl rfl)
  have b7 := hE.subst (motive := fun z => va_P D vwCl z H1) b7
  have b8 := hE.subst (motive := fun z => va_D A0 z) b8
  exact K ad ls H1 locs1 a1 a2 a3 (vkt (vkt (vkt (vkt (vkt a4))))) a5 a6 b7 b8 b9
end HeapS
