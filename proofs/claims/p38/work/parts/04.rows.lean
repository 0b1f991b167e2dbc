theorem getD_out {L : List Value} {k : Nat} (h : L.length ≤ k) : L.getD k .null = .null := by simp [List.getD_eq_getElem?_getD, h]
theorem mem_lvOf {ad : Nat → Nat} {L : List Value} {q : Nat × Value} : q ∈ lvOf ad L ↔ q.1 < L.length ∧ L.getD q.1 .null ≠ .null ∧ q.2 = tr ad (L.getD q.1 .null) := by
  unfold lvOf lvE
  rw [List.mem_flatMap]
  constructor
  · rintro ⟨k, hk, hq⟩
    rw [List.mem_range] at hk
    split at hq
    · cases hq
    · next hne =>
      rw [List.mem_singleton] at hq
      subst hq
      exact ⟨hk, hne, rfl⟩
  · rintro ⟨h1, h2, h3⟩
    refine ⟨q.1, List.mem_range.mpr h1, ?_⟩
    rw [if_neg h2, List.mem_singleton]
    exact Prod.ext rfl h3
theorem lvL {ls : Array Slot} {nL : Nat} {ad : Nat → Nat} {L : List Value} {k : Nat} {v : Value} (h : lv_has ls nL (lvOf ad L)) (e : L.getD k .null = v) (hv : v ≠ .null) : ls[k]? = some (.val (tr ad v)) := by
  have hk : k < L.length := by
    rcases Nat.lt_or_ge k L.length with q | q
    · exact q
    · rw [getD_out q] at e; exact absurd e.symm hv
  exact h.2.2 (k, tr ad v) (mem_lvOf.mpr ⟨hk, by rw [e]; exact hv, by rw [e]⟩)
theorem vkc {n : Nat} {v : Value} {S : List Value} (a : vok n v) (b : Vok n S) : Vok n (v :: S) := fun x hx => by
  rcases List.mem_cons.mp hx with rfl | h
  · exact a
  · exact b x h
theorem vkt {n : Nat} {v : Value} {S : List Value} (b : Vok n (v :: S)) : Vok n S := fun x hx => b x (List.mem_cons_of_mem _ hx)
theorem vkh {n : Nat} {v : Value} {S : List Value} (b : Vok n (v :: S)) : vok n v := b v List.mem_cons_self
theorem vkg {n k : Nat} {L : List Value} (b : Vok n L) : vok n (L.getD k .null) := by
  rcases Nat.lt_or_ge k L.length with q | q
  · rw [show L.getD k .null = L[k] by simp [List.getD_eq_getElem?_getD, q]]; exact b _ (List.getElem_mem q)
  · rw [getD_out q]; trivial
theorem vks {n k : Nat} {v : Value} {L : List Value} (a : vok n v) (b : Vok n L) : Vok n (L.set k v) := fun x hx => by
  rcases List.mem_or_eq_of_mem_set hx with h | h
  · exact b x h
  · rw [h]; exact a
/-- may the local k be stored: no long stands just below -/
def okst : Nat → List Value → Bool
  | 0, _ => true
  | k + 1, L => (L.getD k .null).category == 1
theorem getD_set {L : List Value} {k j : Nat} {v : Value} : (L.set k v).getD j .null = if j = k ∧ k < L.length then v else L.getD j .null := by
  simp only [List.getD_eq_getElem?_getD, List.getElem?_set]
  by_cases h : k = j
  · subst h
    by_cases h2 : k < L.length
    · simp [h2]
    · simp [h2]
  · simp [h, Ne.symm h]
theorem tr_cat (ad : Nat → Nat) (v : Value) : (tr ad v).category = v.category := by cases v <;> rfl
theorem tr_nn {ad : Nat → Nat} {v : Value} : tr ad v = .null ↔ v = .null := by cases v <;> simp [tr]
theorem lv_set1 {ls : Array Slot} {nL : Nat} {ad : Nat → Nat} {L : List Value} {k : Nat} {v : Value} (hs : okst k L = true)
    (h : lv_has ls nL ((k, tr ad v) :: (lvOf ad L).filter (fun q => !(q.1 == k) && !(q.1 + 1 == k && q.2.category == 2)))) : lv_has ls nL (lvOf ad (L.set k v)) := by
  refine ⟨h.1, h.2.1, fun q hq => h.2.2 q ?_⟩
  obtain ⟨h1, h2, h3⟩ := mem_lvOf.mp hq
  rw [getD_set] at h2 h3
  rw [List.length_set] at h1
  by_cases c : q.1 = k ∧ k < L.length
  · rw [if_pos c] at h2 h3
    rw [List.mem_cons]
    left
    exact Prod.ext c.1 h3
  · rw [if_neg c] at h2 h3
    have c1 : q.1 ≠ k := fun z => c ⟨z, z ▸ h1⟩
    refine List.mem_cons_of_mem _ (List.mem_filter.mpr ⟨mem_lvOf.mpr ⟨h1, h2, h3⟩, ?_⟩)
    have c2 : ¬ (q.1 + 1 = k ∧ q.2.category = 2) := by
      rintro ⟨z1, z2⟩
      rw [h3, tr_cat] at z2
      rw [← z1] at hs
      have hs2 := beq_iff_eq.mp (show ((L.getD q.1 .null).category == 1) = true from hs)
      omega
    simp only [Bool.and_eq_true, Bool.not_eq_true', beq_eq_false_iff_ne, ne_eq, Bool.and_eq_false_imp, beq_iff_eq]
    exact ⟨c1, fun z => fun z2 => c2 ⟨z, z2⟩⟩
theorem lv_set2 {ls : Array Slot} {nL : Nat} {ad : Nat → Nat} {L : List Value} {k : Nat} {v : Value} (hs : okst k L = true)
    (h : lv_has ls nL ((k, tr ad v) :: (lvOf ad L).filter (fun q => !(q.1 == k) && (!(q.1 == k + 1) && !(q.1 + 1 == k && q.2.category == 2))))) : lv_has ls nL (lvOf ad ((L.set k v).set (k + 1) .null)) := by
  refine ⟨h.1, h.2.1, fun q hq => h.2.2 q ?_⟩
  obtain ⟨h1, h2, h3⟩ := mem_lvOf.mp hq
  rw [getD_set] at h2 h3
  rw [List.length_set, List.length_set] at h1
  have c0 : q.1 ≠ k + 1 := fun z => by rw [if_pos ⟨z, by rw [List.length_set]; omega⟩] at h2; exact h2 rfl
  rw [if_neg (fun z => c0 z.1), getD_set] at h2 h3
  by_cases c : q.1 = k ∧ k < L.length
  · rw [if_pos c] at h2 h3
    rw [List.mem_cons]
    left
    exact Prod.ext c.1 h3
  · rw [if_neg c] at h2 h3
    have c1 : q.1 ≠ k := fun z => c ⟨z, z ▸ h1⟩
    refine List.mem_cons_of_mem _ (List.mem_filter.mpr ⟨mem_lvOf.mpr ⟨h1, h2, h3⟩, ?_⟩)
    have c2 : ¬ (q.1 + 1 = k ∧ q.2.category = 2) := by
      rintro ⟨z1, z2⟩
      rw [h3, tr_cat] at z2
      rw [← z1] at hs
      have hs2 := beq_iff_eq.mp (show ((L.getD q.1 .null).category == 1) = true from hs)
      omega
    simp only [Bool.and_eq_true, Bool.not_eq_true', beq_eq_false_iff_ne, ne_eq, Bool.and_eq_false_imp, beq_iff_eq]
    exact ⟨c1, c0, fun z => fun z2 => c2 ⟨z, z2⟩⟩
theorem ws_at {Ar : Nat → ClassId} {ad : Nat → Nat} {h : Hp} {k : Nat} (hk : k < h.1) : (wsOf Ar ad h)[k]? = some (ad k, cnt Ar ad h k) := by simp [wsOf, hk]
theorem ws_set {Ar : Nat → ClassId} {ad : Nat → Nat} {h h' : Hp} {k : Nat} {e : va_E} (hn : h'.1 = h.1) (he : cnt Ar ad h' k = e) (ho : ∀ q, q ≠ k → cnt Ar ad h' q = cnt Ar ad h q) : (wsOf Ar ad h).set k (ad k, e) = wsOf Ar ad h' := by
  refine List.ext_getElem? fun i => ?_
  rw [List.getElem?_set]
  by_cases c : k = i
  · subst c
    rw [if_pos rfl]
    by_cases c2 : k < h.1
    · rw [if_pos (by simpa [wsOf] using c2), ws_at (by rw [hn]; exact c2), he]
    · rw [if_neg (by simpa [wsOf] using c2)]
      symm
      rw [List.getElem?_eq_none_iff]
      simp [wsOf, hn]; omega
  · rw [if_neg c]
    by_cases c2 : i < h.1
    · rw [ws_at c2, ws_at (by rw [hn]; exact c2), ho i (Ne.symm c)]
    · rw [List.getElem?_eq_none_iff.mpr (by simp [wsOf]; omega), List.getElem?_eq_none_iff.mpr (by simp [wsOf, hn]; omega)]
section RowS
variable {l : Launch} {E : Cxt → Prop} {own nm : String} {cc : ByteArray} {nL : Nat} {rt : Option FieldType} {fr lo : Nat} {lb : List Nat} {pc : Nat}
theorem Sim.step {F : Fr} {pc' : Nat} (h : ∀ st r, F st = some r → ∃ m, r = .inl m ∧ st.2.2.1 ≤ m.2.2.1 ∧ ∀ X, Cx l E own nm cc nL rt X → m.2.2.1 ≤ (hFo X).1 → Wx l nL fr lo pc' m X → Wx l nL fr lo pc st X) : Sim l E own nm cc nL rt fr lo lb F pc pc' := by
  intro st r e
  obtain ⟨m, rfl, h1, h2⟩ := h st r e
  exact ⟨h1, h2⟩
def o_push (v : Value) : Fr := fun m => rNx (m.1, v :: m.2.1, m.2.2)
theorem s_iconst {n : Int} {v : Int32} (hv : Int32.ofInt n = v) (hd : decode cc pc = .ok (.iconst n, 1)) : Sim l E own nm cc nL rt fr lo lb (o_push (.int v)) pc (pc + 1) := by
  refine Sim.step fun st r h => ?_
  obtain ⟨L, S, hp⟩ := st
  cases h
  refine ⟨_, rfl, Nat.le_refl _, fun X C hn K => ?_⟩
  obtain ⟨⟨p, e, s, m⟩, ⟨args, below, meth, c⟩, ⟨D, Ar, ad0, n0⟩, A0, vF, hF⟩ := X
  obtain ⟨hx, hb, hml, hr, hlk, hown, hts, hK, hA, hn0⟩ := C
  intro ad ls H locs a1 a2 a3 a4 a5 a6 a7 a8 a9
  exact lv_iconst hx hb hd hv (K ad ls H locs a1 a2 a3 (vkc trivial a4) a5 a6 a7 a8 a9)
theorem s_bipush {n : Int} {v : Int32} (hv : (Int8.ofInt n).toInt32 = v) (hd : decode cc pc = .ok (.bipush n, 2)) : Sim l E own nm cc nL rt fr lo lb (o_push (.int v)) pc (pc + 2) := by
  refine Sim.step fun st r h => ?_
  obtain ⟨L, S, hp⟩ := st
  cases h
  refine ⟨_, rfl, Nat.le_refl _, fun X C hn K => ?_⟩
  obtain ⟨⟨p, e, s, m⟩, ⟨args, below, meth, c⟩, ⟨D, Ar, ad0, n0⟩, A0, vF, hF⟩ := X
  obtain ⟨hx, hb, hml, hr, hlk, hown, hts, hK, hA, hn0⟩ := C
  intro ad ls H locs a1 a2 a3 a4 a5 a6 a7 a8 a9
  exact lv_bipush hx hb hd hv (K ad ls H locs a1 a2 a3 (vkc trivial a4) a5 a6 a7 a8 a9)
theorem s_sipush {n : Int} {v : Int32} (hv : (Int16.ofInt n).toInt32 = v) (hd : decode cc pc = .ok (.sipush n, 3)) : Sim l E own nm cc nL rt fr lo lb (o_push (.int v)) pc (pc + 3) := by
  refine Sim.step fun st r h => ?_
  obtain ⟨L, S, hp⟩ := st
  cases h
  refine ⟨_, rfl, Nat.le_refl _, fun X C hn K => ?_⟩
  obtain ⟨⟨p, e, s, m⟩, ⟨args, below, meth, c⟩, ⟨D, Ar, ad0, n0⟩, A0, vF, hF⟩ := X
  obtain ⟨hx, hb, hml, hr, hlk, hown, hts, hK, hA, hn0⟩ := C
  intro ad ls H locs a1 a2 a3 a4 a5 a6 a7 a8 a9
  exact lv_sipush hx hb hd hv (K ad ls H locs a1 a2 a3 (vkc trivial a4) a5 a6 a7 a8 a9)
theorem s_lconst {n : Fin 2} {v : Int64} (hv : Int64.ofNat (n : Nat) = v) (hd : decode cc pc = .ok (.lconst n, 1)) : Sim l E own nm cc nL rt fr lo lb (o_push (.long v)) pc (pc + 1) := by
  refine Sim.step fun st r h => ?_
  obtain ⟨L, S, hp⟩ := st
  cases h
  refine ⟨_, rfl, Nat.le_refl _, fun X C hn K => ?_⟩
  obtain ⟨⟨p, e, s, m⟩, ⟨args, below, meth, c⟩, ⟨D, Ar, ad0, n0⟩, A0, vF, hF⟩ := X
  obtain ⟨hx, hb, hml, hr, hlk, hown, hts, hK, hA, hn0⟩ := C
  intro ad ls H locs a1 a2 a3 a4 a5 a6 a7 a8 a9
  exact lv_lconst hx hb hd hv (K ad ls H locs a1 a2 a3 (vkc trivial a4) a5 a6 a7 a8 a9)
theorem s_ldc {index : Nat} {v : Int32} (hw : Jvm.Cond.constant own index v ∈ lw_gd) (hd : decode cc pc = .ok (.ldc index, 2)) : Sim l E own nm cc nL rt fr lo lb (o_push (.int v)) pc (pc + 2) := by
  refine Sim.step fun st r h => ?_
  obtain ⟨L, S, hp⟩ := st
  cases h
  refine ⟨_, rfl, Nat.le_refl _, fun X C hn K => ?_⟩
  obtain ⟨⟨p, e, s, m⟩, ⟨args, below, meth, c⟩, ⟨D, Ar, ad0, n0⟩, A0, vF, hF⟩ := X
  obtain ⟨hx, hb, hml, hr, hlk, hown, hts, hK, hA, hn0⟩ := C
  intro ad ls H locs a1 a2 a3 a4 a5 a6 a7 a8 a9
  exact lv_ldc hx hb hown (hts _ hw) hd (K ad ls H locs a1 a2 a3 (vkc trivial a4) a5 a6 a7 a8 a9)
theorem s_ldc2 {index : Nat} {v : Int64} (hw : Jvm.Cond.constantLong own index v ∈ lw_gd) (hd : decode cc pc = .ok (.ldc2_w index, 3)) : Sim l E own nm cc nL rt fr lo lb (o_push (.long v)) pc (pc + 3) := by
  refine Sim.step fun st r h => ?_
  obtain ⟨L, S, hp⟩ := st
  cases h
  refine ⟨_, rfl, Nat.le_refl _, fun X C hn K => ?_⟩
  obtain ⟨⟨p, e, s, m⟩, ⟨args, below, meth, c⟩, ⟨D, Ar, ad0, n0⟩, A0, vF, hF⟩ := X
  obtain ⟨hx, hb, hml, hr, hlk, hown, hts, hK, hA, hn0⟩ := C
  intro ad ls H locs a1 a2 a3 a4 a5 a6 a7 a8 a9
  exact lv_ldc2 hx hb hown (hts _ hw) hd (K ad ls H locs a1 a2 a3 (vkc trivial a4) a5 a6 a7 a8 a9)
theorem s_null (hd : decode cc pc = .ok (.aconst_null, 1)) : Sim l E own nm cc nL rt fr lo lb (o_push .null) pc (pc + 1) := by
  refine Sim.step fun st r h => ?_
  obtain ⟨L, S, hp⟩ := st
  cases h
  refine ⟨_, rfl, Nat.le_refl _, fun X C hn K => ?_⟩
  obtain ⟨⟨p, e, s, m⟩, ⟨args, below, meth, c⟩, ⟨D, Ar, ad0, n0⟩, A0, vF, hF⟩ := X
  obtain ⟨hx, hb, hml, hr, hlk, hown, hts, hK, hA, hn0⟩ := C
  intro ad ls H locs a1 a2 a3 a4 a5 a6 a7 a8 a9
  exact lv_null hx hb hd (K ad ls H locs a1 a2 a3 (vkc trivial a4) a5 a6 a7 a8 a9)
def o_iload (k : Nat) : Fr := fun m => match m.1.getD k .null with
  | .int x => rNx (m.1, .int x :: m.2.1, m.2.2)
  | _ => none
theorem s_iload_n {k : Fin 4} {i : Nat} (hi : (k : Nat) = i) (hd : decode cc pc = .ok (.iload_n k, 1)) : Sim l E own nm cc nL rt fr lo lb (o_iload i) pc (pc + 1) := by
  refine Sim.step fun st r h => ?_
  obtain ⟨L, S, hp⟩ := st
  dsimp only [o_iload] at h
  split at h
  case h_2 => cases h
  rename_i x he
  cases h
  refine ⟨_, rfl, Nat.le_refl _, fun X C hn K => ?_⟩
  obtain ⟨⟨p, e, s, m⟩, ⟨args, below, meth, c⟩, ⟨D, Ar, ad0, n0⟩, A0, vF, hF⟩ := X
  obtain ⟨hx, hb, hml, hr, hlk, hown, hts, hK, hA, hn0⟩ := C
  intro ad ls H locs a1 a2 a3 a4 a5 a6 a7 a8 a9
  exact lv_iload_n hx hb hd hi (lvL a6 he (by simp)) (K ad ls H locs a1 a2 a3 (vkc trivial a4) a5 a6 a7 a8 a9)
theorem s_iload {i : Nat} (hd : decode cc pc = .ok (.iload i, 2)) : Sim l E own nm cc nL rt fr lo lb (o_iload i) pc (pc + 2) := by
  refine Sim.step fun st r h => ?_
  obtain ⟨L, S, hp⟩ := st
  dsimp only [o_iload] at h
  split at h
  case h_2 => cases h
  rename_i x he
  cases h
  refine ⟨_, rfl, Nat.le_refl _, fun X C hn K => ?_⟩
  obtain ⟨⟨p, e, s, m⟩, ⟨args, below, meth, c⟩, ⟨D, Ar, ad0, n0⟩, A0, vF, hF⟩ := X
  obtain ⟨hx, hb, hml, hr, hlk, hown, hts, hK, hA, hn0⟩ := C
  intro ad ls H locs a1 a2 a3 a4 a5 a6 a7 a8 a9
  exact lv_iload hx hb hd (lvL a6 he (by simp)) (K ad ls H locs a1 a2 a3 (vkc trivial a4) a5 a6 a7 a8 a9)
def o_lload (k : Nat) : Fr := fun m => match m.1.getD k .null with
  | .long x => rNx (m.1, .long x :: m.2.1, m.2.2)
  | _ => none
theorem s_lload_n {k : Fin 4} {i : Nat} (hi : (k : Nat) = i) (hd : decode cc pc = .ok (.lload_n k, 1)) : Sim l E own nm cc nL rt fr lo lb (o_lload i) pc (pc + 1) := by
  refine Sim.step fun st r h => ?_
  obtain ⟨L, S, hp⟩ := st
  dsimp only [o_lload] at h
  split at h
  case h_2 => cases h
  rename_i x he
  cases h
  refine ⟨_, rfl, Nat.le_refl _, fun X C hn K => ?_⟩
  obtain ⟨⟨p, e, s, m⟩, ⟨args, below, meth, c⟩, ⟨D, Ar, ad0, n0⟩, A0, vF, hF⟩ := X
  obtain ⟨hx, hb, hml, hr, hlk, hown, hts, hK, hA, hn0⟩ := C
  intro ad ls H locs a1 a2 a3 a4 a5 a6 a7 a8 a9
  exact lv_lload_n hx hb hd hi (lvL a6 he (by simp)) (K ad ls H locs a1 a2 a3 (vkc trivial a4) a5 a6 a7 a8 a9)
theorem s_lload {i : Nat} (hd : decode cc pc = .ok (.lload i, 2)) : Sim l E own nm cc nL rt fr lo lb (o_lload i) pc (pc + 2) := by
  refine Sim.step fun st r h => ?_
  obtain ⟨L, S, hp⟩ := st
  dsimp only [o_lload] at h
  split at h
  case h_2 => cases h
  rename_i x he
  cases h
  refine ⟨_, rfl, Nat.le_refl _, fun X C hn K => ?_⟩
  obtain ⟨⟨p, e, s, m⟩, ⟨args, below, meth, c⟩, ⟨D, Ar, ad0, n0⟩, A0, vF, hF⟩ := X
  obtain ⟨hx, hb, hml, hr, hlk, hown, hts, hK, hA, hn0⟩ := C
  intro ad ls H locs a1 a2 a3 a4 a5 a6 a7 a8 a9
  exact lv_lload hx hb hd (lvL a6 he (by simp)) (K ad ls H locs a1 a2 a3 (vkc trivial a4) a5 a6 a7 a8 a9)
def o_aload (k : Nat) : Fr := fun m => match m.1.getD k .null with
  | .ref x => rNx (m.1, .ref x :: m.2.1, m.2.2)
  | _ => none
theorem s_aload_n {k : Fin 4} {i : Nat} (hi : (k : Nat) = i) (hd : decode cc pc = .ok (.aload_n k, 1)) : Sim l E own nm cc nL rt fr lo lb (o_aload i) pc (pc + 1) := by
  refine Sim.step fun st r h => ?_
  obtain ⟨L, S, hp⟩ := st
  dsimp only [o_aload] at h
  split at h
  case h_2 => cases h
  rename_i x he
  cases h
  refine ⟨_, rfl, Nat.le_refl _, fun X C hn K => ?_⟩
  obtain ⟨⟨p, e, s, m⟩, ⟨args, below, meth, c⟩, ⟨D, Ar, ad0, n0⟩, A0, vF, hF⟩ := X
  obtain ⟨hx, hb, hml, hr, hlk, hown, hts, hK, hA, hn0⟩ := C
  intro ad ls H locs a1 a2 a3 a4 a5 a6 a7 a8 a9
  exact lv_aload_n hx hb hd hi (lvL a6 he (by simp)) (K ad ls H locs a1 a2 a3 (vkc (by have z := vkg (k := i) a3; rw [he] at z; exact z) a4) a5 a6 a7 a8 a9)
theorem s_aload {i : Nat} (hd : decode cc pc = .ok (.aload i, 2)) : Sim l E own nm cc nL rt fr lo lb (o_aload i) pc (pc + 2) := by
  refine Sim.step fun st r h => ?_
  obtain ⟨L, S, hp⟩ := st
  dsimp only [o_aload] at h
  split at h
  case h_2 => cases h
  rename_i x he
  cases h
  refine ⟨_, rfl, Nat.le_refl _, fun X C hn K => ?_⟩
  obtain ⟨⟨p, e, s, m⟩, ⟨args, below, meth, c⟩, ⟨D, Ar, ad0, n0⟩, A0, vF, hF⟩ := X
  obtain ⟨hx, hb, hml, hr, hlk, hown, hts, hK, hA, hn0⟩ := C
  intro ad ls H locs a1 a2 a3 a4 a5 a6 a7 a8 a9
  exact lv_aload hx hb hd (lvL a6 he (by simp)) (K ad ls H locs a1 a2 a3 (vkc (by have z := vkg (k := i) a3; rw [he] at z; exact z) a4) a5 a6 a7 a8 a9)
def o_istore (k : Nat) : Fr := fun m => match m.2.1 with
  | .int x :: S => if okst k m.1 = true then rNx (m.1.set k (.int x), S, m.2.2) else none
  | _ => none
theorem s_istore_n {k : Fin 4} {i : Nat} (hi : (k : Nat) = i) (hn : i < nL) (hd : decode cc pc = .ok (.istore_n k, 1)) : Sim l E own nm cc nL rt fr lo lb (o_istore i) pc (pc + 1) := by
  refine Sim.step fun st r h => ?_
  obtain ⟨L, S, hp⟩ := st
  dsimp only [o_istore] at h
  split at h
  case h_2 => cases h
  rename_i x S
  split at h
  case isFalse => cases h
  rename_i hk
  cases h
  refine ⟨_, rfl, Nat.le_refl _, fun X C hn K => ?_⟩
  obtain ⟨⟨p, e, s, m⟩, ⟨args, below, meth, c⟩, ⟨D, Ar, ad0, n0⟩, A0, vF, hF⟩ := X
  obtain ⟨hx, hb, hml, hr, hlk, hown, hts, hK, hA, hn0⟩ := C
  intro ad ls H locs a1 a2 a3 a4 a5 a6 a7 a8 a9
  exact lv_istore_n hx hb hd hi a6 (by assumption) rfl (fun ls' h9 => K ad ls' H locs a1 a2 (vks (vkh a4) a3) (vkt a4) a5 (lv_set1 hk h9) a7 a8 a9)
theorem s_istore {i : Nat} (hn : i < nL) (hd : decode cc pc = .ok (.istore i, 2)) : Sim l E own nm cc nL rt fr lo lb (o_istore i) pc (pc + 2) := by
  refine Sim.step fun st r h => ?_
  obtain ⟨L, S, hp⟩ := st
  dsimp only [o_istore] at h
  split at h
  case h_2 => cases h
  rename_i x S
  split at h
  case isFalse => cases h
  rename_i hk
  cases h
  refine ⟨_, rfl, Nat.le_refl _, fun X C hn K => ?_⟩
  obtain ⟨⟨p, e, s, m⟩, ⟨args, below, meth, c⟩, ⟨D, Ar, ad0, n0⟩, A0, vF, hF⟩ := X
  obtain ⟨hx, hb, hml, hr, hlk, hown, hts, hK, hA, hn0⟩ := C
  intro ad ls H locs a1 a2 a3 a4 a5 a6 a7 a8 a9
  exact lv_istore hx hb hd a6 (by assumption) rfl (fun ls' h9 => K ad ls' H locs a1 a2 (vks (vkh a4) a3) (vkt a4) a5 (lv_set1 hk h9) a7 a8 a9)
def o_lstore (k : Nat) : Fr := fun m => match m.2.1 with
  | .long x :: S => if okst k m.1 = true then rNx ((m.1.set k (.long x)).set (k + 1) .null, S, m.2.2) else none
  | _ => none
theorem s_lstore_n {k : Fin 4} {i : Nat} (hi : (k : Nat) = i) (hn : i + 1 < nL) (hd : decode cc pc = .ok (.lstore_n k, 1)) : Sim l E own nm cc nL rt fr lo lb (o_lstore i) pc (pc + 1) := by
  refine Sim.step fun st r h => ?_
  obtain ⟨L, S, hp⟩ := st
  dsimp only [o_lstore] at h
  split at h
  case h_2 => cases h
  rename_i x S
  split at h
  case isFalse => cases h
  rename_i hk
  cases h
  refine ⟨_, rfl, Nat.le_refl _, fun X C hn K => ?_⟩
  obtain ⟨⟨p, e, s, m⟩, ⟨args, below, meth, c⟩, ⟨D, Ar, ad0, n0⟩, A0, vF, hF⟩ := X
  obtain ⟨hx, hb, hml, hr, hlk, hown, hts, hK, hA, hn0⟩ := C
  intro ad ls H locs a1 a2 a3 a4 a5 a6 a7 a8 a9
  exact lv_lstore_n hx hb hd hi a6 (by assumption) rfl (fun ls' h9 => K ad ls' H locs a1 a2 (vks trivial (vks (vkh a4) a3)) (vkt a4) a5 (lv_set2 hk h9) a7 a8 a9)
theorem s_lstore {i : Nat} (hn : i + 1 < nL) (hd : decode cc pc = .ok (.lstore i, 2)) : Sim l E own nm cc nL rt fr lo lb (o_lstore i) pc (pc + 2) := by
  refine Sim.step fun st r h => ?_
  obtain ⟨L, S, hp⟩ := st
  dsimp only [o_lstore] at h
  split at h
  case h_2 => cases h
  rename_i x S
  split at h
  case isFalse => cases h
  rename_i hk
  cases h
  refine ⟨_, rfl, Nat.le_refl _, fun X C hn K => ?_⟩
  obtain ⟨⟨p, e, s, m⟩, ⟨args, below, meth, c⟩, ⟨D, Ar, ad0, n0⟩, A0, vF, hF⟩ := X
  obtain ⟨hx, hb, hml, hr, hlk, hown, hts, hK, hA, hn0⟩ := C
  intro ad ls H locs a1 a2 a3 a4 a5 a6 a7 a8 a9
  exact lv_lstore hx hb hd a6 (by assumption) rfl (fun ls' h9 => K ad ls' H locs a1 a2 (vks trivial (vks (vkh a4) a3)) (vkt a4) a5 (lv_set2 hk h9) a7 a8 a9)
def o_astore (k : Nat) : Fr := fun m => match m.2.1 with
  | .ref x :: S => if okst k m.1 = true then rNx (m.1.set k (.ref x), S, m.2.2) else none
  | _ => none
theorem s_astore_n {k : Fin 4} {i : Nat} (hi : (k : Nat) = i) (hn : i < nL) (hd : decode cc pc = .ok (.astore_n k, 1)) : Sim l E own nm cc nL rt fr lo lb (o_astore i) pc (pc + 1) := by
  refine Sim.step fun st r h => ?_
  obtain ⟨L, S, hp⟩ := st
  dsimp only [o_astore] at h
  split at h
  case h_2 => cases h
  rename_i x S
  split at h
  case isFalse => cases h
  rename_i hk
  cases h
  refine ⟨_, rfl, Nat.le_refl _, fun X C hn K => ?_⟩
  obtain ⟨⟨p, e, s, m⟩, ⟨args, below, meth, c⟩, ⟨D, Ar, ad0, n0⟩, A0, vF, hF⟩ := X
  obtain ⟨hx, hb, hml, hr, hlk, hown, hts, hK, hA, hn0⟩ := C
  intro ad ls H locs a1 a2 a3 a4 a5 a6 a7 a8 a9
  exact lv_astore_n hx hb hd hi a6 (by assumption) rfl (fun ls' h9 => K ad ls' H locs a1 a2 (vks (vkh a4) a3) (vkt a4) a5 (lv_set1 hk h9) a7 a8 a9)
theorem s_astore {i : Nat} (hn : i < nL) (hd : decode cc pc = .ok (.astore i, 2)) : Sim l E own nm cc nL rt fr lo lb (o_astore i) pc (pc + 2) := by
  refine Sim.step fun st r h => ?_
  obtain ⟨L, S, hp⟩ := st
  dsimp only [o_astore] at h
  split at h
  case h_2 => cases h
  rename_i x S
  split at h
  case isFalse => cases h
  rename_i hk
  cases h
  refine ⟨_, rfl, Nat.le_refl _, fun X C hn K => ?_⟩
  obtain ⟨⟨p, e, s, m⟩, ⟨args, below, meth, c⟩, ⟨D, Ar, ad0, n0⟩, A0, vF, hF⟩ := X
  obtain ⟨hx, hb, hml, hr, hlk, hown, hts, hK, hA, hn0⟩ := C
  intro ad ls H locs a1 a2 a3 a4 a5 a6 a7 a8 a9
  exact lv_astore hx hb hd a6 (by assumption) rfl (fun ls' h9 => K ad ls' H locs a1 a2 (vks (vkh a4) a3) (vkt a4) a5 (lv_set1 hk h9) a7 a8 a9)
def o_iinc (k : Nat) (n : Int32) : Fr := fun m => match m.1.getD k .null with
  | .int x => if okst k m.1 = true then rNx (m.1.set k (.int (x + n)), m.2.1, m.2.2) else none
  | _ => none
theorem lvI {ad : Nat → Nat} {L : List Value} {i : Nat} {x : Int32} (he : L.getD i .null = .int x) : ∃ k : Nat, (lvOf ad L)[k]? = some (i, .int x) := by
  have hk : i < L.length := by
    rcases Nat.lt_or_ge i L.length with q | q
    · exact q
    · rw [getD_out q] at he; cases he
  exact List.getElem?_of_mem (mem_lvOf.mpr ⟨hk, by show L.getD i .null ≠ .null; rw [he]; simp, by show Value.int x = tr ad (L.getD i .null); rw [he]; rfl⟩)
theorem s_iinc {i : Nat} {n : Int} {v : Int32} (hv : Int32.ofInt n = v) (hn : i < nL) (hd : decode cc pc = .ok (.iinc i n, 3)) : Sim l E own nm cc nL rt fr lo lb (o_iinc i v) pc (pc + 3) := by
  refine Sim.step fun st r h => ?_
  obtain ⟨L, S, hp⟩ := st
  dsimp only [o_iinc] at h
  split at h
  case h_2 => cases h
  rename_i x he
  split at h
  case isFalse => cases h
  rename_i hk
  cases h
  refine ⟨_, rfl, Nat.le_refl _, fun X C hn K => ?_⟩
  obtain ⟨⟨p, e, s, m⟩, ⟨args, below, meth, c⟩, ⟨D, Ar, ad0, n0⟩, A0, vF, hF⟩ := X
  obtain ⟨hx, hb, hml, hr, hlk, hown, hts, hK, hA, hn0⟩ := C
  intro ad ls H locs a1 a2 a3 a4 a5 a6 a7 a8 a9
  obtain ⟨k, hk2⟩ := lvI (ad := ad) he
  exact lv_iinc hx hb hd a6 hk2 rfl (by assumption) rfl (fun ls' h9 => K ad ls' H locs a1 a2 (vks trivial a3) a4 a5 (lv_set1 hk (by rw [← hv]; exact h9)) a7 a8 a9)
def o_ib (g : Int32 → Int32 → Int32) : Fr := fun m => match m.2.1 with
  | .int y :: .int x :: S => rNx (m.1, .int (g x y) :: S, m.2.2)
  | _ => none
def o_ibz (g : Int32 → Int32 → Int32) : Fr := fun m => match m.2.1 with
  | .int y :: .int x :: S => if y = 0 then none else rNx (m.1, .int (g x y) :: S, m.2.2)
  | _ => none
def o_lb (g : Int64 → Int64 → Int64) : Fr := fun m => match m.2.1 with
  | .long y :: .long x :: S => rNx (m.1, .long (g x y) :: S, m.2.2)
  | _ => none
def o_lbz (g : Int64 → Int64 → Int64) : Fr := fun m => match m.2.1 with
  | .long y :: .long x :: S => if y = 0 then none else rNx (m.1, .long (g x y) :: S, m.2.2)
  | _ => none
def o_lsh (g : Int64 → Int32 → Int64) : Fr := fun m => match m.2.1 with
  | .int y :: .long x :: S => rNx (m.1, .long (g x y) :: S, m.2.2)
  | _ => none
theorem s_iadd (hd : decode cc pc = .ok (.iadd, 1)) : Sim l E own nm cc nL rt fr lo lb (o_ib (fun x y => x + y)) pc (pc + 1) := by
  refine Sim.step fun st r h => ?_
  obtain ⟨L, S, hp⟩ := st
  dsimp only [o_ib] at h
  split at h
  case h_2 => cases h
  rename_i y x S
  cases h
  refine ⟨_, rfl, Nat.le_refl _, fun X C hn K => ?_⟩
  obtain ⟨⟨p, e, s, m⟩, ⟨args, below, meth, c⟩, ⟨D, Ar, ad0, n0⟩, A0, vF, hF⟩ := X
  obtain ⟨hx, hb, hml, hr, hlk, hown, hts, hK, hA, hn0⟩ := C
  intro ad ls H locs a1 a2 a3 a4 a5 a6 a7 a8 a9
  exact lv_iadd hx hb hd (K ad ls H locs a1 a2 a3 (vkc trivial (vkt (vkt a4))) a5 a6 a7 a8 a9)
theorem s_isub (hd : decode cc pc = .ok (.isub, 1)) : Sim l E own nm cc nL rt fr lo lb (o_ib (fun x y => x - y)) pc (pc + 1) := by
  refine Sim.step fun st r h => ?_
  obtain ⟨L, S, hp⟩ := st
  dsimp only [o_ib] at h
  split at h
  case h_2 => cases h
  rename_i y x S
  cases h
  refine ⟨_, rfl, Nat.le_refl _, fun X C hn K => ?_⟩
  obtain ⟨⟨p, e, s, m⟩, ⟨args, below, meth, c⟩, ⟨D, Ar, ad0, n0⟩, A0, vF, hF⟩ := X
  obtain ⟨hx, hb, hml, hr, hlk, hown, hts, hK, hA, hn0⟩ := C
  intro ad ls H locs a1 a2 a3 a4 a5 a6 a7 a8 a9
  exact lv_isub hx hb hd (K ad ls H locs a1 a2 a3 (vkc trivial (vkt (vkt a4))) a5 a6 a7 a8 a9)
theorem s_imul (hd : decode cc pc = .ok (.imul, 1)) : Sim l E own nm cc nL rt fr lo lb (o_ib (fun x y => x * y)) pc (pc + 1) := by
  refine Sim.step fun st r h => ?_
  obtain ⟨L, S, hp⟩ := st
  dsimp only [o_ib] at h
  split at h
  case h_2 => cases h
  rename_i y x S
  cases h
  refine ⟨_, rfl, Nat.le_refl _, fun X C hn K => ?_⟩
  obtain ⟨⟨p, e, s, m⟩, ⟨args, below, meth, c⟩, ⟨D, Ar, ad0, n0⟩, A0, vF, hF⟩ := X
  obtain ⟨hx, hb, hml, hr, hlk, hown, hts, hK, hA, hn0⟩ := C
  intro ad ls H locs a1 a2 a3 a4 a5 a6 a7 a8 a9
  exact lv_imul hx hb hd (K ad ls H locs a1 a2 a3 (vkc trivial (vkt (vkt a4))) a5 a6 a7 a8 a9)
theorem s_iand (hd : decode cc pc = .ok (.iand, 1)) : Sim l E own nm cc nL rt fr lo lb (o_ib (fun x y => x &&& y)) pc (pc + 1) := by
  refine Sim.step fun st r h => ?_
  obtain ⟨L, S, hp⟩ := st
  dsimp only [o_ib] at h
  split at h
  case h_2 => cases h
  rename_i y x S
  cases h
  refine ⟨_, rfl, Nat.le_refl _, fun X C hn K => ?_⟩
  obtain ⟨⟨p, e, s, m⟩, ⟨args, below, meth, c⟩, ⟨D, Ar, ad0, n0⟩, A0, vF, hF⟩ := X
  obtain ⟨hx, hb, hml, hr, hlk, hown, hts, hK, hA, hn0⟩ := C
  intro ad ls H locs a1 a2 a3 a4 a5 a6 a7 a8 a9
  exact lv_iand hx hb hd (K ad ls H locs a1 a2 a3 (vkc trivial (vkt (vkt a4))) a5 a6 a7 a8 a9)
theorem s_ixor (hd : decode cc pc = .ok (.ixor, 1)) : Sim l E own nm cc nL rt fr lo lb (o_ib (fun x y => x ^^^ y)) pc (pc + 1) := by
  refine Sim.step fun st r h => ?_
  obtain ⟨L, S, hp⟩ := st
  dsimp only [o_ib] at h
  split at h
  case h_2 => cases h
  rename_i y x S
  cases h
  refine ⟨_, rfl, Nat.le_refl _, fun X C hn K => ?_⟩
  obtain ⟨⟨p, e, s, m⟩, ⟨args, below, meth, c⟩, ⟨D, Ar, ad0, n0⟩, A0, vF, hF⟩ := X
  obtain ⟨hx, hb, hml, hr, hlk, hown, hts, hK, hA, hn0⟩ := C
  intro ad ls H locs a1 a2 a3 a4 a5 a6 a7 a8 a9
  exact lv_ixor hx hb hd (K ad ls H locs a1 a2 a3 (vkc trivial (vkt (vkt a4))) a5 a6 a7 a8 a9)
theorem s_idiv (hd : decode cc pc = .ok (.idiv, 1)) : Sim l E own nm cc nL rt fr lo lb (o_ibz (fun x y => x / y)) pc (pc + 1) := by
  refine Sim.step fun st r h => ?_
  obtain ⟨L, S, hp⟩ := st
  dsimp only [o_ibz] at h
  split at h
  case h_2 => cases h
  rename_i y x S
  split at h
  case isTrue => cases h
  rename_i hz
  cases h
  refine ⟨_, rfl, Nat.le_refl _, fun X C hn K => ?_⟩
  obtain ⟨⟨p, e, s, m⟩, ⟨args, below, meth, c⟩, ⟨D, Ar, ad0, n0⟩, A0, vF, hF⟩ := X
  obtain ⟨hx, hb, hml, hr, hlk, hown, hts, hK, hA, hn0⟩ := C
  intro ad ls H locs a1 a2 a3 a4 a5 a6 a7 a8 a9
  exact lv_idiv hx hb hd hz (K ad ls H locs a1 a2 a3 (vkc trivial (vkt (vkt a4))) a5 a6 a7 a8 a9)
theorem s_irem (hd : decode cc pc = .ok (.irem, 1)) : Sim l E own nm cc nL rt fr lo lb (o_ibz (fun x y => x - x / y * y)) pc (pc + 1) := by
  refine Sim.step fun st r h => ?_
  obtain ⟨L, S, hp⟩ := st
  dsimp only [o_ibz] at h
  split at h
  case h_2 => cases h
  rename_i y x S
  split at h
  case isTrue => cases h
  rename_i hz
  cases h
  refine ⟨_, rfl, Nat.le_refl _, fun X C hn K => ?_⟩
  obtain ⟨⟨p, e, s, m⟩, ⟨args, below, meth, c⟩, ⟨D, Ar, ad0, n0⟩, A0, vF, hF⟩ := X
  obtain ⟨hx, hb, hml, hr, hlk, hown, hts, hK, hA, hn0⟩ := C
  intro ad ls H locs a1 a2 a3 a4 a5 a6 a7 a8 a9
  exact lv_irem hx hb hd hz (K ad ls H locs a1 a2 a3 (vkc trivial (vkt (vkt a4))) a5 a6 a7 a8 a9)
theorem s_ladd (hd : decode cc pc = .ok (.ladd, 1)) : Sim l E own nm cc nL rt fr lo lb (o_lb (fun x y => x + y)) pc (pc + 1) := by
  refine Sim.step fun st r h => ?_
  obtain ⟨L, S, hp⟩ := st
  dsimp only [o_lb] at h
  split at h
  case h_2 => cases h
  rename_i y x S
  cases h
  refine ⟨_, rfl, Nat.le_refl _, fun X C hn K => ?_⟩
  obtain ⟨⟨p, e, s, m⟩, ⟨args, below, meth, c⟩, ⟨D, Ar, ad0, n0⟩, A0, vF, hF⟩ := X
  obtain ⟨hx, hb, hml, hr, hlk, hown, hts, hK, hA, hn0⟩ := C
  intro ad ls H locs a1 a2 a3 a4 a5 a6 a7 a8 a9
  exact lv_ladd hx hb hd (K ad ls H locs a1 a2 a3 (vkc trivial (vkt (vkt a4))) a5 a6 a7 a8 a9)
theorem s_lsub (hd : decode cc pc = .ok (.lsub, 1)) : Sim l E own nm cc nL rt fr lo lb (o_lb (fun x y => x - y)) pc (pc + 1) := by
  refine Sim.step fun st r h => ?_
  obtain ⟨L, S, hp⟩ := st
  dsimp only [o_lb] at h
  split at h
  case h_2 => cases h
  rename_i y x S
  cases h
  refine ⟨_, rfl, Nat.le_refl _, fun X C hn K => ?_⟩
  obtain ⟨⟨p, e, s, m⟩, ⟨args, below, meth, c⟩, ⟨D, Ar, ad0, n0⟩, A0, vF, hF⟩ := X
  obtain ⟨hx, hb, hml, hr, hlk, hown, hts, hK, hA, hn0⟩ := C
  intro ad ls H locs a1 a2 a3 a4 a5 a6 a7 a8 a9
  exact lv_lsub hx hb hd (K ad ls H locs a1 a2 a3 (vkc trivial (vkt (vkt a4))) a5 a6 a7 a8 a9)
theorem s_lmul (hd : decode cc pc = .ok (.lmul, 1)) : Sim l E own nm cc nL rt fr lo lb (o_lb (fun x y => x * y)) pc (pc + 1) := by
  refine Sim.step fun st r h => ?_
  obtain ⟨L, S, hp⟩ := st
  dsimp only [o_lb] at h
  split at h
  case h_2 => cases h
  rename_i y x S
  cases h
  refine ⟨_, rfl, Nat.le_refl _, fun X C hn K => ?_⟩
  obtain ⟨⟨p, e, s, m⟩, ⟨args, below, meth, c⟩, ⟨D, Ar, ad0, n0⟩, A0, vF, hF⟩ := X
  obtain ⟨hx, hb, hml, hr, hlk, hown, hts, hK, hA, hn0⟩ := C
  intro ad ls H locs a1 a2 a3 a4 a5 a6 a7 a8 a9
  exact lv_lmul hx hb hd (K ad ls H locs a1 a2 a3 (vkc trivial (vkt (vkt a4))) a5 a6 a7 a8 a9)
theorem s_land (hd : decode cc pc = .ok (.land, 1)) : Sim l E own nm cc nL rt fr lo lb (o_lb (fun x y => x &&& y)) pc (pc + 1) := by
  refine Sim.step fun st r h => ?_
  obtain ⟨L, S, hp⟩ := st
  dsimp only [o_lb] at h
  split at h
  case h_2 => cases h
  rename_i y x S
  cases h
  refine ⟨_, rfl, Nat.le_refl _, fun X C hn K => ?_⟩
  obtain ⟨⟨p, e, s, m⟩, ⟨args, below, meth, c⟩, ⟨D, Ar, ad0, n0⟩, A0, vF, hF⟩ := X
  obtain ⟨hx, hb, hml, hr, hlk, hown, hts, hK, hA, hn0⟩ := C
  intro ad ls H locs a1 a2 a3 a4 a5 a6 a7 a8 a9
  exact lv_land hx hb hd (K ad ls H locs a1 a2 a3 (vkc trivial (vkt (vkt a4))) a5 a6 a7 a8 a9)
theorem s_lor (hd : decode cc pc = .ok (.lor, 1)) : Sim l E own nm cc nL rt fr lo lb (o_lb (fun x y => x ||| y)) pc (pc + 1) := by
  refine Sim.step fun st r h => ?_
  obtain ⟨L, S, hp⟩ := st
  dsimp only [o_lb] at h
  split at h
  case h_2 => cases h
  rename_i y x S
  cases h
  refine ⟨_, rfl, Nat.le_refl _, fun X C hn K => ?_⟩
  obtain ⟨⟨p, e, s, m⟩, ⟨args, below, meth, c⟩, ⟨D, Ar, ad0, n0⟩, A0, vF, hF⟩ := X
  obtain ⟨hx, hb, hml, hr, hlk, hown, hts, hK, hA, hn0⟩ := C
  intro ad ls H locs a1 a2 a3 a4 a5 a6 a7 a8 a9
  exact lv_lor hx hb hd (K ad ls H locs a1 a2 a3 (vkc trivial (vkt (vkt a4))) a5 a6 a7 a8 a9)
theorem s_lrem (hd : decode cc pc = .ok (.lrem, 1)) : Sim l E own nm cc nL rt fr lo lb (o_lbz (fun x y => x - x / y * y)) pc (pc + 1) := by
  refine Sim.step fun st r h => ?_
  obtain ⟨L, S, hp⟩ := st
  dsimp only [o_lbz] at h
  split at h
  case h_2 => cases h
  rename_i y x S
  split at h
  case isTrue => cases h
  rename_i hz
  cases h
  refine ⟨_, rfl, Nat.le_refl _, fun X C hn K => ?_⟩
  obtain ⟨⟨p, e, s, m⟩, ⟨args, below, meth, c⟩, ⟨D, Ar, ad0, n0⟩, A0, vF, hF⟩ := X
  obtain ⟨hx, hb, hml, hr, hlk, hown, hts, hK, hA, hn0⟩ := C
  intro ad ls H locs a1 a2 a3 a4 a5 a6 a7 a8 a9
  exact lv_lrem hx hb hd hz (K ad ls H locs a1 a2 a3 (vkc trivial (vkt (vkt a4))) a5 a6 a7 a8 a9)
theorem s_lshl (hd : decode cc pc = .ok (.lshl, 1)) : Sim l E own nm cc nL rt fr lo lb (o_lsh (fun x y => x <<< (y.toInt64 &&& 63))) pc (pc + 1) := by
  refine Sim.step fun st r h => ?_
  obtain ⟨L, S, hp⟩ := st
  dsimp only [o_lsh] at h
  split at h
  case h_2 => cases h
  rename_i y x S
  cases h
  refine ⟨_, rfl, Nat.le_refl _, fun X C hn K => ?_⟩
  obtain ⟨⟨p, e, s, m⟩, ⟨args, below, meth, c⟩, ⟨D, Ar, ad0, n0⟩, A0, vF, hF⟩ := X
  obtain ⟨hx, hb, hml, hr, hlk, hown, hts, hK, hA, hn0⟩ := C
  intro ad ls H locs a1 a2 a3 a4 a5 a6 a7 a8 a9
  exact lv_lshl hx hb hd rfl (K ad ls H locs a1 a2 a3 (vkc trivial (vkt (vkt a4))) a5 a6 a7 a8 a9)
theorem s_lushr (hd : decode cc pc = .ok (.lushr, 1)) : Sim l E own nm cc nL rt fr lo lb (o_lsh (fun x y => (x.toUInt64 >>> (y.toInt64.toUInt64 &&& Int64.toUInt64 63)).toInt64)) pc (pc + 1) := by
  refine Sim.step fun st r h => ?_
  obtain ⟨L, S, hp⟩ := st
  dsimp only [o_lsh] at h
  split at h
  case h_2 => cases h
  rename_i y x S
  cases h
  refine ⟨_, rfl, Nat.le_refl _, fun X C hn K => ?_⟩
  obtain ⟨⟨p, e, s, m⟩, ⟨args, below, meth, c⟩, ⟨D, Ar, ad0, n0⟩, A0, vF, hF⟩ := X
  obtain ⟨hx, hb, hml, hr, hlk, hown, hts, hK, hA, hn0⟩ := C
  intro ad ls H locs a1 a2 a3 a4 a5 a6 a7 a8 a9
  exact lv_lushr hx hb hd rfl (K ad ls H locs a1 a2 a3 (vkc trivial (vkt (vkt a4))) a5 a6 a7 a8 a9)
def o_lcmp : Fr := fun m => match m.2.1 with
  | .long y :: .long x :: S => rNx (m.1, .int (lg_cmp x y) :: S, m.2.2)
  | _ => none
theorem s_lcmp (hd : decode cc pc = .ok (.lcmp, 1)) : Sim l E own nm cc nL rt fr lo lb (o_lcmp) pc (pc + 1) := by
  refine Sim.step fun st r h => ?_
  obtain ⟨L, S, hp⟩ := st
  dsimp only [o_lcmp] at h
  split at h
  case h_2 => cases h
  rename_i y x S
  cases h
  refine ⟨_, rfl, Nat.le_refl _, fun X C hn K => ?_⟩
  obtain ⟨⟨p, e, s, m⟩, ⟨args, below, meth, c⟩, ⟨D, Ar, ad0, n0⟩, A0, vF, hF⟩ := X
  obtain ⟨hx, hb, hml, hr, hlk, hown, hts, hK, hA, hn0⟩ := C
  intro ad ls H locs a1 a2 a3 a4 a5 a6 a7 a8 a9
  exact W.lcmp hx hb hd (K ad ls H locs a1 a2 a3 (vkc trivial (vkt (vkt a4))) a5 a6 a7 a8 a9)
def o_i2l : Fr := fun m => match m.2.1 with
  | .int x :: S => rNx (m.1, .long x.toInt64 :: S, m.2.2)
  | _ => none
theorem s_i2l (hd : decode cc pc = .ok (.i2l, 1)) : Sim l E own nm cc nL rt fr lo lb (o_i2l) pc (pc + 1) := by
  refine Sim.step fun st r h => ?_
  obtain ⟨L, S, hp⟩ := st
  dsimp only [o_i2l] at h
  split at h
  case h_2 => cases h
  rename_i x S
  cases h
  refine ⟨_, rfl, Nat.le_refl _, fun X C hn K => ?_⟩
  obtain ⟨⟨p, e, s, m⟩, ⟨args, below, meth, c⟩, ⟨D, Ar, ad0, n0⟩, A0, vF, hF⟩ := X
  obtain ⟨hx, hb, hml, hr, hlk, hown, hts, hK, hA, hn0⟩ := C
  intro ad ls H locs a1 a2 a3 a4 a5 a6 a7 a8 a9
  exact lv_i2l hx hb hd rfl (K ad ls H locs a1 a2 a3 (vkc trivial (vkt a4)) a5 a6 a7 a8 a9)
def o_l2i : Fr := fun m => match m.2.1 with
  | .long x :: S => rNx (m.1, .int x.toInt32 :: S, m.2.2)
  | _ => none
theorem s_l2i (hd : decode cc pc = .ok (.l2i, 1)) : Sim l E own nm cc nL rt fr lo lb (o_l2i) pc (pc + 1) := by
  refine Sim.step fun st r h => ?_
  obtain ⟨L, S, hp⟩ := st
  dsimp only [o_l2i] at h
  split at h
  case h_2 => cases h
  rename_i x S
  cases h
  refine ⟨_, rfl, Nat.le_refl _, fun X C hn K => ?_⟩
  obtain ⟨⟨p, e, s, m⟩, ⟨args, below, meth, c⟩, ⟨D, Ar, ad0, n0⟩, A0, vF, hF⟩ := X
  obtain ⟨hx, hb, hml, hr, hlk, hown, hts, hK, hA, hn0⟩ := C
  intro ad ls H locs a1 a2 a3 a4 a5 a6 a7 a8 a9
  exact lv_l2i hx hb hd rfl (K ad ls H locs a1 a2 a3 (vkc trivial (vkt a4)) a5 a6 a7 a8 a9)
def o_dup : Fr := fun m => match m.2.1 with
  | v :: S => if v.category = 1 then rNx (m.1, v :: v :: S, m.2.2) else none
  | _ => none
theorem s_dup (hd : decode cc pc = .ok (.dup, 1)) : Sim l E own nm cc nL rt fr lo lb (o_dup) pc (pc + 1) := by
  refine Sim.step fun st r h => ?_
  obtain ⟨L, S, hp⟩ := st
  dsimp only [o_dup] at h
  split at h
  case h_2 => cases h
  rename_i v S
  split at h
  case isFalse => cases h
  rename_i hz
  cases h
  refine ⟨_, rfl, Nat.le_refl _, fun X C hn K => ?_⟩
  obtain ⟨⟨p, e, s, m⟩, ⟨args, below, meth, c⟩, ⟨D, Ar, ad0, n0⟩, A0, vF, hF⟩ := X
  obtain ⟨hx, hb, hml, hr, hlk, hown, hts, hK, hA, hn0⟩ := C
  intro ad ls H locs a1 a2 a3 a4 a5 a6 a7 a8 a9
  exact lv_dup hx hb hd (by rw [tr_cat]; exact hz) (K ad ls H locs a1 a2 a3 (vkc (vkh a4) a4) a5 a6 a7 a8 a9)
def o_pop : Fr := fun m => match m.2.1 with
  | v :: S => if v.category = 1 then rNx (m.1, S, m.2.2) else none
  | _ => none
theorem s_pop (hd : decode cc pc = .ok (.pop, 1)) : Sim l E own nm cc nL rt fr lo lb (o_pop) pc (pc + 1) := by
  refine Sim.step fun st r h => ?_
  obtain ⟨L, S, hp⟩ := st
  dsimp only [o_pop] at h
  split at h
  case h_2 => cases h
  rename_i v S
  split at h
  case isFalse => cases h
  rename_i hz
  cases h
  refine ⟨_, rfl, Nat.le_refl _, fun X C hn K => ?_⟩
  obtain ⟨⟨p, e, s, m⟩, ⟨args, below, meth, c⟩, ⟨D, Ar, ad0, n0⟩, A0, vF, hF⟩ := X
  obtain ⟨hx, hb, hml, hr, hlk, hown, hts, hK, hA, hn0⟩ := C
  intro ad ls H locs a1 a2 a3 a4 a5 a6 a7 a8 a9
  exact lv_pop hx hb hd (by rw [tr_cat]; exact hz) (K ad ls H locs a1 a2 a3 (vkt a4) a5 a6 a7 a8 a9)
def o_dup2 : Fr := fun m => match m.2.1 with
  | v :: w :: S => if v.category = 1 ∧ w.category = 1 then rNx (m.1, v :: w :: v :: w :: S, m.2.2) else none
  | _ => none
theorem s_dup2 (hd : decode cc pc = .ok (.dup2, 1)) : Sim l E own nm cc nL rt fr lo lb (o_dup2) pc (pc + 1) := by
  refine Sim.step fun st r h => ?_
  obtain ⟨L, S, hp⟩ := st
  dsimp only [o_dup2] at h
  split at h
  case h_2 => cases h
  rename_i v w S
  split at h
  case isFalse => cases h
  rename_i hz
  cases h
  refine ⟨_, rfl, Nat.le_refl _, fun X C hn K => ?_⟩
  obtain ⟨⟨p, e, s, m⟩, ⟨args, below, meth, c⟩, ⟨D, Ar, ad0, n0⟩, A0, vF, hF⟩ := X
  obtain ⟨hx, hb, hml, hr, hlk, hown, hts, hK, hA, hn0⟩ := C
  intro ad ls H locs a1 a2 a3 a4 a5 a6 a7 a8 a9
  exact lv_dup2_11 hx hb hd (by rw [tr_cat]; exact hz.1) (by rw [tr_cat]; exact hz.2) (K ad ls H locs a1 a2 a3 (vkc (vkh a4) (vkc (vkh (vkt a4)) a4)) a5 a6 a7 a8 a9)
def o_if_eq (i : Nat) : Fr := fun m => match m.2.1 with
  | .int x :: S => if x = 0 then rBr i (m.1, S, m.2.2) else rNx (m.1, S, m.2.2)
  | _ => none
theorem s_if_eq {off : Int} {tgt i : Nat} (hd : decode cc pc = .ok (.ifCond .eq off, 3)) (ht : (pc : Int) + off = (tgt : Int)) (hi : lb[i]? = some tgt) : Sim l E own nm cc nL rt fr lo lb (o_if_eq i) pc (pc + 3) := by
  intro st r h
  obtain ⟨L, S, hp⟩ := st
  dsimp only [o_if_eq] at h
  split at h
  case h_2 => cases h
  rename_i x S
  split at h
  · next q =>
    cases h
    refine ⟨Nat.le_refl _, fun X C hn K => ?_⟩
    obtain ⟨t, ht2, K⟩ := K
    cases hi.symm.trans ht2
    obtain ⟨⟨p, e, s, m⟩, ⟨args, below, meth, c⟩, ⟨D, Ar, ad0, n0⟩, A0, vF, hF⟩ := X
    obtain ⟨hx, hb, hml, hr, hlk, hown, hts, hK, hA, hn0⟩ := C
    intro ad ls H locs a1 a2 a3 a4 a5 a6 a7 a8 a9
    exact lv_if_eq hx hb hd ht (fun _ => K ad ls H locs a1 a2 a3 (vkt a4) a5 a6 a7 a8 a9) (fun q2 => absurd q q2)
  · next q =>
    cases h
    refine ⟨Nat.le_refl _, fun X C hn K => ?_⟩
    change Wx l nL fr lo (pc + 3) _ X at K
    obtain ⟨⟨p, e, s, m⟩, ⟨args, below, meth, c⟩, ⟨D, Ar, ad0, n0⟩, A0, vF, hF⟩ := X
    obtain ⟨hx, hb, hml, hr, hlk, hown, hts, hK, hA, hn0⟩ := C
    intro ad ls H locs a1 a2 a3 a4 a5 a6 a7 a8 a9
    exact lv_if_eq hx hb hd ht (fun q2 => absurd q2 q) (fun _ => K ad ls H locs a1 a2 a3 (vkt a4) a5 a6 a7 a8 a9)
def o_icmp_eq (i : Nat) : Fr := fun m => match m.2.1 with
  | .int y :: .int x :: S => if x = y then rBr i (m.1, S, m.2.2) else rNx (m.1, S, m.2.2)
  | _ => none
theorem s_icmp_eq {off : Int} {tgt i : Nat} (hd : decode cc pc = .ok (.if_icmp .eq off, 3)) (ht : (pc : Int) + off = (tgt : Int)) (hi : lb[i]? = some tgt) : Sim l E own nm cc nL rt fr lo lb (o_icmp_eq i) pc (pc + 3) := by
  intro st r h
  obtain ⟨L, S, hp⟩ := st
  dsimp only [o_icmp_eq] at h
  split at h
  case h_2 => cases h
  rename_i y x S
  split at h
  · next q =>
    cases h
    refine ⟨Nat.le_refl _, fun X C hn K => ?_⟩
    obtain ⟨t, ht2, K⟩ := K
    cases hi.symm.trans ht2
    obtain ⟨⟨p, e, s, m⟩, ⟨args, below, meth, c⟩, ⟨D, Ar, ad0, n0⟩, A0, vF, hF⟩ := X
    obtain ⟨hx, hb, hml, hr, hlk, hown, hts, hK, hA, hn0⟩ := C
    intro ad ls H locs a1 a2 a3 a4 a5 a6 a7 a8 a9
    exact lv_icmp_eq hx hb hd ht (fun _ => K ad ls H locs a1 a2 a3 (vkt (vkt a4)) a5 a6 a7 a8 a9) (fun q2 => absurd q q2)
  · next q =>
    cases h
    refine ⟨Nat.le_refl _, fun X C hn K => ?_⟩
    change Wx l nL fr lo (pc + 3) _ X at K
    obtain ⟨⟨p, e, s, m⟩, ⟨args, below, meth, c⟩, ⟨D, Ar, ad0, n0⟩, A0, vF, hF⟩ := X
    obtain ⟨hx, hb, hml, hr, hlk, hown, hts, hK, hA, hn0⟩ := C
    intro ad ls H locs a1 a2 a3 a4 a5 a6 a7 a8 a9
    exact lv_icmp_eq hx hb hd ht (fun q2 => absurd q2 q) (fun _ => K ad ls H locs a1 a2 a3 (vkt (vkt a4)) a5 a6 a7 a8 a9)
def o_if_ne (i : Nat) : Fr := fun m => match m.2.1 with
  | .int x :: S => if ¬ x = 0 then rBr i (m.1, S, m.2.2) else rNx (m.1, S, m.2.2)
  | _ => none
theorem s_if_ne {off : Int} {tgt i : Nat} (hd : decode cc pc = .ok (.ifCond .ne off, 3)) (ht : (pc : Int) + off = (tgt : Int)) (hi : lb[i]? = some tgt) : Sim l E own nm cc nL rt fr lo lb (o_if_ne i) pc (pc + 3) := by
  intro st r h
  obtain ⟨L, S, hp⟩ := st
  dsimp only [o_if_ne] at h
  split at h
  case h_2 => cases h
  rename_i x S
  split at h
  · next q =>
    cases h
    refine ⟨Nat.le_refl _, fun X C hn K => ?_⟩
    obtain ⟨t, ht2, K⟩ := K
    cases hi.symm.trans ht2
    obtain ⟨⟨p, e, s, m⟩, ⟨args, below, meth, c⟩, ⟨D, Ar, ad0, n0⟩, A0, vF, hF⟩ := X
    obtain ⟨hx, hb, hml, hr, hlk, hown, hts, hK, hA, hn0⟩ := C
    intro ad ls H locs a1 a2 a3 a4 a5 a6 a7 a8 a9
    exact lv_if_ne hx hb hd ht (fun _ => K ad ls H locs a1 a2 a3 (vkt a4) a5 a6 a7 a8 a9) (fun q2 => absurd q2 q)
  · next q =>
    cases h
    refine ⟨Nat.le_refl _, fun X C hn K => ?_⟩
    change Wx l nL fr lo (pc + 3) _ X at K
    obtain ⟨⟨p, e, s, m⟩, ⟨args, below, meth, c⟩, ⟨D, Ar, ad0, n0⟩, A0, vF, hF⟩ := X
    obtain ⟨hx, hb, hml, hr, hlk, hown, hts, hK, hA, hn0⟩ := C
    intro ad ls H locs a1 a2 a3 a4 a5 a6 a7 a8 a9
    exact lv_if_ne hx hb hd ht (fun q2 => absurd q2 q) (fun _ => K ad ls H locs a1 a2 a3 (vkt a4) a5 a6 a7 a8 a9)
def o_icmp_ne (i : Nat) : Fr := fun m => match m.2.1 with
  | .int y :: .int x :: S => if ¬ x = y then rBr i (m.1, S, m.2.2) else rNx (m.1, S, m.2.2)
  | _ => none
theorem s_icmp_ne {off : Int} {tgt i : Nat} (hd : decode cc pc = .ok (.if_icmp .ne off, 3)) (ht : (pc : Int) + off = (tgt : Int)) (hi : lb[i]? = some tgt) : Sim l E own nm cc nL rt fr lo lb (o_icmp_ne i) pc (pc + 3) := by
  intro st r h
  obtain ⟨L, S, hp⟩ := st
  dsimp only [o_icmp_ne] at h
  split at h
  case h_2 => cases h
  rename_i y x S
  split at h
  · next q =>
    cases h
    refine ⟨Nat.le_refl _, fun X C hn K => ?_⟩
    obtain ⟨t, ht2, K⟩ := K
    cases hi.symm.trans ht2
    obtain ⟨⟨p, e, s, m⟩, ⟨args, below, meth, c⟩, ⟨D, Ar, ad0, n0⟩, A0, vF, hF⟩ := X
    obtain ⟨hx, hb, hml, hr, hlk, hown, hts, hK, hA, hn0⟩ := C
    intro ad ls H locs a1 a2 a3 a4 a5 a6 a7 a8 a9
    exact lv_icmp_ne hx hb hd ht (fun _ => K ad ls H locs a1 a2 a3 (vkt (vkt a4)) a5 a6 a7 a8 a9) (fun q2 => absurd q2 q)
  · next q =>
    cases h
    refine ⟨Nat.le_refl _, fun X C hn K => ?_⟩
    change Wx l nL fr lo (pc + 3) _ X at K
    obtain ⟨⟨p, e, s, m⟩, ⟨args, below, meth, c⟩, ⟨D, Ar, ad0, n0⟩, A0, vF, hF⟩ := X
    obtain ⟨hx, hb, hml, hr, hlk, hown, hts, hK, hA, hn0⟩ := C
    intro ad ls H locs a1 a2 a3 a4 a5 a6 a7 a8 a9
    exact lv_icmp_ne hx hb hd ht (fun q2 => absurd q2 q) (fun _ => K ad ls H locs a1 a2 a3 (vkt (vkt a4)) a5 a6 a7 a8 a9)
def o_if_lt (i : Nat) : Fr := fun m => match m.2.1 with
  | .int x :: S => if x < 0 then rBr i (m.1, S, m.2.2) else rNx (m.1, S, m.2.2)
  | _ => none
theorem s_if_lt {off : Int} {tgt i : Nat} (hd : decode cc pc = .ok (.ifCond .lt off, 3)) (ht : (pc : Int) + off = (tgt : Int)) (hi : lb[i]? = some tgt) : Sim l E own nm cc nL rt fr lo lb (o_if_lt i) pc (pc + 3) := by
  intro st r h
  obtain ⟨L, S, hp⟩ := st
  dsimp only [o_if_lt] at h
  split at h
  case h_2 => cases h
  rename_i x S
  split at h
  · next q =>
    cases h
    refine ⟨Nat.le_refl _, fun X C hn K => ?_⟩
    obtain ⟨t, ht2, K⟩ := K
    cases hi.symm.trans ht2
    obtain ⟨⟨p, e, s, m⟩, ⟨args, below, meth, c⟩, ⟨D, Ar, ad0, n0⟩, A0, vF, hF⟩ := X
    obtain ⟨hx, hb, hml, hr, hlk, hown, hts, hK, hA, hn0⟩ := C
    intro ad ls H locs a1 a2 a3 a4 a5 a6 a7 a8 a9
    exact lv_if_lt hx hb hd ht (fun _ => K ad ls H locs a1 a2 a3 (vkt a4) a5 a6 a7 a8 a9) (fun q2 => absurd q q2)
  · next q =>
    cases h
    refine ⟨Nat.le_refl _, fun X C hn K => ?_⟩
    change Wx l nL fr lo (pc + 3) _ X at K
    obtain ⟨⟨p, e, s, m⟩, ⟨args, below, meth, c⟩, ⟨D, Ar, ad0, n0⟩, A0, vF, hF⟩ := X
    obtain ⟨hx, hb, hml, hr, hlk, hown, hts, hK, hA, hn0⟩ := C
    intro ad ls H locs a1 a2 a3 a4 a5 a6 a7 a8 a9
    exact lv_if_lt hx hb hd ht (fun q2 => absurd q2 q) (fun _ => K ad ls H locs a1 a2 a3 (vkt a4) a5 a6 a7 a8 a9)
def o_icmp_lt (i : Nat) : Fr := fun m => match m.2.1 with
  | .int y :: .int x :: S => if x < y then rBr i (m.1, S, m.2.2) else rNx (m.1, S, m.2.2)
  | _ => none
theorem s_icmp_lt {off : Int} {tgt i : Nat} (hd : decode cc pc = .ok (.if_icmp .lt off, 3)) (ht : (pc : Int) + off = (tgt : Int)) (hi : lb[i]? = some tgt) : Sim l E own nm cc nL rt fr lo lb (o_icmp_lt i) pc (pc + 3) := by
  intro st r h
  obtain ⟨L, S, hp⟩ := st
  dsimp only [o_icmp_lt] at h
  split at h
  case h_2 => cases h
  rename_i y x S
  split at h
  · next q =>
    cases h
    refine ⟨Nat.le_refl _, fun X C hn K => ?_⟩
    obtain ⟨t, ht2, K⟩ := K
    cases hi.symm.trans ht2
    obtain ⟨⟨p, e, s, m⟩, ⟨args, below, meth, c⟩, ⟨D, Ar, ad0, n0⟩, A0, vF, hF⟩ := X
    obtain ⟨hx, hb, hml, hr, hlk, hown, hts, hK, hA, hn0⟩ := C
    intro ad ls H locs a1 a2 a3 a4 a5 a6 a7 a8 a9
    exact lv_icmp_lt hx hb hd ht (fun _ => K ad ls H locs a1 a2 a3 (vkt (vkt a4)) a5 a6 a7 a8 a9) (fun q2 => absurd q q2)
  · next q =>
    cases h
    refine ⟨Nat.le_refl _, fun X C hn K => ?_⟩
    change Wx l nL fr lo (pc + 3) _ X at K
    obtain ⟨⟨p, e, s, m⟩, ⟨args, below, meth, c⟩, ⟨D, Ar, ad0, n0⟩, A0, vF, hF⟩ := X
    obtain ⟨hx, hb, hml, hr, hlk, hown, hts, hK, hA, hn0⟩ := C
    intro ad ls H locs a1 a2 a3 a4 a5 a6 a7 a8 a9
    exact lv_icmp_lt hx hb hd ht (fun q2 => absurd q2 q) (fun _ => K ad ls H locs a1 a2 a3 (vkt (vkt a4)) a5 a6 a7 a8 a9)
def o_if_ge (i : Nat) : Fr := fun m => match m.2.1 with
  | .int x :: S => if 0 ≤ x then rBr i (m.1, S, m.2.2) else rNx (m.1, S, m.2.2)
  | _ => none
theorem s_if_ge {off : Int} {tgt i : Nat} (hd : decode cc pc = .ok (.ifCond .ge off, 3)) (ht : (pc : Int) + off = (tgt : Int)) (hi : lb[i]? = some tgt) : Sim l E own nm cc nL rt fr lo lb (o_if_ge i) pc (pc + 3) := by
  intro st r h
  obtain ⟨L, S, hp⟩ := st
  dsimp only [o_if_ge] at h
  split at h
  case h_2 => cases h
  rename_i x S
  split at h
  · next q =>
    cases h
    refine ⟨Nat.le_refl _, fun X C hn K => ?_⟩
    obtain ⟨t, ht2, K⟩ := K
    cases hi.symm.trans ht2
    obtain ⟨⟨p, e, s, m⟩, ⟨args, below, meth, c⟩, ⟨D, Ar, ad0, n0⟩, A0, vF, hF⟩ := X
    obtain ⟨hx, hb, hml, hr, hlk, hown, hts, hK, hA, hn0⟩ := C
    intro ad ls H locs a1 a2 a3 a4 a5 a6 a7 a8 a9
    exact lv_if_ge hx hb hd ht (fun _ => K ad ls H locs a1 a2 a3 (vkt a4) a5 a6 a7 a8 a9) (fun q2 => absurd q q2)
  · next q =>
    cases h
    refine ⟨Nat.le_refl _, fun X C hn K => ?_⟩
    change Wx l nL fr lo (pc + 3) _ X at K
    obtain ⟨⟨p, e, s, m⟩, ⟨args, below, meth, c⟩, ⟨D, Ar, ad0, n0⟩, A0, vF, hF⟩ := X
    obtain ⟨hx, hb, hml, hr, hlk, hown, hts, hK, hA, hn0⟩ := C
    intro ad ls H locs a1 a2 a3 a4 a5 a6 a7 a8 a9
    exact lv_if_ge hx hb hd ht (fun q2 => absurd q2 q) (fun _ => K ad ls H locs a1 a2 a3 (vkt a4) a5 a6 a7 a8 a9)
def o_icmp_ge (i : Nat) : Fr := fun m => match m.2.1 with
  | .int y :: .int x :: S => if y ≤ x then rBr i (m.1, S, m.2.2) else rNx (m.1, S, m.2.2)
  | _ => none
theorem s_icmp_ge {off : Int} {tgt i : Nat} (hd : decode cc pc = .ok (.if_icmp .ge off, 3)) (ht : (pc : Int) + off = (tgt : Int)) (hi : lb[i]? = some tgt) : Sim l E own nm cc nL rt fr lo lb (o_icmp_ge i) pc (pc + 3) := by
  intro st r h
  obtain ⟨L, S, hp⟩ := st
  dsimp only [o_icmp_ge] at h
  split at h
  case h_2 => cases h
  rename_i y x S
  split at h
  · next q =>
    cases h
    refine ⟨Nat.le_refl _, fun X C hn K => ?_⟩
    obtain ⟨t, ht2, K⟩ := K
    cases hi.symm.trans ht2
    obtain ⟨⟨p, e, s, m⟩, ⟨args, below, meth, c⟩, ⟨D, Ar, ad0, n0⟩, A0, vF, hF⟩ := X
    obtain ⟨hx, hb, hml, hr, hlk, hown, hts, hK, hA, hn0⟩ := C
    intro ad ls H locs a1 a2 a3 a4 a5 a6 a7 a8 a9
    exact lv_icmp_ge hx hb hd ht (fun _ => K ad ls H locs a1 a2 a3 (vkt (vkt a4)) a5 a6 a7 a8 a9) (fun q2 => absurd q q2)
  · next q =>
    cases h
    refine ⟨Nat.le_refl _, fun X C hn K => ?_⟩
    change Wx l nL fr lo (pc + 3) _ X at K
    obtain ⟨⟨p, e, s, m⟩, ⟨args, below, meth, c⟩, ⟨D, Ar, ad0, n0⟩, A0, vF, hF⟩ := X
    obtain ⟨hx, hb, hml, hr, hlk, hown, hts, hK, hA, hn0⟩ := C
    intro ad ls H locs a1 a2 a3 a4 a5 a6 a7 a8 a9
    exact lv_icmp_ge hx hb hd ht (fun q2 => absurd q2 q) (fun _ => K ad ls H locs a1 a2 a3 (vkt (vkt a4)) a5 a6 a7 a8 a9)
def o_if_gt (i : Nat) : Fr := fun m => match m.2.1 with
  | .int x :: S => if 0 < x then rBr i (m.1, S, m.2.2) else rNx (m.1, S, m.2.2)
  | _ => none
theorem s_if_gt {off : Int} {tgt i : Nat} (hd : decode cc pc = .ok (.ifCond .gt off, 3)) (ht : (pc : Int) + off = (tgt : Int)) (hi : lb[i]? = some tgt) : Sim l E own nm cc nL rt fr lo lb (o_if_gt i) pc (pc + 3) := by
  intro st r h
  obtain ⟨L, S, hp⟩ := st
  dsimp only [o_if_gt] at h
  split at h
  case h_2 => cases h
  rename_i x S
  split at h
  · next q =>
    cases h
    refine ⟨Nat.le_refl _, fun X C hn K => ?_⟩
    obtain ⟨t, ht2, K⟩ := K
    cases hi.symm.trans ht2
    obtain ⟨⟨p, e, s, m⟩, ⟨args, below, meth, c⟩, ⟨D, Ar, ad0, n0⟩, A0, vF, hF⟩ := X
    obtain ⟨hx, hb, hml, hr, hlk, hown, hts, hK, hA, hn0⟩ := C
    intro ad ls H locs a1 a2 a3 a4 a5 a6 a7 a8 a9
    exact lv_if_gt hx hb hd ht (fun _ => K ad ls H locs a1 a2 a3 (vkt a4) a5 a6 a7 a8 a9) (fun q2 => absurd q q2)
  · next q =>
    cases h
    refine ⟨Nat.le_refl _, fun X C hn K => ?_⟩
    change Wx l nL fr lo (pc + 3) _ X at K
    obtain ⟨⟨p, e, s, m⟩, ⟨args, below, meth, c⟩, ⟨D, Ar, ad0, n0⟩, A0, vF, hF⟩ := X
    obtain ⟨hx, hb, hml, hr, hlk, hown, hts, hK, hA, hn0⟩ := C
    intro ad ls H locs a1 a2 a3 a4 a5 a6 a7 a8 a9
    exact lv_if_gt hx hb hd ht (fun q2 => absurd q2 q) (fun _ => K ad ls H locs a1 a2 a3 (vkt a4) a5 a6 a7 a8 a9)
def o_icmp_gt (i : Nat) : Fr := fun m => match m.2.1 with
  | .int y :: .int x :: S => if y < x then rBr i (m.1, S, m.2.2) else rNx (m.1, S, m.2.2)
  | _ => none
theorem s_icmp_gt {off : Int} {tgt i : Nat} (hd : decode cc pc = .ok (.if_icmp .gt off, 3)) (ht : (pc : Int) + off = (tgt : Int)) (hi : lb[i]? = some tgt) : Sim l E own nm cc nL rt fr lo lb (o_icmp_gt i) pc (pc + 3) := by
  intro st r h
  obtain ⟨L, S, hp⟩ := st
  dsimp only [o_icmp_gt] at h
  split at h
  case h_2 => cases h
  rename_i y x S
  split at h
  · next q =>
    cases h
    refine ⟨Nat.le_refl _, fun X C hn K => ?_⟩
    obtain ⟨t, ht2, K⟩ := K
    cases hi.symm.trans ht2
    obtain ⟨⟨p, e, s, m⟩, ⟨args, below, meth, c⟩, ⟨D, Ar, ad0, n0⟩, A0, vF, hF⟩ := X
    obtain ⟨hx, hb, hml, hr, hlk, hown, hts, hK, hA, hn0⟩ := C
    intro ad ls H locs a1 a2 a3 a4 a5 a6 a7 a8 a9
    exact lv_icmp_gt hx hb hd ht (fun _ => K ad ls H locs a1 a2 a3 (vkt (vkt a4)) a5 a6 a7 a8 a9) (fun q2 => absurd q q2)
  · next q =>
    cases h
    refine ⟨Nat.le_refl _, fun X C hn K => ?_⟩
    change Wx l nL fr lo (pc + 3) _ X at K
    obtain ⟨⟨p, e, s, m⟩, ⟨args, below, meth, c⟩, ⟨D, Ar, ad0, n0⟩, A0, vF, hF⟩ := X
    obtain ⟨hx, hb, hml, hr, hlk, hown, hts, hK, hA, hn0⟩ := C
    intro ad ls H locs a1 a2 a3 a4 a5 a6 a7 a8 a9
    exact lv_icmp_gt hx hb hd ht (fun q2 => absurd q2 q) (fun _ => K ad ls H locs a1 a2 a3 (vkt (vkt a4)) a5 a6 a7 a8 a9)
def o_if_le (i : Nat) : Fr := fun m => match m.2.1 with
  | .int x :: S => if x ≤ 0 then rBr i (m.1, S, m.2.2) else rNx (m.1, S, m.2.2)
  | _ => none
theorem s_if_le {off : Int} {tgt i : Nat} (hd : decode cc pc = .ok (.ifCond .le off, 3)) (ht : (pc : Int) + off = (tgt : Int)) (hi : lb[i]? = some tgt) : Sim l E own nm cc nL rt fr lo lb (o_if_le i) pc (pc + 3) := by
  intro st r h
  obtain ⟨L, S, hp⟩ := st
  dsimp only [o_if_le] at h
  split at h
  case h_2 => cases h
  rename_i x S
  split at h
  · next q =>
    cases h
    refine ⟨Nat.le_refl _, fun X C hn K => ?_⟩
    obtain ⟨t, ht2, K⟩ := K
    cases hi.symm.trans ht2
    obtain ⟨⟨p, e, s, m⟩, ⟨args, below, meth, c⟩, ⟨D, Ar, ad0, n0⟩, A0, vF, hF⟩ := X
    obtain ⟨hx, hb, hml, hr, hlk, hown, hts, hK, hA, hn0⟩ := C
    intro ad ls H locs a1 a2 a3 a4 a5 a6 a7 a8 a9
    exact lv_if_le hx hb hd ht (fun _ => K ad ls H locs a1 a2 a3 (vkt a4) a5 a6 a7 a8 a9) (fun q2 => absurd q q2)
  · next q =>
    cases h
    refine ⟨Nat.le_refl _, fun X C hn K => ?_⟩
    change Wx l nL fr lo (pc + 3) _ X at K
    obtain ⟨⟨p, e, s, m⟩, ⟨args, below, meth, c⟩, ⟨D, Ar, ad0, n0⟩, A0, vF, hF⟩ := X
    obtain ⟨hx, hb, hml, hr, hlk, hown, hts, hK, hA, hn0⟩ := C
    intro ad ls H locs a1 a2 a3 a4 a5 a6 a7 a8 a9
    exact lv_if_le hx hb hd ht (fun q2 => absurd q2 q) (fun _ => K ad ls H locs a1 a2 a3 (vkt a4) a5 a6 a7 a8 a9)
def o_icmp_le (i : Nat) : Fr := fun m => match m.2.1 with
  | .int y :: .int x :: S => if x ≤ y then rBr i (m.1, S, m.2.2) else rNx (m.1, S, m.2.2)
  | _ => none
theorem s_icmp_le {off : Int} {tgt i : Nat} (hd : decode cc pc = .ok (.if_icmp .le off, 3)) (ht : (pc : Int) + off = (tgt : Int)) (hi : lb[i]? = some tgt) : Sim l E own nm cc nL rt fr lo lb (o_icmp_le i) pc (pc + 3) := by
  intro st r h
  obtain ⟨L, S, hp⟩ := st
  dsimp only [o_icmp_le] at h
  split at h
  case h_2 => cases h
  rename_i y x S
  split at h
  · next q =>
    cases h
    refine ⟨Nat.le_refl _, fun X C hn K => ?_⟩
    obtain ⟨t, ht2, K⟩ := K
    cases hi.symm.trans ht2
    obtain ⟨⟨p, e, s, m⟩, ⟨args, below, meth, c⟩, ⟨D, Ar, ad0, n0⟩, A0, vF, hF⟩ := X
    obtain ⟨hx, hb, hml, hr, hlk, hown, hts, hK, hA, hn0⟩ := C
    intro ad ls H locs a1 a2 a3 a4 a5 a6 a7 a8 a9
    exact lv_icmp_le hx hb hd ht (fun _ => K ad ls H locs a1 a2 a3 (vkt (vkt a4)) a5 a6 a7 a8 a9) (fun q2 => absurd q q2)
  · next q =>
    cases h
    refine ⟨Nat.le_refl _, fun X C hn K => ?_⟩
    change Wx l nL fr lo (pc + 3) _ X at K
    obtain ⟨⟨p, e, s, m⟩, ⟨args, below, meth, c⟩, ⟨D, Ar, ad0, n0⟩, A0, vF, hF⟩ := X
    obtain ⟨hx, hb, hml, hr, hlk, hown, hts, hK, hA, hn0⟩ := C
    intro ad ls H locs a1 a2 a3 a4 a5 a6 a7 a8 a9
    exact lv_icmp_le hx hb hd ht (fun q2 => absurd q2 q) (fun _ => K ad ls H locs a1 a2 a3 (vkt (vkt a4)) a5 a6 a7 a8 a9)
def o_ifnull (i : Nat) : Fr := fun m => match m.2.1 with
  | .null :: S => rBr i (m.1, S, m.2.2)
  | .ref _ :: S => rNx (m.1, S, m.2.2)
  | _ => none
def o_ifnonnull (i : Nat) : Fr := fun m => match m.2.1 with
  | .ref _ :: S => rBr i (m.1, S, m.2.2)
  | .null :: S => rNx (m.1, S, m.2.2)
  | _ => none
theorem s_ifnull {off : Int} {tgt i : Nat} (hd : decode cc pc = .ok (.ifnull off, 3)) (ht : (pc : Int) + off = (tgt : Int)) (hi : lb[i]? = some tgt) : Sim l E own nm cc nL rt fr lo lb (o_ifnull i) pc (pc + 3) := by
  intro st r h
  obtain ⟨L, S, hp⟩ := st
  dsimp only [o_ifnull] at h
  split at h
  case h_3 => cases h
  · rename_i S
    cases h
    refine ⟨Nat.le_refl _, fun X C hn K => ?_⟩
    obtain ⟨t, ht2, K⟩ := K
    cases hi.symm.trans ht2
    obtain ⟨⟨p, e, s, m⟩, ⟨args, below, meth, c⟩, ⟨D, Ar, ad0, n0⟩, A0, vF, hF⟩ := X
    obtain ⟨hx, hb, hml, hr, hlk, hown, hts, hK, hA, hn0⟩ := C
    intro ad ls H locs a1 a2 a3 a4 a5 a6 a7 a8 a9
    exact lv_ifnullN hx hb hd ht (K ad ls H locs a1 a2 a3 (vkt a4) a5 a6 a7 a8 a9)
  · rename_i x S
    cases h
    refine ⟨Nat.le_refl _, fun X C hn K => ?_⟩
    change Wx l nL fr lo (pc + 3) _ X at K
    obtain ⟨⟨p, e, s, m⟩, ⟨args, below, meth, c⟩, ⟨D, Ar, ad0, n0⟩, A0, vF, hF⟩ := X
    obtain ⟨hx, hb, hml, hr, hlk, hown, hts, hK, hA, hn0⟩ := C
    intro ad ls H locs a1 a2 a3 a4 a5 a6 a7 a8 a9
    exact lv_ifnull hx hb hd (K ad ls H locs a1 a2 a3 (vkt a4) a5 a6 a7 a8 a9)
theorem s_ifnonnull {off : Int} {tgt i : Nat} (hd : decode cc pc = .ok (.ifnonnull off, 3)) (ht : (pc : Int) + off = (tgt : Int)) (hi : lb[i]? = some tgt) : Sim l E own nm cc nL rt fr lo lb (o_ifnonnull i) pc (pc + 3) := by
  intro st r h
  obtain ⟨L, S, hp⟩ := st
  dsimp only [o_ifnonnull] at h
  split at h
  case h_3 => cases h
  · rename_i x S
    cases h
    refine ⟨Nat.le_refl _, fun X C hn K => ?_⟩
    obtain ⟨t, ht2, K⟩ := K
    cases hi.symm.trans ht2
    obtain ⟨⟨p, e, s, m⟩, ⟨args, below, meth, c⟩, ⟨D, Ar, ad0, n0⟩, A0, vF, hF⟩ := X
    obtain ⟨hx, hb, hml, hr, hlk, hown, hts, hK, hA, hn0⟩ := C
    intro ad ls H locs a1 a2 a3 a4 a5 a6 a7 a8 a9
    exact lv_ifnonnull hx hb hd ht (K ad ls H locs a1 a2 a3 (vkt a4) a5 a6 a7 a8 a9)
  · rename_i S
    cases h
    refine ⟨Nat.le_refl _, fun X C hn K => ?_⟩
    change Wx l nL fr lo (pc + 3) _ X at K
    obtain ⟨⟨p, e, s, m⟩, ⟨args, below, meth, c⟩, ⟨D, Ar, ad0, n0⟩, A0, vF, hF⟩ := X
    obtain ⟨hx, hb, hml, hr, hlk, hown, hts, hK, hA, hn0⟩ := C
    intro ad ls H locs a1 a2 a3 a4 a5 a6 a7 a8 a9
    exact lv_ifnonnullN hx hb hd (K ad ls H locs a1 a2 a3 (vkt a4) a5 a6 a7 a8 a9)
def o_br (i : Nat) : Fr := fun m => rBr i m
theorem s_goto {off : Int} {tgt i : Nat} {pc' : Nat} (hd : decode cc pc = .ok (.goto off, 3)) (ht : (pc : Int) + off = (tgt : Int)) (hi : lb[i]? = some tgt) : Sim l E own nm cc nL rt fr lo lb (o_br i) pc pc' := by
  intro st r h
  obtain ⟨L, S, hp⟩ := st
  cases h
  refine ⟨Nat.le_refl _, fun X C hn K => ?_⟩
  obtain ⟨t, ht2, K⟩ := K
  cases hi.symm.trans ht2
  obtain ⟨⟨p, e, s, m⟩, ⟨args, below, meth, c⟩, ⟨D, Ar, ad0, n0⟩, A0, vF, hF⟩ := X
  obtain ⟨hx, hb, hml, hr, hlk, hown, hts, hK, hA, hn0⟩ := C
  intro ad ls H locs a1 a2 a3 a4 a5 a6 a7 a8 a9
  exact lv_goto hx hb hd ht (K ad ls H locs a1 a2 a3 a4 a5 a6 a7 a8 a9)
def o_nop : Fr := fun m => rNx m
theorem s_nop : Sim l E own nm cc nL rt fr lo lb o_nop pc pc := by
  refine Sim.step fun st r h => ?_
  cases h
  exact ⟨_, rfl, Nat.le_refl _, fun X C hn K => K⟩
def o_iret : Fr := fun m => match m.2.1 with
  | [.int x] => rRt (some (.int x)) m.2.2
  | _ => none
def o_zret : Fr := fun m => match m.2.1 with
  | [.int x] => if x = 0 ∨ x = 1 then rRt (some (.int x)) m.2.2 else none
  | _ => none
def o_lret : Fr := fun m => match m.2.1 with
  | [.long x] => rRt (some (.long x)) m.2.2
  | _ => none
def o_aret : Fr := fun m => match m.2.1 with
  | [.ref x] => rRt (some (.ref x)) m.2.2
  | [.null] => rRt (some .null) m.2.2
  | _ => none
def o_vret : Fr := fun m => match m.2.1 with
  | [] => rRt none m.2.2
  | _ => none
theorem s_iret {pc' : Nat} (hrt : rt = some .int) (hd : decode cc pc = .ok (.ireturn, 1)) : Sim l E own nm cc nL rt fr lo lb o_iret pc pc' := by
  intro st r h
  obtain ⟨L, S, hp⟩ := st
  dsimp only [o_iret] at h
  split at h
  case h_2 => cases h
  rename_i x
  cases h
  refine ⟨Nat.le_refl _, fun X C hn K => ?_⟩
  obtain ⟨⟨p, e, s, m⟩, ⟨args, below, meth, c⟩, ⟨D, Ar, ad0, n0⟩, A0, vF, hF⟩ := X
  obtain ⟨hx, hb, hml, hr, hlk, hown, hts, hK, hA, hn0⟩ := C
  intro ad ls H locs a1 a2 a3 a4 a5 a6 a7 a8 a9
  obtain ⟨e1, e2⟩ := K
  change _ = vF at e1
  change _ = hF at e2
  subst e1
  subst e2
  exact W.iret (v := x) hx hb (hr.trans hrt) (fun t ht hW => ⟨⟨ad, a1, rfl, by rw [ht]; exact a7, va_K.moved hW.alike hK, a8, fun x hx => (by cases hx; first | exact vkh a4 | trivial), a5⟩, a9.F ht⟩) a9.2.2 hd hlk
theorem s_zret {pc' : Nat} (hrt : rt = some .boolean) (hd : decode cc pc = .ok (.ireturn, 1)) : Sim l E own nm cc nL rt fr lo lb o_zret pc pc' := by
  intro st r h
  obtain ⟨L, S, hp⟩ := st
  dsimp only [o_zret] at h
  split at h
  case h_2 => cases h
  rename_i x
  split at h
  case isFalse => cases h
  rename_i hz
  cases h
  refine ⟨Nat.le_refl _, fun X C hn K => ?_⟩
  obtain ⟨⟨p, e, s, m⟩, ⟨args, below, meth, c⟩, ⟨D, Ar, ad0, n0⟩, A0, vF, hF⟩ := X
  obtain ⟨hx, hb, hml, hr, hlk, hown, hts, hK, hA, hn0⟩ := C
  intro ad ls H locs a1 a2 a3 a4 a5 a6 a7 a8 a9
  obtain ⟨e1, e2⟩ := K
  change _ = vF at e1
  change _ = hF at e2
  subst e1
  subst e2
  exact W.zret (v := x) hx hb (hr.trans hrt) (by rcases hz with rfl | rfl <;> decide +kernel) (fun t ht hW => ⟨⟨ad, a1, rfl, by rw [ht]; exact a7, va_K.moved hW.alike hK, a8, fun x hx => (by cases hx; first | exact vkh a4 | trivial), a5⟩, a9.F ht⟩) a9.2.2 hd hlk
theorem s_lret {pc' : Nat} (hrt : rt = some .long) (hd : decode cc pc = .ok (.lreturn, 1)) : Sim l E own nm cc nL rt fr lo lb o_lret pc pc' := by
  intro st r h
  obtain ⟨L, S, hp⟩ := st
  dsimp only [o_lret] at h
  split at h
  case h_2 => cases h
  rename_i x
  cases h
  refine ⟨Nat.le_refl _, fun X C hn K => ?_⟩
  obtain ⟨⟨p, e, s, m⟩, ⟨args, below, meth, c⟩, ⟨D, Ar, ad0, n0⟩, A0, vF, hF⟩ := X
  obtain ⟨hx, hb, hml, hr, hlk, hown, hts, hK, hA, hn0⟩ := C
  intro ad ls H locs a1 a2 a3 a4 a5 a6 a7 a8 a9
  obtain ⟨e1, e2⟩ := K
  change _ = vF at e1
  change _ = hF at e2
  subst e1
  subst e2
  exact W.lret (v := x) hx hb (hr.trans hrt) (fun t ht hW => ⟨⟨ad, a1, rfl, by rw [ht]; exact a7, va_K.moved hW.alike hK, a8, fun x hx => (by cases hx; first | exact vkh a4 | trivial), a5⟩, a9.F ht⟩) a9.2.2 hd hlk
theorem s_vret {pc' : Nat} (hrt : rt = none) (hd : decode cc pc = .ok (.return_, 1)) : Sim l E own nm cc nL rt fr lo lb o_vret pc pc' := by
  intro st r h
  obtain ⟨L, S, hp⟩ := st
  dsimp only [o_vret] at h
  split at h
  case h_2 => cases h
  cases h
  refine ⟨Nat.le_refl _, fun X C hn K => ?_⟩
  obtain ⟨⟨p, e, s, m⟩, ⟨args, below, meth, c⟩, ⟨D, Ar, ad0, n0⟩, A0, vF, hF⟩ := X
  obtain ⟨hx, hb, hml, hr, hlk, hown, hts, hK, hA, hn0⟩ := C
  intro ad ls H locs a1 a2 a3 a4 a5 a6 a7 a8 a9
  obtain ⟨e1, e2⟩ := K
  change _ = vF at e1
  change _ = hF at e2
  subst e1
  subst e2
  exact W.vret hx hb (hr.trans hrt) (fun t ht hW => ⟨⟨ad, a1, rfl, by rw [ht]; exact a7, va_K.moved hW.alike hK, a8, fun x hx => (by cases hx), a5⟩, a9.F ht⟩) a9.2.2 hd hlk
theorem s_aret {pc' : Nat} {ct : FieldType} (hrt : rt = some ct) (hct : (∃ n, ct = .object n) ∨ ∃ t, ct = .array t) (hd : decode cc pc = .ok (.areturn, 1)) : Sim l E own nm cc nL rt fr lo lb o_aret pc pc' := by
  intro st r h
  obtain ⟨L, S, hp⟩ := st
  dsimp only [o_aret] at h
  split at h
  case h_3 => cases h
  · rename_i x
    cases h
    refine ⟨Nat.le_refl _, fun X C hn K => ?_⟩
    obtain ⟨⟨p, e, s, m⟩, ⟨args, below, meth, c⟩, ⟨D, Ar, ad0, n0⟩, A0, vF, hF⟩ := X
    obtain ⟨hx, hb, hml, hr, hlk, hown, hts, hK, hA, hn0⟩ := C
    intro ad ls H locs a1 a2 a3 a4 a5 a6 a7 a8 a9
    obtain ⟨e1, e2⟩ := K
    change _ = vF at e1
    change _ = hF at e2
    subst e1
    subst e2
    exact W.aret (v := .ref (ad x)) hx hb (hr.trans hrt) hct (Or.inr ⟨_, rfl⟩) (fun t ht hW => ⟨⟨ad, a1, rfl, by rw [ht]; exact a7, va_K.moved hW.alike hK, a8, fun x hx => (by cases hx; first | exact vkh a4 | trivial), a5⟩, a9.F ht⟩) a9.2.2 hd hlk
  · cases h
    refine ⟨Nat.le_refl _, fun X C hn K => ?_⟩
    obtain ⟨⟨p, e, s, m⟩, ⟨args, below, meth, c⟩, ⟨D, Ar, ad0, n0⟩, A0, vF, hF⟩ := X
    obtain ⟨hx, hb, hml, hr, hlk, hown, hts, hK, hA, hn0⟩ := C
    intro ad ls H locs a1 a2 a3 a4 a5 a6 a7 a8 a9
    obtain ⟨e1, e2⟩ := K
    change _ = vF at e1
    change _ = hF at e2
    subst e1
    subst e2
    exact W.aret (v := .null) hx hb (hr.trans hrt) hct (Or.inl rfl) (fun t ht hW => ⟨⟨ad, a1, rfl, by rw [ht]; exact a7, va_K.moved hW.alike hK, a8, fun x hx => (by cases hx; first | exact vkh a4 | trivial), a5⟩, a9.F ht⟩) a9.2.2 hd hlk
end RowS
