def o_putr (ci N j : Nat) : Fr := fun m => match m.2.1 with
  | .ref v :: .ref k :: S => if ook m.2.2.1 k ci N ∧ v < m.2.2.1 then rNx (m.1, S, m.2.2.1, m.2.2.2.1, m.2.2.2.2.1, u2 m.2.2.2.2.2 k j (some v)) else none
  | _ => none
def o_qst : Fr := fun m => match m.2.1 with
  | .ref v :: .int i :: .ref k :: S => if aok m.2.2.1 k 103 i ∧ v < m.2.2.1 ∧ sh v = (2, 7) then rNx (m.1, S, m.2.2.1, m.2.2.2.1, m.2.2.2.2.1, u2 m.2.2.2.2.2 k i.toNatClampNeg (some v)) else none
  | _ => none
/-- one cell more, of zeros -/
def grow (h : Hp) : Hp := (h.1 + 1, (fun a b => if a = h.1 then 0 else h.2.1 a b), (fun a b => if a = h.1 then 0 else h.2.2.1 a b), fun a b => if a = h.1 then none else h.2.2.2 a b)
def o_new (ci N : Nat) : Fr := fun m => if sh m.2.2.1 = (ci, N) then rNx (m.1, .ref m.2.2.1 :: m.2.1, grow m.2.2) else none
def o_newa (kd : Nat) : Fr := fun m => match m.2.1 with
  | .int x :: S => if (sh m.2.2.1).1 = kd ∧ 0 ≤ x.toInt ∧ x.toNatClampNeg = (sh m.2.2.1).2 ∧ (sh m.2.2.1).2 ≤ 1000000 then rNx (m.1, .ref m.2.2.1 :: S, grow m.2.2) else none
  | _ => none
def o_oini : Fr := fun m => match m.2.1 with
  | .ref _ :: S => if csum S ≤ 8 then rNx (m.1, S, m.2.2) else none
  | _ => none
def o_callI (k : Nat) (f : Mt) : Fr := fun m => match m.2.1.getD k .null with
  | .ref _ => o_call (k + 1) f m
  | _ => none
def o_tsw (a b : Int) (tg : List Nat) (d : Nat) : Fr := fun m => match m.2.1 with
  | .int x :: S => if x.toInt < a ∨ b < x.toInt then rBr d (m.1, S, m.2.2) else rBr (tg.getD (x.toInt - a).toNat d) (m.1, S, m.2.2)
  | _ => none
def o_aloadS (k : Nat) : Fr := fun m => match m.1.getD k .null with
  | .retAddr x => rNx (m.1, .retAddr x :: m.2.1, m.2.2)
  | _ => none
def o_sld (b L : Nat) (xs : Nat → Int32) : Fr := fun m => match m.2.1 with
  | .int i :: .retAddr a :: S => if a = b ∧ 0 ≤ i.toInt ∧ i.toInt < L then rNx (m.1, .int (xs i.toNatClampNeg) :: S, m.2.2) else none
  | _ => none
def o_slen (b L : Nat) : Fr := fun m => match m.2.1 with
  | .retAddr a :: S => if a = b then rNx (m.1, .int (nI L) :: S, m.2.2) else none
  | _ => none
def Esc (b L : Nat) (xs : Nat → Int32) : Cxt → Prop := fun ((_, _, s, _), _, _, A0, _, _) => va_X b L xs s s.heap ∧ b < s.heap.size ∧ ¬ A0 b
theorem cnt_q2 {Ar : Nat → ClassId} {ad : Nat → Nat} {n : Nat} {hi : Nat → Nat → Int32} {hl : Nat → Nat → Int64} {hr hr' : Nat → Nat → Option Nat} {k : Nat} (e : hr' k = hr k) : cnt Ar ad (n, hi, hl, hr') k = cnt Ar ad (n, hi, hl, hr) k := cnt_hi rfl rfl e
theorem hok_u2 {n : Nat} {hi : Nat → Nat → Int32} {hl : Nat → Nat → Int64} {hr : Nat → Nat → Option Nat} {k j v : Nat} (h : Hok (n, hi, hl, hr)) (hv : v < n) : Hok (n, hi, hl, u2 hr k j (some v)) := fun a b i ha e => by
  change u2 hr k j (some v) a b = some i at e
  unfold u2 at e
  split at e
  · cases e; exact hv
  · exact h a b i ha e
theorem nlt0 {z : Int32} (h0 : 0 ≤ z.toInt) : ¬ z < 0 := fun h1 => by
  have := Int32.lt_iff_toInt_lt.mp h1
  simp at this
  omega
theorem hok_grow {h : Hp} (H : Hok h) : Hok (grow h) := fun a b i ha e => by
  change (if a = h.1 then none else h.2.2.2 a b) = some i at e
  change a < h.1 + 1 at ha
  split at e
  · cases e
  · exact Nat.lt_succ_of_lt (H a b i (by omega) e)
/-- the world with one cell more -/
theorem ws_push {Ar : Nat → ClassId} {ad : Nat → Nat} {h : Hp} {q : Nat} {e : va_E} (H : Hok h) (he : cnt Ar (fun k => if k = h.1 then q else ad k) (grow h) h.1 = e) : wsOf Ar (fun k => if k = h.1 then q else ad k) (grow h) = wsOf Ar ad h ++ [(q, e)] := by
  unfold wsOf
  change (List.range (h.1 + 1)).map _ = _
  rw [List.range_succ, List.map_append, List.map_singleton]
  congr 1
  · refine List.map_congr_left fun k hk => ?_
    have hk2 : k < h.1 := List.mem_range.mp hk
    have hne : k ≠ h.1 := by omega
    refine Prod.ext (by simp [hne]) ?_
    show cnt Ar _ (grow h) k = cnt Ar ad h k
    have e1 : (grow h).2.1 k = h.2.1 k := by funext b; simp [grow, hne]
    have e2 : (grow h).2.2.1 k = h.2.2.1 k := by funext b; simp [grow, hne]
    have e3 : (grow h).2.2.2 k = h.2.2.2 k := by funext b; simp [grow, hne]
    have e4 : ∀ j, (h.2.2.2 k j).map (fun k => if k = h.1 then q else ad k) = (h.2.2.2 k j).map ad := fun j => by
      cases e : h.2.2.2 k j with
      | none => rfl
      | some i =>
        have := H k j i hk2 e
        simp [show i ≠ h.1 by omega]
    have e5 : ∀ j t, tr (fun k => if k = h.1 then q else ad k) (fvm (grow h) k j t) = tr ad (fvm h k j t) := fun j t => by
      unfold fvm
      rw [e1, e2, e3]
      split
      · rfl
      · split
        · rfl
        · rw [tr_rv, tr_rv, e4]
    unfold cnt
    simp only [e1, e2, e3, e4, e5]
  · rw [he]; simp
section MoreS
variable {l : Launch} {E : Cxt → Prop} {own nm : String} {cc : ByteArray} {nL : Nat} {rt : Option FieldType} {fr lo : Nat} {lb : List Nat} {pc : Nat}
theorem s_getiN {ci N j index : Nat} {C host : String} {T : u_T} (hc : vwCl[ci]? = some (C, T, N)) (hci : ci < 100) (hj : j < N) (hin : ∀ w ∈ u_ws C T N, w ∈ lw_gd) (hw : Cond.fieldLinkNest own index (T j).1 (T j).2.1 (T j).2.2.1 host ∈ lw_tbl) (hft : ft ci j = 0) (hd : decode cc pc = .ok (.getfield index, 3)) : Sim l E own nm cc nL rt fr lo lb (o_geti ci N j) pc (pc + 3) := by
  refine Sim.step fun st r h => ?_
  obtain ⟨L, S, n, hi, hl, hr0⟩ := st
  dsimp only [o_geti] at h
  split at h
  case h_2 => cases h
  rename_i k S
  split at h
  case isFalse => cases h
  rename_i hz
  cases h
  refine ⟨_, rfl, Nat.le_refl _, fun X C hn K => ?_⟩
  obtain ⟨⟨p, e, s, m⟩, ⟨args, below, meth, c⟩, ⟨D, Ar, ad0, n0⟩, A0, vF, hF⟩ := X
  obtain ⟨hx, hb, hml, hr, hlk, hown, hts, hK, hA, hn0⟩ := C
  intro ad ls H locs a1 a2 a3 a4 a5 a6 a7 a8 a9
  have hv : ((List.range N).map fun j => tr ad (fvm (n, hi, hl, hr0) k j (ft ci j)))[j]? = some (.int (hi k j)) := by rw [rng_at hj, hft]; rfl
  exact va_getN hx hb hts hin hown hK a7 k ((ws_at hz.1).trans (by rw [cnt_obj hz.2 hci])) hc j hj (va_Nw.use rfl (hn0.2.1.1 _ hw rfl)) (fun _ h9 => h9) hv hd (K ad ls H locs a1 a2 a3 (vkc trivial (vkt a4)) a5 a6 a7 a8 a9)
theorem s_getrN {ci N j index : Nat} {C host : String} {T : u_T} (hc : vwCl[ci]? = some (C, T, N)) (hci : ci < 100) (hj : j < N) (hin : ∀ w ∈ u_ws C T N, w ∈ lw_gd) (hw : Cond.fieldLinkNest own index (T j).1 (T j).2.1 (T j).2.2.1 host ∈ lw_tbl) (hft : ft ci j = 2) (hd : decode cc pc = .ok (.getfield index, 3)) : Sim l E own nm cc nL rt fr lo lb (o_getr ci N j) pc (pc + 3) := by
  refine Sim.step fun st r h => ?_
  obtain ⟨L, S, n, hi, hl, hr0⟩ := st
  dsimp only [o_getr] at h
  split at h
  case h_2 => cases h
  rename_i k S
  split at h
  case isFalse => cases h
  rename_i hz
  cases h
  refine ⟨_, rfl, Nat.le_refl _, fun X C hn K => ?_⟩
  obtain ⟨⟨p, e, s, m⟩, ⟨args, below, meth, c⟩, ⟨D, Ar, ad0, n0⟩, A0, vF, hF⟩ := X
  obtain ⟨hx, hb, hml, hr, hlk, hown, hts, hK, hA, hn0⟩ := C
  intro ad ls H locs a1 a2 a3 a4 a5 a6 a7 a8 a9
  have hv : ((List.range N).map fun j => tr ad (fvm (n, hi, hl, hr0) k j (ft ci j)))[j]? = some (tr ad (rv (hr0 k j))) := by rw [rng_at hj, hft]; rfl
  exact va_getN hx hb hts hin hown hK a7 k ((ws_at hz.1).trans (by rw [cnt_obj hz.2 hci])) hc j hj (va_Nw.use rfl (hn0.2.1.1 _ hw rfl)) (fun _ h9 => h9) hv hd (K ad ls H locs a1 a2 a3 (vkc (rv_ok a5 hz.1) (vkt a4)) a5 a6 a7 a8 a9)
theorem s_putiN {ci N j index : Nat} {C host : String} {T : u_T} (hc : vwCl[ci]? = some (C, T, N)) (hci : ci < 100) (hj : j < N) (hin : ∀ w ∈ u_ws C T N, w ∈ lw_gd) (hw : Cond.fieldLinkNest own index (T j).1 (T j).2.1 (T j).2.2.1 host ∈ lw_tbl) (hft : ft ci j = 0) (ty : Nat → FieldType) (hty : ∀ k, k < N → parseFieldDescriptor (T k).2.2.1 = some (ty k)) (hnm : ∀ a, a < N → ∀ b, b < N → a ≠ b → (T a).2.1 ≠ (T b).2.1) (hfin : (T j).2.2.2 = false) (hd2 : parseFieldDescriptor (T j).2.2.1 = some .int) (hd : decode cc pc = .ok (.putfield index, 3)) : Sim l E own nm cc nL rt fr lo lb (o_puti ci N j) pc (pc + 3) := by
  refine Sim.step fun st r h => ?_
  obtain ⟨L, S, n, hi, hl, hr0⟩ := st
  dsimp only [o_puti] at h
  split at h
  case h_2 => cases h
  rename_i x k S
  split at h
  case isFalse => cases h
  rename_i hz
  cases h
  refine ⟨_, rfl, Nat.le_refl _, fun X C hn K => ?_⟩
  obtain ⟨⟨p, e, s, m⟩, ⟨args, below, meth, c⟩, ⟨D, Ar, ad0, n0⟩, A0, vF, hF⟩ := X
  obtain ⟨hx, hb, hml, hr, hlk, hown, hts, hK, hA, hn0⟩ := C
  intro ad ls H locs a1 a2 a3 a4 a5 a6 a7 a8 a9
  have he : cnt Ar ad (n, u2 hi k j x, hl, hr0) k = .inr (ci, ((List.range N).map fun j => tr ad (fvm (n, hi, hl, hr0) k j (ft ci j))).set j (.int x)) := by
    rw [cnt_obj hz.2 hci]
    refine congrArg (fun z => (Sum.inr (ci, z) : va_E)) (List.ext_getElem? fun q => ?_)
    rw [List.getElem?_set]
    by_cases c1 : j = q
    · subst c1
      rw [if_pos rfl, rng_at hj, if_pos (by simpa using hj), hft]
      show some (Value.int (u2 hi k j x k j)) = _
      rw [u2s]
    · rw [if_neg c1]
      by_cases c2 : q < N
      · rw [rng_at c2, rng_at c2]
        unfold fvm
        dsimp only
        rw [u2o (fun z => c1 z.2.symm)]
      · simp [c2]
  refine va_putN hx hb hts hin ty hty hnm hown hK a7 a8 a9 k ((ws_at hz.1).trans (by rw [cnt_obj hz.2 hci])) hc j hj (va_Nw.use rfl (hn0.2.1.1 _ hw rfl)) (fun _ h9 => h9) hfin hd2 rfl rfl (by simpa using hj) hd (fun H1 locs1 b7 b8 b9 => ?_)
  have hE := ws_set (Ar := Ar) (ad := ad) (h := (n, hi, hl, hr0)) (h' := (n, u2 hi k j x, hl, hr0)) rfl he (fun q hq => cnt_hi (u2r hq) rfl rfl)
  have b7 := hE.subst (motive := fun z => va_P D vwCl z H1) b7
  have b8 := hE.subst (motive := fun z => va_D A0 z) b8
  exact K ad ls H1 locs1 a1 a2 a3 (vkt (vkt a4)) a5 a6 b7 b8 b9
theorem s_putr {ci N j index : Nat} {C : String} {T : u_T} (hc : vwCl[ci]? = some (C, T, N)) (hci : ci < 100) (hj : j < N) (hin : ∀ w ∈ u_ws C T N, w ∈ lw_gd) (hw : Cond.fieldLink own index (T j).1 (T j).2.1 (T j).2.2.1 ∈ lw_gd) (hft : ft ci j = 2) (ty : Nat → FieldType) (hty : ∀ k, k < N → parseFieldDescriptor (T k).2.2.1 = some (ty k)) (hnm : ∀ a, a < N → ∀ b, b < N → a ≠ b → (T a).2.1 ≠ (T b).2.1) (hfin : (T j).2.2.2 = true) (hni : nm = "<init>") (hown2 : (T j).1 = own) {ft0 : FieldType} (hd2 : parseFieldDescriptor (T j).2.2.1 = some ft0) (hnar : ∀ a, narrow ft0 (.ref a) = .ref a) (hfit : ∀ a, fits ft0 (.ref a) = true) (hd : decode cc pc = .ok (.putfield index, 3)) : Sim l E own nm cc nL rt fr lo lb (o_putr ci N j) pc (pc + 3) := by
  refine Sim.step fun st r h => ?_
  obtain ⟨L, S, n, hi, hl, hr0⟩ := st
  dsimp only [o_putr] at h
  split at h
  case h_2 => cases h
  rename_i v k S
  split at h
  case isFalse => cases h
  rename_i hz
  cases h
  refine ⟨_, rfl, Nat.le_refl _, fun X C hn K => ?_⟩
  obtain ⟨⟨p, e, s, m⟩, ⟨args, below, meth, c⟩, ⟨D, Ar, ad0, n0⟩, A0, vF, hF⟩ := X
  obtain ⟨hx, hb, hml, hr, hlk, hown, hts, hK, hA, hn0⟩ := C
  intro ad ls H locs a1 a2 a3 a4 a5 a6 a7 a8 a9
  have he : cnt Ar ad (n, hi, hl, u2 hr0 k j (some v)) k = .inr (ci, ((List.range N).map fun j => tr ad (fvm (n, hi, hl, hr0) k j (ft ci j))).set j (.ref (ad v))) := by
    rw [cnt_obj hz.1.2 hci]
    refine congrArg (fun z => (Sum.inr (ci, z) : va_E)) (List.ext_getElem? fun q => ?_)
    rw [List.getElem?_set]
    by_cases c1 : j = q
    · subst c1
      rw [if_pos rfl, rng_at hj, if_pos (by simpa using hj), hft]
      show some (tr ad (rv (u2 hr0 k j (some v) k j))) = _
      rw [u2s]
      rfl
    · rw [if_neg c1]
      by_cases c2 : q < N
      · rw [rng_at c2, rng_at c2]
        unfold fvm
        dsimp only
        rw [u2o (fun z => c1 z.2.symm)]
      · simp [c2]
  refine va_putF hx hb hts hin ty hty hnm hown hK a7 a8 a9 k ((ws_at hz.1.1).trans (by rw [cnt_obj hz.1.2 hci])) hc j hj (hts _ hw) (fun _ h9 => h9) hfin (hn0.2.2.1.trans hni) hown2 hd2 (hnar _) (hfit _) (by simpa using hj) hd (fun H1 locs1 b7 b8 b9 => ?_)
  have hE := ws_set (Ar := Ar) (ad := ad) (h := (n, hi, hl, hr0)) (h' := (n, hi, hl, u2 hr0 k j (some v))) rfl he (fun q hq => cnt_q2 (u2r hq))
  have b7 := hE.subst (motive := fun z => va_P D vwCl z H1) b7
  have b8 := hE.subst (motive := fun z => va_D A0 z) b8
  exact K ad ls H1 locs1 a1 a2 a3 (vkt (vkt a4)) (hok_u2 a5 hz.2) a6 b7 b8 b9
theorem s_qst (hd : decode cc pc = .ok (.aastore, 1)) : Sim l E own nm cc nL rt fr lo lb (o_qst) pc (pc + 1) := by
  refine Sim.step fun st r h => ?_
  obtain ⟨L, S, n, hi, hl, hr0⟩ := st
  dsimp only [o_qst] at h
  split at h
  case h_2 => cases h
  rename_i v i k S
  split at h
  case isFalse => cases h
  rename_i hz
  cases h
  refine ⟨_, rfl, Nat.le_refl _, fun X C hn K => ?_⟩
  obtain ⟨⟨p, e, s, m⟩, ⟨args, below, meth, c⟩, ⟨D, Ar, ad0, n0⟩, A0, vF, hF⟩ := X
  obtain ⟨hx, hb, hml, hr, hlk, hown, hts, hK, hA, hn0⟩ := C
  intro ad ls H locs a1 a2 a3 a4 a5 a6 a7 a8 a9
  obtain ⟨⟨z1, z2, z3, z4⟩, z5, z6⟩ := hz
  refine va_astq (r := (RX2, TX2, 7)) hx hb hK a7 a8 a9 k 3 v 2 ((ws_at z1).trans (by rw [cnt_q z2])) rfl ((ws_at z5).trans (by rw [cnt_obj z6 (by decide)])) rfl (vin_of z3 z4) hd (fun H1 locs1 b7 b8 b9 => ?_)
  have hE : (wsOf Ar ad (n, hi, hl, hr0)).set k (ad k, .inl (Ar 3, (sh k).2, .inr (.inr (.inr (.inr (va_up (fun j => (hr0 k j).map ad) i.toNatClampNeg (some (ad v)))))))) = wsOf Ar ad (n, hi, hl, u2 hr0 k i.toNatClampNeg (some v)) := by
    refine ws_set rfl ((cnt_q z2).trans ?_) (fun q hq => cnt_q2 (u2r hq))
    refine congrArg (fun z => (Sum.inl (Ar 3, (sh k).2, .inr (.inr (.inr (.inr z)))) : va_E)) (funext fun q => ?_)
    show (u2 hr0 k i.toNatClampNeg (some v) k q).map ad = va_up _ i.toNatClampNeg (some (ad v)) q
    unfold u2 va_up
    by_cases c1 : q = i.toNatClampNeg <;> simp [c1]
  have b7 := hE.subst (motive := fun z => va_P D vwCl z H1) b7
  have b8 := hE.subst (motive := fun z => va_D A0 z) b8
  exact K ad ls H1 locs1 a1 a2 a3 (vkt (vkt (vkt a4))) (hok_u2 a5 z5) a6 b7 b8 b9
theorem grow_go {X : Cxt} {pc' : Nat} {L S : List Value} {h : Hp} (K : Wx l nL fr lo pc' (L, .ref h.1 :: S, grow h) X) : ∀ (p : Program) (e : Env) (s : State) (m : MethodId) (args : Array Value) (below : List Frame) (meth : Method) (c : Code) (D : va_G) (Ar : Nat → ClassId) (ad0 : Nat → Nat) (n0 : Nat) (A0 : Addr → Prop) (vF : Option Value) (hF : Hp), X = ((p, e, s, m), (args, below, meth, c), (D, Ar, ad0, n0), A0, vF, hF) →
    ∀ (ad : Nat → Nat) (ls : Array Slot) (H1 : Heap) (locs : List Loc) (q : Nat) (ce : va_E), (∀ k, k < n0 → ad k = ad0 k) → n0 ≤ h.1 → Vok h.1 L → Vok h.1 S → Hok h → lv_has ls nL (lvOf ad L) → cnt Ar (fun k => if k = h.1 then q else ad k) (grow h) h.1 = ce →
      va_P D vwCl (wsOf Ar ad h ++ [(q, ce)]) H1 → va_D A0 (wsOf Ar ad h ++ [(q, ce)]) → va_S A0 s.heap H1 locs → 
      W p l e { frames := fr, cells := hF.1 - n0, slots := slo hF.1 - slo n0, locals := lo } s m args below meth c H1 locs (h.1 - n0 + 1) (slo h.1 - slo n0 + (sh h.1).2) (MQ below (Qm D Ar ad0 n0 vF hF A0) args s (hF.1 - n0) (slo hF.1 - slo n0) A0) (F0 m pc' ls (.ref q :: S.map (tr ad))) := by
  intro p e s m args below meth c D Ar ad0 n0 A0 vF hF hX ad ls H1 locs q ce a1 a2 a3 a4 a5 a6 he hP hD hS
  subst hX
  have agr : ∀ k, k < h.1 → (fun k => if k = h.1 then q else ad k) k = ad k := fun k hk => by simp [show k ≠ h.1 by omega]
  rw [← ws_push a5 he] at hP hD
  have G := K _ ls H1 locs (fun k hk => (agr k (by omega)).trans (a1 k hk)) (Nat.le_succ_of_le a2) (vok_le (Nat.le_succ _) a3) (vkc (Nat.lt_succ_self _) (vok_le (Nat.le_succ _) a4)) (hok_grow a5) (lvOf_eq agr a3 a6) hP hD hS
  have hst : (Value.ref h.1 :: S).map (tr fun k => if k = h.1 then q else ad k) = .ref q :: S.map (tr ad) := by
    rw [List.map_cons, tr_eqL agr a4]
    simp [tr]
  dsimp only at G
  rw [hst] at G
  have s1 := slo_mono a2
  rw [show (grow h).1 - n0 = h.1 - n0 + 1 by show h.1 + 1 - n0 = _; omega, show slo (grow h).1 - slo n0 = slo h.1 - slo n0 + (sh h.1).2 by show slo h.1 + _ - _ = _; omega] at G
  exact G
theorem s_new {ci N index : Nat} {C : String} {T : u_T} (hc : vwCl[ci]? = some (C, T, N)) (hci : ci < 100) (hin : ∀ w ∈ u_ws C T N, w ∈ lw_gd) (ty : Nat → FieldType) (hty : ∀ k, k < N → parseFieldDescriptor (T k).2.2.1 = some (ty k)) (hdf : ∀ j, j < N → defaultValue (ty j) = (if ft ci j = 0 then .int 0 else if ft ci j = 1 then .long 0 else .null))
    (w1 : Cond.classLink own index C ∈ lw_gd) (w2 : Cond.instantiable C N ∈ lw_gd) (w3 : Cond.initialized C ∈ lw_gd) (hd : decode cc pc = .ok (.new index, 3)) : Sim l E own nm cc nL rt fr lo lb (o_new ci N) pc (pc + 3) := by
  refine Sim.step fun st r h => ?_
  obtain ⟨L, S, n⟩ := st
  dsimp only [o_new] at h
  split at h
  case isFalse => cases h
  rename_i hz
  cases h
  refine ⟨_, rfl, Nat.le_succ _, fun X C hn K => ?_⟩
  obtain ⟨⟨p, e, s, m⟩, ⟨args, below, meth, c⟩, ⟨D, Ar, ad0, n0⟩, A0, vF, hF⟩ := X
  have GG := grow_go (l := l) (nL := nL) (fr := fr) (lo := lo) K p e s m args below meth c D Ar ad0 n0 A0 vF hF rfl
  obtain ⟨hx, hb, hml, hr, hlk, hown, hts, hK, hA, hn0⟩ := C
  intro ad ls H locs a1 a2 a3 a4 a5 a6 a7 a8 a9
  change n.1 + 1 ≤ hF.1 at hn
  change n0 ≤ n.1 at a2
  have s1 := slo_mono hn
  have s2 := slo_mono a2
  have s3 : slo (n.1 + 1) = slo n.1 + N := by show slo n.1 + (sh n.1).2 = _; rw [hz]
  refine va_new (ci := ci) (fs := (List.range N).map fun j => if ft ci j = 0 then .int 0 else if ft ci j = 1 then .long 0 else .null) hx hb hts hin ty hty hown (hts _ w1) (hts _ w2) (hts _ w3) hK a7 a8 a9 hA hc (fun j hj => ?_) (by show n.1 - n0 + 1 ≤ hF.1 - n0; omega) (by show slo n.1 - slo n0 + N ≤ slo hF.1 - slo n0; omega) hd (fun q H1 b7 b8 b9 => ?_)
  · rw [hdf j hj]; simp [vp_V, hj]
  · have G := GG ad ls H1 locs q _ a1 a2 a3 a4 a5 a6 (by
      rw [cnt_obj hz hci]
      refine congrArg (fun z => (Sum.inr (ci, z) : va_E)) (List.map_congr_left fun j _ => ?_)
      unfold fvm grow
      simp only [if_true]
      by_cases c1 : ft ci j = 0
      · simp [c1, tr]
      · by_cases c2 : ft ci j = 1
        · simp [c2, tr]
        · simp [c1, c2, tr, rv]) b7 b8 b9
    rw [hz] at G
    exact G
theorem ra_int {s : State} {cA cB : ClassId} {ty : FieldType} (h1 : s.vm.findClass ("[" ++ ty.toString) = some cA) (h2 : s.vm.findClass ("[" ++ ty.toString) = some cB) : cA = cB := Option.some.inj (h1.symm.trans h2)
theorem s_newi (w1 : Cond.arrayClass (newarray.typeOf .int) ∈ lw_gd) (hd : decode cc pc = .ok (.newarray .int, 2)) : Sim l E own nm cc nL rt fr lo lb (o_newa 100) pc (pc + 2) := by
  refine Sim.step fun st r h => ?_
  obtain ⟨L, S, n⟩ := st
  dsimp only [o_newa] at h
  split at h
  case h_2 => cases h
  rename_i x S
  split at h
  case isFalse => cases h
  rename_i hz
  cases h
  refine ⟨_, rfl, Nat.le_succ _, fun X C hn K => ?_⟩
  obtain ⟨⟨p, e, s, m⟩, ⟨args, below, meth, c⟩, ⟨D, Ar, ad0, n0⟩, A0, vF, hF⟩ := X
  have GG := grow_go (l := l) (nL := nL) (fr := fr) (lo := lo) K p e s m args below meth c D Ar ad0 n0 A0 vF hF rfl
  obtain ⟨hx, hb, hml, hr, hlk, hown, hts, hK, hA, hn0⟩ := C
  intro ad ls H locs a1 a2 a3 a4 a5 a6 a7 a8 a9
  change n.1 + 1 ≤ hF.1 at hn
  change n0 ≤ n.1 at a2
  have s1 := slo_mono hn
  have s2 := slo_mono a2
  have s3 : slo (n.1 + 1) = slo n.1 + (sh n.1).2 := rfl
  refine va_newa (ty := .int) (a0 := ((sh n.1).2, .inl (fun _ => 0))) hx hb (hts _ w1) rfl hK a7 a8 a9 hA (fun cA => rfl) (nlt0 hz.2.1) hz.2.2.1 (by have := hz.2.2.2; show _ * 4 ≤ _; omega) (by show n.1 - n0 + 1 ≤ hF.1 - n0; omega) (by show slo n.1 - slo n0 + (sh n.1).2 ≤ slo hF.1 - slo n0; omega) hd (fun q cA H1 b0 b7 b8 b9 => ?_)
  have hcA : cA = Ar 0 := by
    have z1 := (b0.2 4 _ rfl).2
    have z2 := (hK.2 0 _ rfl).2
    exact ra_int (ty := .int) z1 z2
  subst hcA
  exact GG ad ls H1 locs q _ a1 a2 a3 (vkt a4) a5 a6 (by
      rw [cnt_i hz.1]
      refine congrArg (fun z => (Sum.inl (Ar 0, (sh n.1).2, .inl z) : va_E)) (funext fun j => ?_)
      simp [grow]) b7 b8 b9
theorem s_newl (w1 : Cond.arrayClass (newarray.typeOf .long) ∈ lw_gd) (hd : decode cc pc = .ok (.newarray .long, 2)) : Sim l E own nm cc nL rt fr lo lb (o_newa 101) pc (pc + 2) := by
  refine Sim.step fun st r h => ?_
  obtain ⟨L, S, n⟩ := st
  dsimp only [o_newa] at h
  split at h
  case h_2 => cases h
  rename_i x S
  split at h
  case isFalse => cases h
  rename_i hz
  cases h
  refine ⟨_, rfl, Nat.le_succ _, fun X C hn K => ?_⟩
  obtain ⟨⟨p, e, s, m⟩, ⟨args, below, meth, c⟩, ⟨D, Ar, ad0, n0⟩, A0, vF, hF⟩ := X
  have GG := grow_go (l := l) (nL := nL) (fr := fr) (lo := lo) K p e s m args below meth c D Ar ad0 n0 A0 vF hF rfl
  obtain ⟨hx, hb, hml, hr, hlk, hown, hts, hK, hA, hn0⟩ := C
  intro ad ls H locs a1 a2 a3 a4 a5 a6 a7 a8 a9
  change n.1 + 1 ≤ hF.1 at hn
  change n0 ≤ n.1 at a2
  have s1 := slo_mono hn
  have s2 := slo_mono a2
  have s3 : slo (n.1 + 1) = slo n.1 + (sh n.1).2 := rfl
  refine va_newa (ty := .long) (a0 := ((sh n.1).2, .inr (.inl (fun _ => 0)))) hx hb (hts _ w1) rfl hK a7 a8 a9 hA (fun cA => rfl) (nlt0 hz.2.1) hz.2.2.1 (by have := hz.2.2.2; show _ * 8 ≤ _; omega) (by show n.1 - n0 + 1 ≤ hF.1 - n0; omega) (by show slo n.1 - slo n0 + (sh n.1).2 ≤ slo hF.1 - slo n0; omega) hd (fun q cA H1 b0 b7 b8 b9 => ?_)
  have hcA : cA = Ar 1 := by
    have z1 := (b0.2 4 _ rfl).2
    have z2 := (hK.2 1 _ rfl).2
    exact ra_int (ty := .long) z1 z2
  subst hcA
  exact GG ad ls H1 locs q _ a1 a2 a3 (vkt a4) a5 a6 (by
      rw [cnt_l hz.1]
      refine congrArg (fun z => (Sum.inl (Ar 1, (sh n.1).2, .inr <| .inl z) : va_E)) (funext fun j => ?_)
      simp [grow]) b7 b8 b9
theorem s_newz (w1 : Cond.arrayClass (newarray.typeOf .boolean) ∈ lw_gd) (hd : decode cc pc = .ok (.newarray .boolean, 2)) : Sim l E own nm cc nL rt fr lo lb (o_newa 102) pc (pc + 2) := by
  refine Sim.step fun st r h => ?_
  obtain ⟨L, S, n⟩ := st
  dsimp only [o_newa] at h
  split at h
  case h_2 => cases h
  rename_i x S
  split at h
  case isFalse => cases h
  rename_i hz
  cases h
  refine ⟨_, rfl, Nat.le_succ _, fun X C hn K => ?_⟩
  obtain ⟨⟨p, e, s, m⟩, ⟨args, below, meth, c⟩, ⟨D, Ar, ad0, n0⟩, A0, vF, hF⟩ := X
  have GG := grow_go (l := l) (nL := nL) (fr := fr) (lo := lo) K p e s m args below meth c D Ar ad0 n0 A0 vF hF rfl
  obtain ⟨hx, hb, hml, hr, hlk, hown, hts, hK, hA, hn0⟩ := C
  intro ad ls H locs a1 a2 a3 a4 a5 a6 a7 a8 a9
  change n.1 + 1 ≤ hF.1 at hn
  change n0 ≤ n.1 at a2
  have s1 := slo_mono hn
  have s2 := slo_mono a2
  have s3 : slo (n.1 + 1) = slo n.1 + (sh n.1).2 := rfl
  refine va_newa (ty := .boolean) (a0 := ((sh n.1).2, .inl (fun _ => 0))) hx hb (hts _ w1) rfl hK a7 a8 a9 hA (fun cA => rfl) (nlt0 hz.2.1) hz.2.2.1 (by have := hz.2.2.2; show _ * 1 ≤ _; omega) (by show n.1 - n0 + 1 ≤ hF.1 - n0; omega) (by show slo n.1 - slo n0 + (sh n.1).2 ≤ slo hF.1 - slo n0; omega) hd (fun q cA H1 b0 b7 b8 b9 => ?_)
  have hcA : cA = Ar 2 := by
    have z1 := (b0.2 4 _ rfl).2
    have z2 := (hK.2 2 _ rfl).2
    exact ra_int (ty := .boolean) z1 z2
  subst hcA
  exact GG ad ls H1 locs q _ a1 a2 a3 (vkt a4) a5 a6 (by
      rw [cnt_z hz.1]
      refine congrArg (fun z => (Sum.inl (Ar 2, (sh n.1).2, .inl z) : va_E)) (funext fun j => ?_)
      simp [grow]) b7 b8 b9
theorem s_newq {index : Nat} (w1 : Cond.classLink own index RX2 ∈ lw_gd) (hd : decode cc pc = .ok (.anewarray index, 3)) : Sim l E own nm cc nL rt fr lo lb (o_newa 103) pc (pc + 3) := by
  refine Sim.step fun st r h => ?_
  obtain ⟨L, S, n⟩ := st
  dsimp only [o_newa] at h
  split at h
  case h_2 => cases h
  rename_i x S
  split at h
  case isFalse => cases h
  rename_i hz
  cases h
  refine ⟨_, rfl, Nat.le_succ _, fun X C hn K => ?_⟩
  obtain ⟨⟨p, e, s, m⟩, ⟨args, below, meth, c⟩, ⟨D, Ar, ad0, n0⟩, A0, vF, hF⟩ := X
  have GG := grow_go (l := l) (nL := nL) (fr := fr) (lo := lo) K p e s m args below meth c D Ar ad0 n0 A0 vF hF rfl
  obtain ⟨hx, hb, hml, hr, hlk, hown, hts, hK, hA, hn0⟩ := C
  intro ad ls H locs a1 a2 a3 a4 a5 a6 a7 a8 a9
  change n.1 + 1 ≤ hF.1 at hn
  change n0 ≤ n.1 at a2
  have s1 := slo_mono hn
  have s2 := slo_mono a2
  have s3 : slo (n.1 + 1) = slo n.1 + (sh n.1).2 := rfl
  refine va_newq (N' := (sh n.1).2) hx hb hown (hts _ w1) hn0.2.1.2 hK a7 a8 a9 hA (nlt0 hz.2.1) hz.2.2.1 (by have := hz.2.2.2; omega) (by show n.1 - n0 + 1 ≤ hF.1 - n0; omega) (by show slo n.1 - slo n0 + (sh n.1).2 ≤ slo hF.1 - slo n0; omega) hd (fun q cA H1 b0 b7 b8 b9 => ?_)
  have hcA : cA = Ar 3 := by
    obtain ⟨_, _, _, _, _, z1⟩ := (b0.2 4 _ rfl).2
    obtain ⟨_, _, _, _, _, z2⟩ := (hK.2 3 _ rfl).2
    exact ra_int (ty := .object RX2) z1 z2
  subst hcA
  exact GG ad ls H1 locs q _ a1 a2 a3 (vkt a4) a5 a6 (by
      rw [cnt_q hz.1]
      refine congrArg (fun z => (Sum.inl (Ar 3, (sh n.1).2, .inr (.inr (.inr (.inr z)))) : va_E)) (funext fun j => ?_)
      simp [grow]) b7 b8 b9
theorem s_oini {index : Nat} (hfr : 1 ≤ fr) (hlo : 20 ≤ lo) (w1 : Cond.methodLink own index Lib.objectInit ∈ lw_gd) (w2 : Cond.instanceMethod Lib.objectInit ∈ lw_gd) (w3 : Cond.code Lib.objectInit ⟨#[0xb1]⟩ 1 none ∈ lw_gd) (hd : decode cc pc = .ok (.invokespecial index, 3)) : Sim l E own nm cc nL rt fr lo lb (o_oini) pc (pc + 3) := by
  refine Sim.step fun st r h => ?_
  obtain ⟨L, S, n, hi, hl, hr0⟩ := st
  dsimp only [o_oini] at h
  split at h
  case h_2 => cases h
  rename_i k S
  split at h
  case isFalse => cases h
  rename_i hz
  cases h
  refine ⟨_, rfl, Nat.le_refl _, fun X C hn K => ?_⟩
  obtain ⟨⟨p, e, s, m⟩, ⟨args, below, meth, c⟩, ⟨D, Ar, ad0, n0⟩, A0, vF, hF⟩ := X
  obtain ⟨hx, hb, hml, hr, hlk, hown, hts, hK, hA, hn0⟩ := C
  intro ad ls H locs a1 a2 a3 a4 a5 a6 a7 a8 a9
  have hcs := catsum (ad := ad) hz
  refine W.objInit hx hb hown (hts _ w1) (hts _ w2) (hts _ w3) rfl (a6.1.trans hml.symm) rfl hd hfr (by show 2 * 0 + _ + 12 ≤ lo; omega) ?_
  exact K ad ls H locs a1 a2 a3 (vkt a4) a5 a6 a7 a8 a9
theorem s_callI {index k fr' lo' maxL : Nat} {bytes : ByteArray} {y : MethodName} {f : Mt} (hM : Ct l y bytes maxL none fr' lo' f)
    (w1 : Cond.methodLink own index y ∈ lw_gd) (w2 : Cond.instanceMethod y ∈ lw_gd) (w4 : Cond.initialized y.cls ∈ lw_gd) (w5 : Cond.code y bytes maxL none ∈ lw_gd) (hyn : y.name = "<init>")
    (hd2 : y.cls ≠ "java/lang/invoke/MethodHandle" ∧ y.cls ≠ "java/lang/invoke/VarHandle" ∧ (parseMethodDescriptor y.desc).map (fun d => d.parameters.length) = some k) (hR : fr' + 1 ≤ fr ∧ 8 + (maxL + 11) + lo' ≤ lo)
    (hd : decode cc pc = .ok (.invokespecial index, 3)) : Sim l E own nm cc nL rt fr lo lb (o_callI k f) pc (pc + 3) := by
  intro st r h
  obtain ⟨L, S, n⟩ := st
  unfold o_callI at h
  dsimp only at h
  split at h
  case h_2 => cases h
  rename_i q hq
  obtain ⟨z1, z2, v, h', e1, rfl⟩ := o_call_inv h
  have hm1 : n.1 ≤ h'.1 := (hM default default id n _ v h' 0 e1).1
  refine ⟨hm1, fun X C0 hn K => call_go (k := k + 1) (f := f) C0 hm1 hn K ?_⟩
  intro p e s m args below meth c D Ar ad0 n0 A0 vF hF hX ad ls H locs a2 a4 a5 a6 a7 a8 a9 hle
  subst hX
  obtain ⟨hx, hb, hml, hr, hlk, hown, hts, hK, hA, hn0⟩ := C0
  have hMet := (hM D Ar ad n _ v h' H.size e1).2
  have hav : (S.take (k + 1)).reverse = .ref q :: ((S.take k).reverse) := by
    have hk : k < S.length := z1
    rw [List.take_succ_eq_append_getElem hk, List.reverse_append]
    have : S[k] = .ref q := by rw [← hq]; simp [List.getD_eq_getElem?_getD, hk]
    rw [this]; rfl
  have hst : S.map (tr ad) = (((S.take k).reverse).map (tr ad)).reverse ++ .ref (ad q) :: (S.drop (k + 1)).map (tr ad) := by
    conv => lhs; rw [split_st z1]
    rw [hav]
    simp [tr]
  have hpre := pre_at (av := (S.take (k + 1)).reverse) a7 hK a8 (vok_take a4) a5 hn0.2.1
  rw [hav] at hMet hpre ⊢
  have s1 := slo_mono a2
  have s2 := slo_mono hm1
  have s3 := slo_mono hle
  refine va_runI (As := ((S.take k).reverse).map (tr ad)) (rest := (S.drop (k + 1)).map (tr ad)) ⟨hx, hb, hml, hown, hts⟩ hMet ⟨callB_of k hts (goodIn_tbl (fun w hw => ?_)) rfl rfl rfl (hts _ w4) (hts _ w1) hd2 hR, hyn, hts _ w2⟩ ⟨pre_blind, hpre⟩ rfl (by simp; omega) a6.1 hst (lv_room (catsum z2)) hd ⟨?_, ?_⟩
  · rcases List.mem_cons.mp hw with rfl | hw
    · exact w5
    · exact hw
  · show n.1 - n0 + (h'.1 - n.1) ≤ hF.1 - n0
    omega
  · show slo n.1 - slo n0 + (slo h'.1 - slo n.1) ≤ slo hF.1 - slo n0
    omega
theorem s_callIN {index k fr' lo' maxL : Nat} {bytes : ByteArray} {y : MethodName} {host : String} {f : Mt} (hM : Ct l y bytes maxL none fr' lo' f)
    (w1 : Cond.methodLinkNest own index y host ∈ lw_tbl) (w2 : Cond.instanceMethod y ∈ lw_gd) (w4 : Cond.initialized y.cls ∈ lw_gd) (w5 : Cond.code y bytes maxL none ∈ lw_gd) (hyn : y.name = "<init>")
    (hd2 : y.cls ≠ "java/lang/invoke/MethodHandle" ∧ y.cls ≠ "java/lang/invoke/VarHandle" ∧ (parseMethodDescriptor y.desc).map (fun d => d.parameters.length) = some k) (hR : fr' + 1 ≤ fr ∧ 8 + (maxL + 11) + lo' ≤ lo)
    (hd : decode cc pc = .ok (.invokespecial index, 3)) : Sim l E own nm cc nL rt fr lo lb (o_callI k f) pc (pc + 3) := by
  intro st r h
  obtain ⟨L, S, n⟩ := st
  unfold o_callI at h
  dsimp only at h
  split at h
  case h_2 => cases h
  rename_i q hq
  obtain ⟨z1, z2, v, h', e1, rfl⟩ := o_call_inv h
  have hm1 : n.1 ≤ h'.1 := (hM default default id n _ v h' 0 e1).1
  refine ⟨hm1, fun X C0 hn K => call_go (k := k + 1) (f := f) C0 hm1 hn K ?_⟩
  intro p e s m args below meth c D Ar ad0 n0 A0 vF hF hX ad ls H locs a2 a4 a5 a6 a7 a8 a9 hle
  subst hX
  obtain ⟨hx, hb, hml, hr, hlk, hown, hts, hK, hA, hn0⟩ := C0
  have hMet := (hM D Ar ad n _ v h' H.size e1).2
  have hav : (S.take (k + 1)).reverse = .ref q :: ((S.take k).reverse) := by
    have hk : k < S.length := z1
    rw [List.take_succ_eq_append_getElem hk, List.reverse_append]
    have : S[k] = .ref q := by rw [← hq]; simp [List.getD_eq_getElem?_getD, hk]
    rw [this]; rfl
  have hst : S.map (tr ad) = (((S.take k).reverse).map (tr ad)).reverse ++ .ref (ad q) :: (S.drop (k + 1)).map (tr ad) := by
    conv => lhs; rw [split_st z1]
    rw [hav]
    simp [tr]
  have hpre := pre_at (av := (S.take (k + 1)).reverse) a7 hK a8 (vok_take a4) a5 hn0.2.1
  rw [hav] at hMet hpre ⊢
  have s1 := slo_mono a2
  have s2 := slo_mono hm1
  have s3 := slo_mono hle
  refine va_runIN (As := ((S.take k).reverse).map (tr ad)) (rest := (S.drop (k + 1)).map (tr ad)) ⟨hx, hb, hml, hown, hts⟩ hMet ⟨va_cnB k hts (goodIn_tbl (fun w hw => ?_)) rfl rfl rfl (hn0.2.1.1 _ w1 rfl) (hts _ w4) hd2 hR, hyn, hts _ w2⟩ ⟨pre_blind, hpre⟩ rfl (by simp; omega) a6.1 hst (lv_room (catsum z2)) hd ⟨?_, ?_⟩
  · rcases List.mem_cons.mp hw with rfl | hw
    · exact w5
    · exact hw
  · show n.1 - n0 + (h'.1 - n.1) ≤ hF.1 - n0
    omega
  · show slo n.1 - slo n0 + (slo h'.1 - slo n.1) ≤ slo hF.1 - slo n0
    omega
def swok (pc : Nat) (offs : Array Int) (lb tg : List Nat) (d n : Nat) : Bool := (List.range n).all fun j => match offs[j]?, lb[tg.getD j d]? with
  | some off, some t => decide ((pc : Int) + off = (t : Int))
  | _, _ => false
theorem swok_spec {pc : Nat} {offs : Array Int} {lb tg : List Nat} {d n : Nat} (h : swok pc offs lb tg d n = true) (j : Nat) (hj : j < n) : ∃ off t, offs[j]? = some off ∧ lb[tg.getD j d]? = some t ∧ (pc : Int) + off = (t : Int) := by
  have h1 := List.all_eq_true.mp h j (List.mem_range.mpr hj)
  split at h1
  · next off t e1 e2 => exact ⟨off, t, e1, e2, of_decide_eq_true h1⟩
  · cases h1
theorem s_tsw {dflt a b : Int} {offs : Array Int} {len d : Nat} {tg : List Nat} (hd : decode cc pc = .ok (.tableswitch dflt a b offs, len)) (hd0 : ∃ t, lb[d]? = some t ∧ (pc : Int) + dflt = (t : Int))
    (hab0 : swok pc offs lb tg d (b - a + 1).toNat = true) {pc' : Nat} : Sim l E own nm cc nL rt fr lo lb (o_tsw a b tg d) pc pc' := by
  intro st r h
  obtain ⟨L, S, hp⟩ := st
  dsimp only [o_tsw] at h
  split at h
  case h_2 => cases h
  rename_i x S
  split at h
  · next q =>
    cases h
    refine ⟨Nat.le_refl _, fun X C hn K => ?_⟩
    obtain ⟨t, ht2, K⟩ := K
    obtain ⟨t', h1, h2⟩ := hd0
    cases h1.symm.trans ht2
    obtain ⟨⟨p, e, s, m⟩, ⟨args, below, meth, c⟩, ⟨D, Ar, ad0, n0⟩, A0, vF, hF⟩ := X
    obtain ⟨hx, hb, hml, hr, hlk, hown, hts, hK, hA, hn0⟩ := C
    intro ad ls H locs a1 a2 a3 a4 a5 a6 a7 a8 a9
    exact lv_tableOut hx hb hd q h2 (K ad ls H locs a1 a2 a3 (vkt a4) a5 a6 a7 a8 a9)
  · next q =>
    cases h
    refine ⟨Nat.le_refl _, fun X C hn K => ?_⟩
    obtain ⟨t, ht2, K⟩ := K
    obtain ⟨off, t', h1, h2, h3⟩ := swok_spec hab0 (x.toInt - a).toNat (by omega)
    cases h2.symm.trans ht2
    obtain ⟨⟨p, e, s, m⟩, ⟨args, below, meth, c⟩, ⟨D, Ar, ad0, n0⟩, A0, vF, hF⟩ := X
    obtain ⟨hx, hb, hml, hr, hlk, hown, hts, hK, hA, hn0⟩ := C
    intro ad ls H locs a1 a2 a3 a4 a5 a6 a7 a8 a9
    exact lv_tableIn hx hb hd (fun z => q (Or.inl z)) (fun z => q (Or.inr z)) h1 h3 (K ad ls H locs a1 a2 a3 (vkt a4) a5 a6 a7 a8 a9)
theorem s_aloadS {k : Fin 4} {i : Nat} (hi : (k : Nat) = i) (hd : decode cc pc = .ok (.aload_n k, 1)) : Sim l E own nm cc nL rt fr lo lb (o_aloadS i) pc (pc + 1) := by
  refine Sim.step fun st r h => ?_
  obtain ⟨L, S, hp⟩ := st
  dsimp only [o_aloadS] at h
  split at h
  case h_2 => cases h
  rename_i x he
  cases h
  refine ⟨_, rfl, Nat.le_refl _, fun X C hn K => ?_⟩
  obtain ⟨⟨p, e, s, m⟩, ⟨args, below, meth, c⟩, ⟨D, Ar, ad0, n0⟩, A0, vF, hF⟩ := X
  obtain ⟨hx, hb, hml, hr, hlk, hown, hts, hK, hA, hn0⟩ := C
  intro ad ls H locs a1 a2 a3 a4 a5 a6 a7 a8 a9
  exact lv_aload_n hx hb hd hi (lvL a6 he (by simp)) (K ad ls H locs a1 a2 a3 (vkc trivial a4) a5 a6 a7 a8 a9)
theorem s_sld {b Ln : Nat} {xs : Nat → Int32} (hd : decode cc pc = .ok (.iaload, 1)) : Sim l (Esc b Ln xs) own nm cc nL rt fr lo lb (o_sld b Ln xs) pc (pc + 1) := by
  refine Sim.step fun st r h => ?_
  obtain ⟨L, S, hp⟩ := st
  dsimp only [o_sld] at h
  split at h
  case h_2 => cases h
  rename_i i a S
  split at h
  case isFalse => cases h
  rename_i hz
  cases h
  refine ⟨_, rfl, Nat.le_refl _, fun X C hn K => ?_⟩
  obtain ⟨⟨p, e, s, m⟩, ⟨args, below, meth, c⟩, ⟨D, Ar, ad0, n0⟩, A0, vF, hF⟩ := X
  obtain ⟨hx, hb, hml, hr, hlk, hown, hts, hK, hA, hn0⟩ := C
  obtain ⟨hX, hbl, hbA⟩ := hn0.2.2.2
  intro ad ls H locs a1 a2 a3 a4 a5 a6 a7 a8 a9
  obtain ⟨rfl, hz1, hz2⟩ := hz
  exact va_sld hx hb hX hbl hbA a9 (vin_of hz1 hz2) hd (K ad ls H locs a1 a2 a3 (vkc trivial (vkt (vkt a4))) a5 a6 a7 a8 a9)
theorem s_slen {b Ln : Nat} {xs : Nat → Int32} (hd : decode cc pc = .ok (.arraylength, 1)) : Sim l (Esc b Ln xs) own nm cc nL rt fr lo lb (o_slen b Ln) pc (pc + 1) := by
  refine Sim.step fun st r h => ?_
  obtain ⟨L, S, hp⟩ := st
  dsimp only [o_slen] at h
  split at h
  case h_2 => cases h
  rename_i a S
  split at h
  case isFalse => cases h
  rename_i hz
  cases h
  refine ⟨_, rfl, Nat.le_refl _, fun X C hn K => ?_⟩
  obtain ⟨⟨p, e, s, m⟩, ⟨args, below, meth, c⟩, ⟨D, Ar, ad0, n0⟩, A0, vF, hF⟩ := X
  obtain ⟨hx, hb, hml, hr, hlk, hown, hts, hK, hA, hn0⟩ := C
  obtain ⟨hX, hbl, hbA⟩ := hn0.2.2.2
  intro ad ls H locs a1 a2 a3 a4 a5 a6 a7 a8 a9
  subst hz
  exact va_slen hx hb hX hbl hbA a9 hd (K ad ls H locs a1 a2 a3 (vkc trivial (vkt a4)) a5 a6 a7 a8 a9)
end MoreS
