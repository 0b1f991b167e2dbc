/-! From the law's meaning to the law's walk. -/
def h00 : Hp := (0, fun _ _ => 0, fun _ _ => 0, fun _ _ => none)
theorem room_le {s : State} {pl : Platform} {r r' : Room} (hf : r.frames ≤ r'.frames) (hl : r.locals ≤ r'.locals) (hc : r.cells ≤ r'.cells) (hs : r.slots ≤ r'.slots) (h : s.hasRoom pl r' = true) : s.hasRoom pl r = true := by
  simp only [State.hasRoom, Bool.and_eq_true, decide_eq_true_eq] at h ⊢
  obtain ⟨⟨⟨⟨y, a, b, c, d, e⟩, f⟩, g⟩, i⟩ := h
  exact ⟨⟨⟨⟨by omega, by omega, by omega, by omega, by omega, e⟩, by omega⟩, by omega⟩, i⟩
theorem W.room {p : Program} {l : Launch} {e : Env} {R R' : Room} {s : State} {m : MethodId} {args : Array Value} {below : List Frame} {meth : Method} {c : Code} {H : Heap} {locs : List Loc} {cells slots : Nat} {Q : State → Prop} {g : JFrame}
    (hf : R.frames ≤ R'.frames) (hl : R.locals ≤ R'.locals) (hc : R.cells ≤ R'.cells) (hs : R.slots ≤ R'.slots) (k : W p l e R s m args below meth c H locs cells slots Q g) : W p l e R' s m args below meth c H locs cells slots Q g := by
  intro T hT X
  obtain ⟨x1, x2, x3, x4, x5, x6, x7, x8, x9, x10, x11, x12, x13, x14⟩ := X
  exact k T hT ⟨x1, x2, x3, x4, room_le hf hl hc hs x5, x6, x7, x8, x9, x10, x11, x12, x13, x14⟩
theorem W.post {p : Program} {l : Launch} {e : Env} {R : Room} {s : State} {m : MethodId} {args : Array Value} {below : List Frame} {meth : Method} {c : Code} {H : Heap} {locs : List Loc} {cells slots : Nat} {Q Q' : State → Prop} {g : JFrame}
    (h : ∀ t, Q t → Q' t) (k : W p l e R s m args below meth c H locs cells slots Q g) : W p l e R s m args below meth c H locs cells slots Q' g := by
  intro T hT X
  obtain ⟨t, a1, b1⟩ := k T hT X
  exact ⟨t, a1, h t b1⟩
theorem same_forget {s t : State} {L : List Loc} {k n : Nat} (hL : ∀ q ∈ L, s.heap.size ≤ q.base) (h : s.sameButNew t L k n) : s.sameButNew t [] k n := by
  obtain ⟨h1, h2, h3, h4, h5, h6⟩ := h
  refine ⟨h1, h2, h3, h4, h5, fun a c hc => ?_⟩
  obtain ⟨c', e1, e2, e3, e4⟩ := h6 a c hc
  refine ⟨c', e1, e2, e3, fun i _ => e4 i fun hm => ?_⟩
  have := hL _ hm
  have h9 := (Array.getElem?_eq_some_iff.mp hc).1
  exact absurd h9 (Nat.not_lt.mpr this)
theorem law_words : ∀ w, w ∈ lw_gd → w ∈ lw_tbl := fun w hw => (List.mem_filter.mp hw).1
def ad_law : Nat → Nat := id
theorem sh2 {k : Nat} (h : 55 < k) : (sh k).2 = 64 := by rw [sh_row h]
theorem slo_row (j : Nat) : slo (56 + j) = slo 56 + 64 * j := by
  induction j with
  | zero => rfl
  | succ j ih => show slo (56 + j) + (sh (56 + j)).2 = _; rw [ih, sh2 (by omega)]; omega
theorem slo_56 : slo 56 ≤ 200000 := by decide +kernel
theorem slo_room {n : Nat} (h : n ≤ 64060) : slo n ≤ 7302250 := by
  have h1 := slo_mono (show n ≤ 56 + 64004 by omega)
  have h2 := slo_row 64004
  have h3 := slo_56
  omega
set_option maxRecDepth 100000 in
set_option maxHeartbeats 4000000 in
theorem whole_of (hpure : ∀ (b Ln : Nat) (xs : Nat → Int32), Ln ≤ 260 → ∃ h', b_L_law b Ln xs (locsOf 21 [.retAddr b], [], h00) = some (.inr (.inr (some (.int 1), h'))) ∧ h'.1 ≤ 64060)
    {p : Program} {e : Env} {s : State} {m : MethodId} {below : List Frame} {meth : Method} {c : Code} (l : Launch) {b L : Nat} {xs : Nat → Int32} (hL : L ≤ 260)
    (hx : p.tables.exec = Jvm.exec) (hb : c.code = code) (hr : meth.sig.returnType = ret) (hml : c.maxLocals = 21) (hown : s.vm.findClass RL = some m.cls) (hts : ∀ w ∈ lw_tbl, w.before #[Value.ref b] s = true) (hX : va_X b L xs s s.heap) (hbl : b < s.heap.size) (hlocks : meth.locks = false) :
    W p l e room_1 s m #[Value.ref b] below meth c s.heap [] 0 0 (fun t => ∃ o, t.status = .running ∧ Ended t below o ∧ o = .returned (some (.int 1)) ∧ Framed s o t [] 600000 7302250) (entryFrame m ([Value.ref b] : List Value).toArray 21) := by
  obtain ⟨h', hp, hn⟩ := hpure b L xs hL
  have hgd : ∀ w ∈ lw_gd, w.before #[Value.ref b] s = true := fun w hw => hts w (law_words w hw)
  obtain ⟨c0, i0, k0⟩ := u_known (C := RX0) (T := TX0) (N := 3) (n := 3) hgd inG0 (hgd (.instantiable RX0 3) kI0)
  obtain ⟨c1, i1, k1⟩ := u_known (C := RX1) (T := TX1) (N := 10) (n := 10) hgd inG1 (hgd (.instantiable RX1 10) kI1)
  obtain ⟨c2, i2, k2⟩ := u_known (C := RX2) (T := TX2) (N := 7) (n := 7) hgd inG2 (hgd (.instantiable RX2 7) kI2)
  obtain ⟨c3, i3, k3⟩ := u_known (C := RX3) (T := TX3) (N := 8) (n := 8) hgd inG3 (hgd (.instantiable RX3 8) kI3)
  obtain ⟨c4, i4, k4⟩ := u_known (C := RX4) (T := TX4) (N := 6) (n := 6) hgd inG4 (hgd (.instantiable RX4 6) kI4)
  obtain ⟨c5, i5, k5⟩ := u_known (C := RX5) (T := TX5) (N := 11) (n := 11) hgd inG5 (hgd (.instantiable RX5 11) kI5)
  obtain ⟨dC, dI, hKc⟩ : ∃ (dC : Nat → ClassId) (dI : Nat → Nat → Nat), ∀ (k : Nat) (q : vw_C), vwCl[k]? = some q → u_Kn s q.1 q.2.1 q.2.2 (dC k) (dI k) := by
    refine ⟨fun k => match k with | 0 => c0 | 1 => c1 | 2 => c2 | 3 => c3 | 4 => c4 | _ => c5, fun k => match k with | 0 => i0 | 1 => i1 | 2 => i2 | 3 => i3 | 4 => i4 | _ => i5, ?_⟩
    intro k q hq
    match k, hq with
    | 0, hq => cases hq; exact k0
    | 1, hq => cases hq; exact k1
    | 2, hq => cases hq; exact k2
    | 3, hq => cases hq; exact k3
    | 4, hq => cases hq; exact k4
    | 5, hq => cases hq; exact k5
    | k + 6, hq => simp [vwCl] at hq
  have arr : ∀ ty : FieldType, (∀ C, ty ≠ .object C) → (Cond.arrayClass ty).before #[Value.ref b] s = true → ∃ cA, ArrOfT s cA ty ∧ va_RA s cA ty := by
    intro ty hne h
    obtain ⟨cA, kA, comp, h1, h2, h3⟩ := Cond.arrayClass_spec h
    refine ⟨cA, fun n z => ⟨fun k h => (by cases h), kA, h2, comp, h3⟩, ?_⟩
    cases ty <;> first | exact h1 | exact absurd rfl (hne _)
  obtain ⟨aI, hI1, hI2⟩ := arr .int (fun _ h => by cases h) (hgd _ kAI)
  obtain ⟨aL, hL1, hL2⟩ := arr .long (fun _ h => by cases h) (hgd _ kAL)
  obtain ⟨aZ, hZ1, hZ2⟩ := arr .boolean (fun _ h => by cases h) (hgd _ kAZ)
  have hAO : va_AO RX2 s := va_AO.of (hts (.arrayOver (.object RX2)) kAO)
  obtain ⟨comp, aO, kA, q1, q2, q3, q4, q5⟩ := Cond.arrayOver_spec hAO
  have hK : va_K (dC, dI) vwCl (tysOf (fun k => match k with | 0 => aI | 1 => aL | 2 => aZ | _ => aO)) s := by
    refine ⟨hKc, fun k q hq => ?_⟩
    match k, hq with
    | 0, hq => cases hq; exact ⟨hI1, hI2⟩
    | 1, hq => cases hq; exact ⟨hL1, hL2⟩
    | 2, hq => cases hq; exact ⟨hZ1, hZ2⟩
    | 3, hq => cases hq; exact ⟨fun n z => ⟨fun k h => (by cases h), kA, q3, comp, q4⟩, kA, comp, q3, q4, q1, q5⟩
    | k + 4, hq => simp [tysOf] at hq
  have hNW : NW s := ⟨fun w hw hn => va_Nw.of (by cases w <;> first | rfl | cases hn) (hts w hw), hAO⟩
  obtain ⟨hmono, hS⟩ := S_L_law (l := l) (nm := meth.name) (locsOf 21 [.retAddr b], [], h00) _ hp
  have hslo : slo h'.1 ≤ 7302250 := slo_room hn
  have C : Cx l (Esc b L xs) RL meth.name code 21 ret ((p, e, s, m), (#[Value.ref b], below, meth, c), ((dC, dI), (fun k => match k with | 0 => aI | 1 => aL | 2 => aZ | _ => aO), id, 0), (fun q => s.heap.size ≤ q), some (.int 1), h') :=
    ⟨hx, hb, hml, hr, hlocks, hown, hgd, hK, fun q h => h, Nat.zero_le _, hNW, rfl, hX, hbl, Nat.not_le.mpr hbl⟩
  have G := hS _ C (Nat.le_refl _) ⟨rfl, rfl⟩
  have hl := lv_start (ad := id) (av := [.retAddr b]) (lv_entry ([Value.ref b]) (n := 21) (Nat.le_of_ble_eq_true rfl))
  rw [lg_entry_eq]
  have G2 := G id _ s.heap [] (fun _ _ => rfl) (Nat.zero_le _) (fun v hv => by
    have : v = .retAddr b ∨ v = .null := by simpa [locsOf, argsL, Value.category] using hv
    rcases this with rfl | rfl <;> trivial) (fun _ hx => by cases hx) (fun k j i hk _ => by cases hk) hl (fun k q h => by cases h) ⟨fun i j p q h => (by cases h), fun k q h => (by cases h)⟩ va_S.rf
  have e1 : (locsOf 21 [.retAddr b], ([] : List Value), h00).2.2.1 - 0 = 0 := rfl
  have e2 : slo (locsOf 21 [.retAddr b], ([] : List Value), h00).2.2.1 - slo 0 = 0 := rfl
  rw [e1, e2] at G2
  refine W.post ?_ (W.room (R' := room_1) (R := { frames := 2048, cells := h'.1 - 0, slots := slo h'.1 - slo 0, locals := 84000 }) (Nat.le_refl 2048) (Nat.le_refl 84000) ?_ ?_ G2)
  rotate_left
  · show h'.1 - 0 ≤ 600000
    omega
  · show slo h'.1 - slo 0 ≤ 7302250
    omega
  · rintro t ⟨o, t1, t2, ⟨⟨ad, -, t3, -⟩, -⟩, Lx, ⟨t4, t5, t6⟩, t7⟩
    refine ⟨o, t1, t2, t3, t4, t5, (same_forget t7 t6).mono ?_ ?_⟩
    · show h'.1 - 0 ≤ 600000
      omega
    · show slo h'.1 - slo 0 ≤ 7302250
      omega
