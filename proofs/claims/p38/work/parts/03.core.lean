/-! The small machine: one world of cells of fixed shapes, methods as functions over it. -/
/-- heap: how many cells there are; the ints, the longs and the references of each cell -/
abbrev Hp : Type := Nat × (Nat → Nat → Int32) × (Nat → Nat → Int64) × (Nat → Nat → Option Nat)
/-- locals, stack, heap -/
abbrev Ms : Type := List Value × List Value × Hp
/-- goes on; jumps out of so many blocks; returns -/
abbrev Rs : Type := Ms ⊕ (Nat × Ms) ⊕ (Option Value × Hp)
abbrev Fr : Type := Ms → Option Rs
abbrev Mt : Type := List Value → Hp → Option (Option Value × Hp)
abbrev rNx (m : Ms) : Option Rs := some (.inl m)
abbrev rBr (i : Nat) (m : Ms) : Option Rs := some (.inr (.inl (i, m)))
abbrev rRt (v : Option Value) (h : Hp) : Option Rs := some (.inr (.inr (v, h)))
def rN : Rs → Nat
  | .inl m => m.2.2.1
  | .inr (.inl (_, m)) => m.2.2.1
  | .inr (.inr (_, h)) => h.1
def u2 {α : Type} (f : Nat → Nat → α) (k j : Nat) (x : α) : Nat → Nat → α := fun a b => if a = k ∧ b = j then x else f a b
/-- the fields' kinds: 0 a number, 1 a long, 2 a reference -/
def ftk : FieldType → Nat
  | .object _ => 2
  | .array _ => 2
  | .long => 1
  | _ => 0
def ft (ci j : Nat) : Nat := match ci with
  | 0 => ftk (tyX0 j)
  | 1 => ftk (tyX1 j)
  | 2 => ftk (tyX2 j)
  | 3 => ftk (tyX3 j)
  | 4 => ftk (tyX4 j)
  | _ => ftk (tyX5 j)
def rv : Option Nat → Value
  | none => .null
  | some k => .ref k
def fvm (h : Hp) (k j t : Nat) : Value := if t = 0 then .int (h.2.1 k j) else if t = 1 then .long (h.2.2.1 k j) else rv (h.2.2.2 k j)
def tr (ad : Nat → Nat) : Value → Value
  | .ref k => .ref (ad k)
  | .retAddr b => .ref b
  | v => v
/-- what the cell k is, as the kit's worlds say it -/
def cnt (Ar : Nat → ClassId) (ad : Nat → Nat) (h : Hp) (k : Nat) : va_E :=
  if (sh k).1 < 100 then .inr ((sh k).1, (List.range (sh k).2).map fun j => tr ad (fvm h k j (ft (sh k).1 j)))
  else if (sh k).1 = 101 then .inl (Ar 1, (sh k).2, .inr (.inl (h.2.2.1 k)))
  else if (sh k).1 = 103 then .inl (Ar 3, (sh k).2, .inr (.inr (.inr (.inr fun j => (h.2.2.2 k j).map ad))))
  else if (sh k).1 = 102 then .inl (Ar 2, (sh k).2, .inl (h.2.1 k))
  else .inl (Ar 0, (sh k).2, .inl (h.2.1 k))
def wsOf (Ar : Nat → ClassId) (ad : Nat → Nat) (h : Hp) : va_W := (List.range h.1).map fun k => (ad k, cnt Ar ad h k)
def tysOf (Ar : Nat → ClassId) : List (ClassId × FieldType) := [(Ar 0, .int), (Ar 1, .long), (Ar 2, .boolean), (Ar 3, .object RX2)]
/-- elements of the first n cells -/
def slo : Nat → Nat
  | 0 => 0
  | n + 1 => slo n + (sh n).2
def vok (n : Nat) : Value → Prop
  | .ref k => k < n
  | _ => True
def Vok (n : Nat) (l : List Value) : Prop := ∀ v ∈ l, vok n v
def Hok (h : Hp) : Prop := ∀ k j i, k < h.1 → h.2.2.2 k j = some i → i < h.1
def lvE (ad : Nat → Nat) (k : Nat) (v : Value) : List (Nat × Value) := if v = .null then [] else [(k, tr ad v)]
def lvOf (ad : Nat → Nat) (L : List Value) : List (Nat × Value) := (List.range L.length).flatMap fun k => lvE ad k (L.getD k .null)
def Qm (D : va_G) (Ar : Nat → ClassId) (ad0 : Nat → Nat) (n0 : Nat) (v : Option Value) (h : Hp) (A : Addr → Prop) : Array Value → State → Outcome → State → Prop := fun _ st oc t =>
  (∃ ad : Nat → Nat, (∀ k, k < n0 → ad k = ad0 k) ∧ oc = .returned (v.map (tr ad)) ∧ va_P D vwCl (wsOf Ar ad h) t.heap ∧ va_K D vwCl (tysOf Ar) t ∧ va_D A (wsOf Ar ad h) ∧ (∀ x, v = some x → vok h.1 x) ∧ Hok h) ∧ va_F A st t
/-- the tables' words that a callee may take over as they are -/
def lw_gd : List Cond := lw_tbl.filter goodWord
theorem gd_of {w : Cond} {i : Nat} (h : lw_tbl[i]? = some w) (h2 : goodWord w = true) : w ∈ lw_gd := List.mem_filter.mpr ⟨List.mem_of_getElem? h, h2⟩
def isNest : Cond → Bool
  | .fieldLinkNest .. => true
  | .methodLinkNest .. => true
  | _ => false
/-- the words between the nest's classes, and the row of references -/
def NW (U : State) : Prop := (∀ w, w ∈ lw_tbl → isNest w = true → va_Nw w U) ∧ va_AO RX2 U
theorem NW.warm {s U : State} (hW : s.WarmedH U.vm) (h : NW s) : NW U := ⟨fun w hw hn => by
  have h1 := h.1 w hw hn
  cases w <;> first | (exact va_Nw.warmF hW h1) | (exact va_Nw.warmM hW h1) | (cases hn), h.2.moved hW.alike⟩
theorem NW.same {s U : State} (hv : s.vm = U.vm) (h : NW s) : NW U := ⟨fun w hw hn => by
  have h1 := h.1 w hw hn
  cases w <;> first | (exact va_Nw.same rfl hv h1) | (cases hn), h.2.moved (by rw [hv]; exact Vm.Alike.refl _)⟩
/-- where a walk stands: everything that doesn't change in it -/
abbrev Cxt : Type := (Program × Env × State × MethodId) × (Array Value × List Frame × Method × Code) × (va_G × (Nat → ClassId) × (Nat → Nat) × Nat) × (Addr → Prop) × Option Value × Hp
def Cx (l : Launch) (E : Cxt → Prop) (own nm : String) (cc : ByteArray) (nL : Nat) (rt : Option FieldType) : Cxt → Prop := fun ((p, e, s, m), (args, below, meth, c), (D, Ar, ad0, n0), A0, vF, hF) =>
  p.tables.exec = Jvm.exec ∧ c.code = cc ∧ c.maxLocals = nL ∧ meth.sig.returnType = rt ∧ meth.locks = false ∧ s.vm.findClass own = some m.cls ∧ (∀ w ∈ lw_gd, w.before args s = true) ∧ va_K D vwCl (tysOf Ar) s ∧ (∀ q, s.heap.size ≤ q → A0 q) ∧ n0 ≤ hF.1 ∧ NW s ∧ meth.name = nm ∧ E ((p, e, s, m), (args, below, meth, c), (D, Ar, ad0, n0), A0, vF, hF)
def Wx (l : Launch) (nL fr lo : Nat) (pc : Nat) (st : Ms) : Cxt → Prop := fun ((p, e, s, m), (args, below, meth, c), (D, Ar, ad0, n0), A0, vF, hF) =>
  ∀ (ad : Nat → Nat) (ls : Array Slot) (H : Heap) (locs : List Loc),
    (∀ k, k < n0 → ad k = ad0 k) → n0 ≤ st.2.2.1 → Vok st.2.2.1 st.1 → Vok st.2.2.1 st.2.1 → Hok st.2.2 →
    lv_has ls nL (lvOf ad st.1) → va_P D vwCl (wsOf Ar ad st.2.2) H → va_D A0 (wsOf Ar ad st.2.2) → va_S A0 s.heap H locs →
    W p l e { frames := fr, cells := hF.1 - n0, slots := slo hF.1 - slo n0, locals := lo } s m args below meth c H locs (st.2.2.1 - n0) (slo st.2.2.1 - slo n0) (MQ below (Qm D Ar ad0 n0 vF hF A0) args s (hF.1 - n0) (slo hF.1 - slo n0) A0) (F0 m pc ls (st.2.1.map (tr ad)))
def vFo (X : Cxt) : Option Value := X.2.2.2.2.1
def hFo (X : Cxt) : Hp := X.2.2.2.2.2
/-- what goes on from a result -/
def Kx (l : Launch) (nL fr lo : Nat) (lb : List Nat) (pc' : Nat) (X : Cxt) : Rs → Prop
  | .inl m => Wx l nL fr lo pc' m X
  | .inr (.inl (i, m)) => ∃ t, lb[i]? = some t ∧ Wx l nL fr lo t m X
  | .inr (.inr (v, h)) => v = vFo X ∧ h = hFo X
/-- the code from pc to pc' does what F says -/
def Sim (l : Launch) (E : Cxt → Prop) (own nm : String) (cc : ByteArray) (nL : Nat) (rt : Option FieldType) (fr lo : Nat) (lb : List Nat) (F : Fr) (pc pc' : Nat) : Prop :=
  ∀ st r, F st = some r → st.2.2.1 ≤ rN r ∧ ∀ X, Cx l E own nm cc nL rt X → rN r ≤ (hFo X).1 → Kx l nL fr lo lb pc' X r → Wx l nL fr lo pc st X
def sq (F G : Fr) : Fr := fun st => match F st with
  | some (.inl m) => G m
  | r => r
def bkR : Option Rs → Option Rs
  | some (.inr (.inl (0, m))) => some (.inl m)
  | some (.inr (.inl (i + 1, m))) => some (.inr (.inl (i, m)))
  | r => r
def bk (F : Fr) : Fr := fun st => bkR (F st)
def itr (F : Fr) : Nat → Fr
  | 0 => fun _ => none
  | n + 1 => fun st => match F st with
    | some (.inr (.inl (0, m))) => itr F n m
    | some (.inr (.inl (i + 1, m))) => some (.inr (.inl (i, m)))
    | r => r
noncomputable def lp (F : Fr) : Fr := fun st => @dite _ (∃ n r, itr F n st = some r) (Classical.propDecidable _) (fun h => some h.choose_spec.choose) (fun _ => none)
def lpR (F : Fr) : Option Rs → Option Rs
  | some (.inr (.inl (0, m))) => F m
  | some (.inr (.inl (i + 1, m))) => some (.inr (.inl (i, m)))
  | r => r
theorem itr_succ (F : Fr) (n : Nat) (st : Ms) : itr F (n + 1) st = lpR (itr F n) (F st) := by
  show (match F st with | some (.inr (.inl (0, m))) => itr F n m | some (.inr (.inl (i + 1, m))) => some (.inr (.inl (i, m))) | r => r) = _
  unfold lpR
  rfl
theorem itr_mono (F : Fr) : ∀ (n k : Nat) (st : Ms) (r : Rs), itr F n st = some r → itr F (n + k) st = some r := by
  intro n
  induction n with
  | zero => intro k st r h; cases h
  | succ n ih =>
    intro k st r h
    rw [show n + 1 + k = (n + k) + 1 by omega, itr_succ]
    rw [itr_succ] at h
    revert h
    rcases F st with _ | q
    · intro h; cases h
    · rcases q with m | ⟨i, m⟩ | q <;> intro h
      · exact h
      · cases i with
        | zero => exact ih k _ r h
        | succ i => exact h
      · exact h
theorem itr_det (F : Fr) {n k : Nat} {st : Ms} {r q : Rs} (h : itr F n st = some r) (h2 : itr F k st = some q) : r = q := by
  have a := itr_mono F n k st r h
  have b := itr_mono F k n st q h2
  rw [Nat.add_comm] at b
  exact Option.some.inj (a.symm.trans b)
theorem lp_of {F : Fr} {n : Nat} {st : Ms} {r : Rs} (h : itr F n st = some r) : lp F st = some r := by
  have hx : ∃ n r, itr F n st = some r := ⟨n, r, h⟩
  unfold lp
  rw [dif_pos hx]
  exact congrArg some (itr_det F hx.choose_spec.choose_spec h)
theorem lp_itr {F : Fr} {st : Ms} {r : Rs} (h : lp F st = some r) : ∃ n, itr F n st = some r := by
  unfold lp at h
  split at h
  · next hx =>
    cases h
    exact ⟨_, hx.choose_spec.choose_spec⟩
  · cases h
theorem lp_eq (F : Fr) (st : Ms) : lp F st = lpR (lp F) (F st) := by
  rcases hF : F st with _ | r
  · cases hl : lp F st with
    | none => rfl
    | some r =>
      obtain ⟨n, hn⟩ := lp_itr hl
      cases n with
      | zero => cases hn
      | succ n => rw [itr_succ, hF] at hn; cases hn
  · rcases r with m | ⟨i, m⟩ | r
    · exact lp_of (n := 1) (by rw [itr_succ, hF]; rfl)
    · cases i with
      | zero =>
        show _ = lp F m
        cases hl : lp F m with
        | some q =>
          obtain ⟨n, hn⟩ := lp_itr hl
          exact lp_of (n := n + 1) (by rw [itr_succ, hF]; exact hn)
        | none =>
          cases h2 : lp F st with
          | none => rfl
          | some q =>
            obtain ⟨n, hn⟩ := lp_itr h2
            cases n with
            | zero => cases hn
            | succ n =>
              rw [itr_succ, hF] at hn
              rw [lp_of hn] at hl
              cases hl
      | succ i => exact lp_of (n := 1) (by rw [itr_succ, hF]; rfl)
    · exact lp_of (n := 1) (by rw [itr_succ, hF]; rfl)
section SimS
variable {l : Launch} {E : Cxt → Prop} {own nm : String} {cc : ByteArray} {nL : Nat} {rt : Option FieldType} {fr lo : Nat} {lb : List Nat}
theorem Sim.sq {F G : Fr} {pc p1 p2 : Nat} (hF : Sim l E own nm cc nL rt fr lo lb F pc p1) (hG : Sim l E own nm cc nL rt fr lo lb G p1 p2) : Sim l E own nm cc nL rt fr lo lb (sq F G) pc p2 := by
  intro st r h
  change (match F st with | some (.inl m) => G m | r => r) = some r at h
  split at h
  · next m e =>
    obtain ⟨a1, b1⟩ := hF _ _ e
    obtain ⟨a2, b2⟩ := hG _ _ h
    exact ⟨Nat.le_trans a1 a2, fun X C hn K => b1 X C (Nat.le_trans a2 hn) (b2 X C hn K)⟩
  · next hne =>
    obtain ⟨a1, b1⟩ := hF _ _ h
    refine ⟨a1, fun X C hn K => b1 X C hn ?_⟩
    rcases r with m | ⟨i, m⟩ | ⟨v, q⟩
    · exact absurd h (hne m)
    · exact K
    · exact K
theorem Sim.bk {F : Fr} {pc p2 : Nat} (hF : Sim l E own nm cc nL rt fr lo (p2 :: lb) F pc p2) : Sim l E own nm cc nL rt fr lo lb (bk F) pc p2 := by
  intro st r h
  show _ ∧ _
  change bkR (F st) = some r at h
  rcases e : F st with _ | q
  · rw [e] at h; cases h
  · rw [e] at h
    obtain ⟨a1, b1⟩ := hF _ _ e
    rcases q with m | ⟨i, m⟩ | ⟨v, q⟩
    · cases h; exact ⟨a1, b1⟩
    · cases i with
      | zero => cases h; exact ⟨a1, fun X C hn K => b1 X C hn ⟨p2, rfl, K⟩⟩
      | succ i => cases h; exact ⟨a1, fun X C hn K => b1 X C hn (by obtain ⟨t, h1, h2⟩ := K; exact ⟨t, h1, h2⟩)⟩
    · cases h; exact ⟨a1, b1⟩
theorem Sim.lp {F : Fr} {pc p2 : Nat} (hF : Sim l E own nm cc nL rt fr lo (pc :: lb) F pc p2) : Sim l E own nm cc nL rt fr lo lb (lp F) pc p2 := by
  intro st r h
  obtain ⟨n, hn⟩ := lp_itr h
  clear h
  induction n generalizing st with
  | zero => cases hn
  | succ n ih =>
    rw [itr_succ] at hn
    rcases e : F st with _ | q
    · rw [e] at hn; cases hn
    · rw [e] at hn
      obtain ⟨a1, b1⟩ := hF _ _ e
      rcases q with m | ⟨i, m⟩ | ⟨v, q⟩
      · cases hn; exact ⟨a1, b1⟩
      · cases i with
        | zero =>
          obtain ⟨a2, b2⟩ := ih m hn
          exact ⟨Nat.le_trans a1 a2, fun X C hn K => b1 X C (Nat.le_trans a2 hn) ⟨pc, rfl, b2 X C hn K⟩⟩
        | succ i => cases hn; exact ⟨a1, fun X C hn K => b1 X C hn (by obtain ⟨t, h1, h2⟩ := K; exact ⟨t, h1, h2⟩)⟩
      · cases hn; exact ⟨a1, b1⟩
end SimS
