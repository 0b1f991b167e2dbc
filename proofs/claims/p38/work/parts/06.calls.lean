theorem goodIn_tbl {ws : List Cond} (h : ∀ w ∈ ws, w ∈ lw_gd) : GoodIn lw_gd ws := fun w hw => ⟨h w hw, good_of_word (List.mem_filter.mp (h w hw)).2⟩
/-- what a method does, over every world -/
def Ct (l : Launch) (y : MethodName) (bytes : ByteArray) (maxL : Nat) (ret : Option FieldType) (fr lo : Nat) (f : Mt) : Prop :=
  ∀ (D : va_G) (Ar : Nat → ClassId) (ad : Nat → Nat) (h : Hp) (av : List Value) (v : Option Value) (h' : Hp) (sz : Nat), f av h = some (v, h') →
    h.1 ≤ h'.1 ∧ Met l y (Cond.code y bytes maxL ret :: lw_gd) { frames := fr, cells := h'.1 - h.1, slots := slo h'.1 - slo h.1, locals := lo }
      (va_Pc (av.map (tr ad)) (fun U => U.heap.size = sz ∧ va_P D vwCl (wsOf Ar ad h) U.heap ∧ va_K D vwCl (tysOf Ar) U ∧ va_D (fun _ => True) (wsOf Ar ad h) ∧ Vok h.1 av ∧ Hok h ∧ NW U))
      (Qm D Ar ad h.1 v h' (va_A (wsOf Ar ad h) sz)) (h'.1 - h.1) (slo h'.1 - slo h.1) (va_A (wsOf Ar ad h) sz)
def argsL : List Value → List Value
  | [] => []
  | v :: vs => if v.category = 2 then v :: .null :: argsL vs else v :: argsL vs
def locsOf (nL : Nat) (av : List Value) : List Value := argsL av ++ List.replicate (nL - (argsL av).length) .null
def outM : Option Rs → Option (Option Value × Hp)
  | some (.inr (.inr (v, h))) => some (v, h)
  | _ => none
def mkM (nL : Nat) (F : Fr) : Mt := fun av h => if (argsL av).length ≤ nL then outM (F (locsOf nL av, [], h)) else none
theorem lg_len (ad : Nat → Nat) : ∀ av : List Value, (lg_sl (av.map (tr ad))).length = (argsL av).length
  | [] => rfl
  | v :: vs => by
    have ih := lg_len ad vs
    unfold lg_sl at ih ⊢
    unfold argsL
    simp only [List.map_cons, List.flatMap_cons, tr_cat, List.length_append]
    by_cases c : v.category = 2
    · rw [if_pos c, if_pos c]; simp only [List.length_cons, List.length_nil]; omega
    · rw [if_neg c, if_neg c]; simp only [List.length_cons, List.length_nil]; omega
theorem lv_args_in (ad : Nat → Nat) : ∀ (av : List Value) (i k : Nat), k < (argsL av).length → (argsL av).getD k .null ≠ .null → (i + k, tr ad ((argsL av).getD k .null)) ∈ lv_args i (av.map (tr ad))
  | [], i, k, hk, _ => by cases hk
  | v :: vs, i, k, hk, hn => by
    show _ ∈ lv_args i (tr ad v :: vs.map (tr ad))
    unfold lv_args
    rw [tr_cat]
    unfold argsL at hk hn ⊢
    by_cases c : v.category = 2
    · rw [if_pos c] at hk hn ⊢
      rw [if_pos c]
      match k, hk, hn with
      | 0, _, _ => exact List.mem_cons_self
      | 1, _, hn => exact absurd rfl hn
      | k + 2, hk, hn =>
        refine List.mem_cons_of_mem _ ?_
        have := lv_args_in ad vs (i + 2) k (by simpa using hk) (by simpa using hn)
        rw [show i + (k + 2) = i + 2 + k by omega]
        simpa using this
    · rw [if_neg c] at hk hn ⊢
      rw [if_neg c]
      match k, hk, hn with
      | 0, _, _ => exact List.mem_cons_self
      | k + 1, hk, hn =>
        refine List.mem_cons_of_mem _ ?_
        have := lv_args_in ad vs (i + 1) k (by simpa using hk) (by simpa using hn)
        rw [show i + (k + 1) = i + 1 + k by omega]
        simpa using this
theorem lv_start {nL : Nat} {ad : Nat → Nat} {av : List Value} {ls : Array Slot} (h : lv_has ls nL (lv_args 0 (av.map (tr ad)))) : lv_has ls nL (lvOf ad (locsOf nL av)) := by
  refine ⟨h.1, h.2.1, fun q hq => h.2.2 q ?_⟩
  obtain ⟨h1, h2, h3⟩ := mem_lvOf.mp hq
  unfold locsOf at h1 h2 h3
  have hk : q.1 < (argsL av).length := by
    rcases Nat.lt_or_ge q.1 (argsL av).length with z | z
    · exact z
    · refine absurd ?_ h2
      rw [List.getD_eq_getElem?_getD, List.getElem?_append_right z, List.getElem?_replicate]
      split <;> rfl
  have e : (argsL av ++ List.replicate (nL - (argsL av).length) Value.null).getD q.1 .null = (argsL av).getD q.1 .null := by
    rw [List.getD_eq_getElem?_getD, List.getElem?_append_left hk, ← List.getD_eq_getElem?_getD]
  rw [e] at h2 h3
  have := lv_args_in ad av 0 q.1 hk h2
  rw [Nat.zero_add, ← h3] at this
  exact this
theorem vok_argsL {n : Nat} : ∀ {av : List Value}, Vok n av → Vok n (argsL av)
  | [], h => h
  | v :: vs, h => by
    unfold argsL
    split
    · exact vkc (vkh h) (vkc trivial (vok_argsL (vkt h)))
    · exact vkc (vkh h) (vok_argsL (vkt h))
theorem vok_locs {n nL : Nat} {av : List Value} (h : Vok n av) : Vok n (locsOf nL av) := fun v hv => by
  rcases List.mem_append.mp hv with q | q
  · exact vok_argsL h v q
  · rw [(List.mem_replicate.mp q).2]; trivial
theorem ofWF {l : Launch} {y : MethodName} {ws ws' : List Cond} {rm : Room} {Pc : Array Value → State → Prop} {Qc : Array Value → State → Outcome → State → Prop} {mc ms : Nat} {free : Addr → Prop} {cc : ByteArray} {maxL : Nat} {ret : Option FieldType}
    (hy : plainFor y = true) (hw : ws = Cond.code y cc maxL ret :: ws')
    (body : ∀ p e s m args below meth c s₁, BodyLoose p l y (headSpec ws rm) cc maxL ret e s m args below meth c s₁ → c.maxLocals = maxL → Pc args s →
      W p l e (headSpec ws rm).room s m args below meth c s.heap [] 0 0 (MQ below Qc args s mc ms free) (entryFrame m args maxL)) : Met l y ws rm Pc Qc mc ms free := by
  refine MetFree.of_bodySF (code := cc) (maxLocals := maxL) (ret := ret) hy ?_ ?_
  · intro args s m h hn
    obtain ⟨meth, c, h1, h2, h3, h4, h5, h6, -, -⟩ := Cond.code_spec hn (atoms_spec (ws := ws) h _ (by rw [hw]; exact List.mem_cons_self))
    exact ⟨meth, c, h1, h2, h3, h4, h5, h6⟩
  · intro p e s m args below meth c s₁ B hml hP _
    have hh0 : s₁.heap = s.heap := by rw [B.state]; rfl
    obtain ⟨t, a1, o, b1, b2, b3⟩ := body p e s m args below meth c s₁ B hml hP s₁ hh0 (Stand.of_body B)
    exact ⟨t, o, a1, b1, b2, ⟨b3.1, b3.2⟩⟩
set_option maxRecDepth 100000 in
theorem Ct_of {l : Launch} {y : MethodName} {cc : ByteArray} {nL fr lo : Nat} {rt : Option FieldType} {F : Fr} {pcE : Nat} (hy : plainFor y = true)
    (hS : Sim l (fun _ => True) y.cls y.name cc nL rt fr lo [] F 0 pcE) : Ct l y cc nL rt fr lo (mkM nL F) := by
  intro D Ar ad h av v h' sz hf
  unfold mkM at hf
  split at hf
  case isFalse => cases hf
  rename_i hlen
  have hr : F (locsOf nL av, [], h) = some (.inr (.inr (v, h'))) := by
    revert hf
    unfold outM
    split
    · next v2 h2 e => intro hf; cases hf; exact e
    · intro hf; cases hf
  obtain ⟨hmono, hW⟩ := hS _ _ hr
  change h.1 ≤ h'.1 at hmono
  refine ⟨hmono, ?_⟩
  refine ofWF (cc := cc) (maxL := nL) (ret := rt) hy rfl ?_
  intro p e s m args below meth c s₁ B hml hv
  obtain ⟨rfl, hsz, hP, hK, hD0, hV, hH, hN⟩ := hv
  have hts0 := atoms_spec (ws := Cond.code y cc nL rt :: lw_gd) B.pre
  subst hsz
  have hD := hD0.self (sz := s.heap.size)
  have C : Cx l (fun _ => True) y.cls y.name cc nL rt ((p, e, s, m), ((av.map (tr ad)).toArray, below, meth, c), (D, Ar, ad, h.1), va_A (wsOf Ar ad h) s.heap.size, v, h') :=
    ⟨B.exec, B.bytes, hml, B.returns, B.notSynchronized, findClass_of_methodNamed B.named, fun w hw => hts0 w (List.mem_cons_of_mem _ hw), hK, fun q hq => Or.inr hq, hmono, hN, (name_of_methodNamed B.named B.method).1, trivial⟩
  have G := hW _ C (Nat.le_refl _) ⟨rfl, rfl⟩
  rw [lg_entry_eq]
  have hl := lv_start (lv_entry (av.map (tr ad)) (n := nL) (by rw [lg_len]; exact hlen))
  have G2 := G ad _ s.heap [] (fun _ _ => rfl) (Nat.le_refl _) (vok_locs hV) (fun _ hx => by cases hx) hH hl hP hD va_S.rf
  dsimp only at G2
  rw [Nat.sub_self, Nat.sub_self] at G2
  exact G2
section RunGo
variable {p : Program} {l : Launch} {e : Env} {R : Room} {s : State} {m : MethodId} {args : Array Value} {below : List Frame} {meth : Method} {c : Code} {H : Heap} {locs : List Loc} {cells slots mc ms : Nat} {Q : State → Prop}
theorem run_go {pc : Nat} {ls : Array Slot} {st0 rest : List Value} {a : Array Value} {D : va_G} {Ar : Nat → ClassId} {ad : Nat → Nat} {n : Nat} {v : Option Value} {h' : Hp} {A1 A0 : Addr → Prop} {H0 : Heap}
    (hr : va_Run p l e R s m args below meth c H locs cells slots mc ms (F0 m pc ls st0) rest (Qm D Ar ad n v h' A1 a) A1) (hS : va_S A0 H0 H locs) (hA : ∀ q, A1 q → A0 q)
    (kk : ∀ (ad' : Nat → Nat) (H1 : Heap) (locs1 : List Loc), (∀ k, k < n → ad' k = ad k) → va_P D vwCl (wsOf Ar ad' h') H1 → va_D A1 (wsOf Ar ad' h') → (∀ x, v = some x → vok h'.1 x) → Hok h' → va_S A0 H0 H1 locs1 →
      W p l e R s m args below meth c H1 locs1 (cells + mc) (slots + ms) Q (F0 m (pc + 3) ls ((v.map (tr ad')).toList ++ rest))) : W p l e R s m args below meth c H locs cells slots Q (F0 m pc ls st0) := by
  intro T hT X
  obtain ⟨v0, st₀, t, T', L, h0, X', hL, e1, e2, ⟨⟨ad', b1, b2, b3, b4, b5, b6, b7⟩, hz, hk⟩, st⟩ := hr T hT X
  cases b2
  rw [h0] at hz hk
  obtain ⟨t2, a1, a2⟩ := kk ad' T'.heap (locs ++ L) b1 (by rw [e1]; exact b3) b5 b6 b7
    ⟨Nat.le_trans hS.1 (by rw [e1]; exact hz), fun q h1 h2 => by rw [e1, hk q (Nat.lt_of_lt_of_le h1 hS.1) (fun z => h2 (hA q z))]; exact hS.2.1 q h1 h2, fun q hq => by
      rcases List.mem_append.mp hq with h | h
      · exact hS.2.2 q h
      · exact hA _ (hL q h)⟩ T' rfl X'
  exact ⟨t2, st t2 a1, a2⟩
end RunGo
/-- a call of k values; the callee is f -/
def o_call (k : Nat) (f : Mt) : Fr := fun m => if k ≤ m.2.1.length ∧ csum (m.2.1.drop k) ≤ 8 then
    match f (m.2.1.take k).reverse m.2.2 with
    | some (v, h) => rNx (m.1, v.toList ++ m.2.1.drop k, h)
    | none => none
  else none
def rcv (n ci : Nat) : Value → Bool
  | .ref q => decide (q < n ∧ (sh q).1 = ci)
  | _ => false
def o_callV (ci k : Nat) (f : Mt) : Fr := fun m => if rcv m.2.2.1 ci (m.2.1.getD k .null) = true then o_call (k + 1) f m else none
theorem tr_eq {n : Nat} {ad ad' : Nat → Nat} (h : ∀ k, k < n → ad' k = ad k) {v : Value} (hv : vok n v) : tr ad' v = tr ad v := by
  cases v with
  | ref k => exact congrArg Value.ref (h k hv)
  | _ => rfl
theorem tr_eqL {n : Nat} {ad ad' : Nat → Nat} (h : ∀ k, k < n → ad' k = ad k) {S : List Value} (hv : Vok n S) : S.map (tr ad') = S.map (tr ad) :=
  List.map_congr_left fun v hm => tr_eq h (hv v hm)
theorem lvOf_eq {n : Nat} {ad ad' : Nat → Nat} (h : ∀ k, k < n → ad' k = ad k) {ls : Array Slot} {nL : Nat} {L : List Value} (hv : Vok n L) (hl : lv_has ls nL (lvOf ad L)) : lv_has ls nL (lvOf ad' L) :=
  ⟨hl.1, hl.2.1, fun q hq => hl.2.2 q (by
    obtain ⟨h1, h2, h3⟩ := mem_lvOf.mp hq
    exact mem_lvOf.mpr ⟨h1, h2, by rw [h3]; exact tr_eq h (vkg hv)⟩)⟩
theorem vok_le {n k : Nat} (h : n ≤ k) {S : List Value} (hv : Vok n S) : Vok k S := fun v hm => by
  have := hv v hm
  cases v with
  | ref a => exact Nat.lt_of_lt_of_le this h
  | _ => trivial
theorem wsA {Ar : Nat → ClassId} {ad : Nat → Nat} {h : Hp} {A0 : Addr → Prop} {H0 H : Heap} {locs : List Loc} (hD : va_D A0 (wsOf Ar ad h)) (hS : va_S A0 H0 H locs) (hA : ∀ q, H0.size ≤ q → A0 q) : ∀ q, va_A (wsOf Ar ad h) H.size q → A0 q := by
  rintro q (⟨k, e, hk⟩ | hq)
  · exact hD.2 k _ hk
  · exact hA q (Nat.le_trans hS.1 hq)
section CallS
variable {l : Launch} {E : Cxt → Prop} {own nm : String} {cc : ByteArray} {nL : Nat} {rt : Option FieldType} {fr lo : Nat} {lb : List Nat} {pc : Nat}
theorem o_call_inv {k : Nat} {f : Mt} {L S : List Value} {h : Hp} {r : Rs} (e : o_call k f (L, S, h) = some r) : k ≤ S.length ∧ csum (S.drop k) ≤ 8 ∧ ∃ v h', f (S.take k).reverse h = some (v, h') ∧ r = .inl (L, v.toList ++ S.drop k, h') := by
  unfold o_call at e
  dsimp only at e
  split at e
  case isFalse => cases e
  rename_i hz
  split at e
  · next v h' e2 => cases e; exact ⟨hz.1, hz.2, v, h', e2, rfl⟩
  · cases e
theorem pre_blind {D : va_G} {Ar : Nat → ClassId} {ad : Nat → Nat} {h : Hp} {av : List Value} {sz : Nat} : FrameBlind (va_Pc (av.map (tr ad)) (fun U => U.heap.size = sz ∧ va_P D vwCl (wsOf Ar ad h) U.heap ∧ va_K D vwCl (tysOf Ar) U ∧ va_D (fun _ => True) (wsOf Ar ad h) ∧ Vok h.1 av ∧ Hok h ∧ NW U)) := by
  rintro a U g mk ⟨q1, q2, q3, q4, q5, q6, q7, q8⟩
  exact ⟨q1, q2, q3, va_K.moved (u := U) (U := U.calling g mk a) (Vm.Alike.refl U.vm) q4, q5, q6, q7, NW.same (s := U) (U := U.calling g mk a) rfl q8⟩
theorem pre_at {D : va_G} {Ar : Nat → ClassId} {ad : Nat → Nat} {h : Hp} {av : List Value} {H : Heap} {s : State} {A0 : Addr → Prop} (hP : va_P D vwCl (wsOf Ar ad h) H) (hK : va_K D vwCl (tysOf Ar) s) (hD : va_D A0 (wsOf Ar ad h)) (hV : Vok h.1 av) (hH : Hok h) (hN : NW s) (U : State) (hU : U.heap = H) (hW : s.WarmedH U.vm) : va_Pc (av.map (tr ad)) (fun U => U.heap.size = H.size ∧ va_P D vwCl (wsOf Ar ad h) U.heap ∧ va_K D vwCl (tysOf Ar) U ∧ va_D (fun _ => True) (wsOf Ar ad h) ∧ Vok h.1 av ∧ Hok h ∧ NW U) (av.map (tr ad)).toArray U :=
  ⟨rfl, by rw [hU], by rw [hU]; exact hP, va_K.moved hW.alike hK, hD.weaken (fun _ _ _ _ => trivial), hV, hH, hN.warm hW⟩
theorem split_st {k : Nat} {S : List Value} (h : k ≤ S.length) : S = ((S.take k).reverse).reverse ++ S.drop k := by rw [List.reverse_reverse, List.take_append_drop]
theorem vok_take {n k : Nat} {S : List Value} (h : Vok n S) : Vok n (S.take k).reverse := fun v hv => h v (List.mem_of_mem_take (List.mem_reverse.mp hv))
theorem vok_drop {n k : Nat} {S : List Value} (h : Vok n S) : Vok n (S.drop k) := fun v hv => h v (List.mem_of_mem_drop hv)
/-- behind a call -/
theorem call_go {X : Cxt} {L S : List Value} {n : Hp} {k : Nat} {f : Mt} {v : Option Value} {h' : Hp}
    (C : Cx l E own nm cc nL rt X) (hmono : n.1 ≤ h'.1) (hle : h'.1 ≤ (hFo X).1) (K : Wx l nL fr lo (pc + 3) (L, v.toList ++ S.drop k, h') X)
    (hrun : ∀ (p : Program) (e : Env) (s : State) (m : MethodId) (args : Array Value) (below : List Frame) (meth : Method) (c : Code) (D : va_G) (Ar : Nat → ClassId) (ad0 : Nat → Nat) (n0 : Nat) (A0 : Addr → Prop) (vF : Option Value) (hF : Hp), X = ((p, e, s, m), (args, below, meth, c), (D, Ar, ad0, n0), A0, vF, hF) →
      ∀ (ad : Nat → Nat) (ls : Array Slot) (H : Heap) (locs : List Loc), n0 ≤ n.1 → Vok n.1 S → Hok n → lv_has ls nL (lvOf ad L) → va_P D vwCl (wsOf Ar ad n) H → va_D A0 (wsOf Ar ad n) → va_S A0 s.heap H locs → h'.1 ≤ hF.1 →
        va_Run p l e { frames := fr, cells := hF.1 - n0, slots := slo hF.1 - slo n0, locals := lo } s m args below meth c H locs (n.1 - n0) (slo n.1 - slo n0) (h'.1 - n.1) (slo h'.1 - slo n.1) (F0 m pc ls (S.map (tr ad))) ((S.drop k).map (tr ad)) (Qm D Ar ad n.1 v h' (va_A (wsOf Ar ad n) H.size) (((S.take k).reverse).map (tr ad)).toArray) (va_A (wsOf Ar ad n) H.size)) :
    Wx l nL fr lo pc (L, S, n) X := by
  obtain ⟨⟨p, e, s, m⟩, ⟨args, below, meth, c⟩, ⟨D, Ar, ad0, n0⟩, A0, vF, hF⟩ := X
  obtain ⟨hx, hb, hml, hr, hlk, hown, hts, hK, hA, hn0⟩ := C
  intro ad ls H locs a1 a2 a3 a4 a5 a6 a7 a8 a9
  change n0 ≤ n.1 at a2
  refine run_go (hrun p e s m args below meth c D Ar ad0 n0 A0 vF hF rfl ad ls H locs a2 a4 a5 a6 a7 a8 a9 hle) a9 (wsA a8 a9 hA) (fun ad' H1 locs1 b1 b3 b5 b6 b7 b9 => ?_)
  have hst : ((v.map (tr ad')).toList ++ (S.drop k).map (tr ad)) = (v.toList ++ S.drop k).map (tr ad') := by
    rw [List.map_append, tr_eqL b1 (vok_drop a4)]
    cases v <;> rfl
  rw [hst]
  have hV : Vok h'.1 (v.toList ++ S.drop k) := fun x hx => by
    rcases List.mem_append.mp hx with q | q
    · cases v with
      | none => cases q
      | some y => rw [List.mem_singleton.mp q]; exact b6 y rfl
    · exact vok_le hmono (vok_drop a4) x q
  have G := K ad' ls H1 locs1 (fun k hk => (b1 k (Nat.lt_of_lt_of_le hk a2)).trans (a1 k hk)) (Nat.le_trans a2 hmono) (vok_le hmono a3) hV b7 (lvOf_eq b1 a3 a6) b3 (b5.weaken fun _ _ _ hq => wsA a8 a9 hA _ hq) b9
  dsimp only at G ⊢
  have s1 := slo_mono a2
  have s2 := slo_mono hmono
  rw [show n.1 - n0 + (h'.1 - n.1) = h'.1 - n0 by omega, show slo n.1 - slo n0 + (slo h'.1 - slo n.1) = slo h'.1 - slo n0 by omega]
  exact G
theorem s_callV {index k ci N fr' lo' maxL : Nat} {bytes : ByteArray} {ret : Option FieldType} {C : String} {T : u_T} {y : MethodName} {f : Mt} (hM : Ct l y bytes maxL ret fr' lo' f) (hc : vwCl[ci]? = some (C, T, N)) (hci : ci < 100)
    (w1 : Cond.methodLink own index y ∈ lw_gd) (w2 : Cond.instanceMethod y ∈ lw_gd) (w3 : Cond.selects C y y ∈ lw_gd) (w4 : Cond.initialized C ∈ lw_gd) (w5 : Cond.code y bytes maxL ret ∈ lw_gd)
    (hd2 : y.cls = C ∧ y.cls ≠ "java/lang/invoke/MethodHandle" ∧ y.cls ≠ "java/lang/invoke/VarHandle" ∧ (parseMethodDescriptor y.desc).map (fun d => d.parameters.length) = some k) (hR : fr' + 1 ≤ fr ∧ 8 + (maxL + 11) + lo' ≤ lo)
    (hsh : ∀ q, (sh q).1 = ci → (sh q).2 = N) (hd : decode cc pc = .ok (.invokevirtual index, 3)) : Sim l E own nm cc nL rt fr lo lb (o_callV ci k f) pc (pc + 3) := by
  intro st r h
  obtain ⟨L, S, n⟩ := st
  unfold o_callV at h
  dsimp only at h
  split at h
  case isFalse => cases h
  rename_i hrc
  obtain ⟨z1, z2, v, h', e1, rfl⟩ := o_call_inv h
  obtain ⟨q, hq⟩ : ∃ q, S.getD k .null = .ref q := by
    cases e : S.getD k .null with
    | ref q => exact ⟨q, rfl⟩
    | _ => rw [e] at hrc; cases hrc
  rw [hq] at hrc
  obtain ⟨q1, q2⟩ := of_decide_eq_true (show decide (q < n.1 ∧ (sh q).1 = ci) = true from hrc)
  have hm1 : n.1 ≤ h'.1 := (hM default default id n _ v h' 0 e1).1
  refine ⟨hm1, fun X C0 hn K => call_go (k := k + 1) (f := f) C0 hm1 hn K ?_⟩
  intro p e s m args below meth c D Ar ad0 n0 A0 vF hF hX ad ls H locs a2 a4 a5 a6 a7 a8 a9 hle
  subst hX
  obtain ⟨hx, hb, hml, hr, hlk, hown, hts, hK, hA, hn0⟩ := C0
  have hMet := (hM D Ar ad n _ v h' H.size e1).2
  have hav : (S.take (k + 1)).reverse = .ref q :: ((S.take k).reverse) := by
    have hk : k < S.length := z1
    rw [List.take_succ_eq_append_getElem hk, List.reverse_append]
    have : S[k] = .ref q := by rw [← hq]; simp [List.getD_eq_getElem?_getD, hk]
    rw [this]; rfl
  have hst : S.map (tr ad) = (((S.take k).reverse).map (tr ad)).reverse ++ .ref (ad q) :: (S.drop (k + 1)).map (tr ad) := by
    conv => lhs; rw [split_st z1]
    rw [hav]
    simp [tr]
  have hpre := pre_at (av := (S.take (k + 1)).reverse) a7 hK a8 (vok_take a4) a5 hn0.2.1
  rw [hav] at hMet hpre ⊢
  have s1 := slo_mono a2
  have s2 := slo_mono hm1
  have s3 := slo_mono hle
  have hsz : sh q = (ci, N) := Prod.ext q2 (hsh q q2)
  refine va_runV (As := ((S.take k).reverse).map (tr ad)) (rest := (S.drop (k + 1)).map (tr ad)) ⟨hx, hb, hml, hown, hts⟩ hMet (cwV k hts (goodIn_tbl (fun w hw => ?_)) rfl rfl rfl hd2 hR) ⟨pre_blind, va_recv hK a7 hc ((ws_at q1).trans (by rw [cnt_obj hsz hci])), hpre⟩ rfl (by simp; omega) a6.1 hst (lv_room (catsum z2)) hd ⟨?_, ?_⟩
  · simp only [wsV, List.cons_append, List.nil_append, List.mem_cons] at hw
    rcases hw with rfl | rfl | rfl | rfl | rfl | hw
    · exact w1
    · exact w2
    · exact w3
    · exact w4
    · exact w5
    · exact hw
  · show n.1 - n0 + (h'.1 - n.1) ≤ hF.1 - n0
    omega
  · show slo n.1 - slo n0 + (slo h'.1 - slo n.1) ≤ slo hF.1 - slo n0
    omega
theorem s_callS {index k fr' lo' maxL : Nat} {bytes : ByteArray} {ret : Option FieldType} {y : MethodName} {f : Mt} (hM : Ct l y bytes maxL ret fr' lo' f)
    (w1 : Cond.methodLink own index y ∈ lw_gd) (w2 : Cond.static y ∈ lw_gd) (w4 : Cond.initialized y.cls ∈ lw_gd) (w5 : Cond.code y bytes maxL ret ∈ lw_gd)
    (hd2 : y.cls ≠ "java/lang/invoke/MethodHandle" ∧ y.cls ≠ "java/lang/invoke/VarHandle" ∧ (parseMethodDescriptor y.desc).map (fun d => d.parameters.length) = some k) (hR : fr' + 1 ≤ fr ∧ 8 + (maxL + 11) + lo' ≤ lo)
    (hd : decode cc pc = .ok (.invokestatic index, 3)) : Sim l E own nm cc nL rt fr lo lb (o_call k f) pc (pc + 3) := by
  intro st r h
  obtain ⟨L, S, n⟩ := st
  obtain ⟨z1, z2, v, h', e1, rfl⟩ := o_call_inv h
  have hm1 : n.1 ≤ h'.1 := (hM default default id n _ v h' 0 e1).1
  refine ⟨hm1, fun X C0 hn K => call_go (k := k) (f := f) C0 hm1 hn K ?_⟩
  intro p e s m args below meth c D Ar ad0 n0 A0 vF hF hX ad ls H locs a2 a4 a5 a6 a7 a8 a9 hle
  subst hX
  obtain ⟨hx, hb, hml, hr, hlk, hown, hts, hK, hA, hn0⟩ := C0
  have hMet := (hM D Ar ad n _ v h' H.size e1).2
  have hst : S.map (tr ad) = (((S.take k).reverse).map (tr ad)).reverse ++ (S.drop k).map (tr ad) := by
    conv => lhs; rw [split_st z1]
    simp
  have hpre := pre_at (av := (S.take k).reverse) a7 hK a8 (vok_take a4) a5 hn0.2.1
  have s1 := slo_mono a2
  have s2 := slo_mono hm1
  have s3 := slo_mono hle
  refine va_runS (As := ((S.take k).reverse).map (tr ad)) (rest := (S.drop k).map (tr ad)) ⟨hx, hb, hml, hown, hts⟩ hMet ⟨callB_of k hts (goodIn_tbl (fun w hw => ?_)) rfl rfl rfl (hts _ w4) (hts _ w1) hd2 hR, hts _ w2⟩ ⟨pre_blind, hpre⟩ rfl (by simp; omega) a6.1 hst (lv_room (catsum z2)) hd ⟨?_, ?_⟩
  · rcases List.mem_cons.mp hw with rfl | hw
    · exact w5
    · exact hw
  · show n.1 - n0 + (h'.1 - n.1) ≤ hF.1 - n0
    omega
  · show slo n.1 - slo n0 + (slo h'.1 - slo n.1) ≤ slo hF.1 - slo n0
    omega
end CallS
