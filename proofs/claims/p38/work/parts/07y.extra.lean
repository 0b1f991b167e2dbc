/-! rows for shifts and or; the contract of a method that reads the script -/
section MoreX
variable {l : Launch} {E : Cxt → Prop} {own nm : String} {cc : ByteArray} {nL : Nat} {rt : Option FieldType} {fr lo : Nat} {lb : List Nat} {pc : Nat}
theorem s_ior (hd : decode cc pc = .ok (.ior, 1)) : Sim l E own nm cc nL rt fr lo lb (o_ib (fun x y => x ||| y)) pc (pc + 1) := by
  refine Sim.step fun st r h => ?_
  obtain ⟨L, S, hp⟩ := st
  dsimp only [o_ib] at h
  split at h
  case h_2 => cases h
  rename_i y x S
  cases h
  refine ⟨_, rfl, Nat.le_refl _, fun X C hn K => ?_⟩
  obtain ⟨⟨p, e, s, m⟩, ⟨args, below, meth, c⟩, ⟨D, Ar, ad0, n0⟩, A0, vF, hF⟩ := X
  obtain ⟨hx, hb, hml, hr, hlk, hown, hts, hK, hA, hn0⟩ := C
  intro ad ls H locs a1 a2 a3 a4 a5 a6 a7 a8 a9
  exact lv_ior hx hb hd (K ad ls H locs a1 a2 a3 (vkc trivial (vkt (vkt a4))) a5 a6 a7 a8 a9)
theorem s_ishl (hd : decode cc pc = .ok (.ishl, 1)) : Sim l E own nm cc nL rt fr lo lb (o_ib (fun x y => x <<< (y &&& 31))) pc (pc + 1) := by
  refine Sim.step fun st r h => ?_
  obtain ⟨L, S, hp⟩ := st
  dsimp only [o_ib] at h
  split at h
  case h_2 => cases h
  rename_i y x S
  cases h
  refine ⟨_, rfl, Nat.le_refl _, fun X C hn K => ?_⟩
  obtain ⟨⟨p, e, s, m⟩, ⟨args, below, meth, c⟩, ⟨D, Ar, ad0, n0⟩, A0, vF, hF⟩ := X
  obtain ⟨hx, hb, hml, hr, hlk, hown, hts, hK, hA, hn0⟩ := C
  intro ad ls H locs a1 a2 a3 a4 a5 a6 a7 a8 a9
  exact lv_ishl hx hb hd (K ad ls H locs a1 a2 a3 (vkc trivial (vkt (vkt a4))) a5 a6 a7 a8 a9)
theorem s_ishr (hd : decode cc pc = .ok (.ishr, 1)) : Sim l E own nm cc nL rt fr lo lb (o_ib (fun x y => x >>> (y &&& 31))) pc (pc + 1) := by
  refine Sim.step fun st r h => ?_
  obtain ⟨L, S, hp⟩ := st
  dsimp only [o_ib] at h
  split at h
  case h_2 => cases h
  rename_i y x S
  cases h
  refine ⟨_, rfl, Nat.le_refl _, fun X C hn K => ?_⟩
  obtain ⟨⟨p, e, s, m⟩, ⟨args, below, meth, c⟩, ⟨D, Ar, ad0, n0⟩, A0, vF, hF⟩ := X
  obtain ⟨hx, hb, hml, hr, hlk, hown, hts, hK, hA, hn0⟩ := C
  intro ad ls H locs a1 a2 a3 a4 a5 a6 a7 a8 a9
  exact lv_ishr hx hb hd (K ad ls H locs a1 a2 a3 (vkc trivial (vkt (vkt a4))) a5 a6 a7 a8 a9)
end MoreX
/-- as Ct, of a method that reads the script -/
def CtE (l : Launch) (b Ln : Nat) (xs : Nat → Int32) (y : MethodName) (bytes : ByteArray) (maxL : Nat) (ret : Option FieldType) (fr lo : Nat) (f : Mt) : Prop :=
  ∀ (D : va_G) (Ar : Nat → ClassId) (ad : Nat → Nat) (h : Hp) (av : List Value) (v : Option Value) (h' : Hp) (sz : Nat), f av h = some (v, h') →
    h.1 ≤ h'.1 ∧ Met l y (Cond.code y bytes maxL ret :: lw_gd) { frames := fr, cells := h'.1 - h.1, slots := slo h'.1 - slo h.1, locals := lo }
      (va_Pc (av.map (tr ad)) (fun U => U.heap.size = sz ∧ va_P D vwCl (wsOf Ar ad h) U.heap ∧ va_K D vwCl (tysOf Ar) U ∧ va_D (fun _ => True) (wsOf Ar ad h) ∧ Vok h.1 av ∧ Hok h ∧ NW U ∧ va_X b Ln xs U U.heap ∧ b < U.heap.size ∧ ¬ va_A (wsOf Ar ad h) sz b))
      (Qm D Ar ad h.1 v h' (va_A (wsOf Ar ad h) sz)) (h'.1 - h.1) (slo h'.1 - slo h.1) (va_A (wsOf Ar ad h) sz)
theorem CtE_of {l : Launch} {b Ln : Nat} {xs : Nat → Int32} {y : MethodName} {cc : ByteArray} {nL fr lo : Nat} {rt : Option FieldType} {F : Fr} {pcE : Nat} (hy : plainFor y = true)
    (hS : Sim l (Esc b Ln xs) y.cls y.name cc nL rt fr lo [] F 0 pcE) : CtE l b Ln xs y cc nL rt fr lo (mkM nL F) := by
  intro D Ar ad h av v h' sz hf
  unfold mkM at hf
  split at hf
  case isFalse => cases hf
  rename_i hlen
  have hr : F (locsOf nL av, [], h) = some (.inr (.inr (v, h'))) := by
    revert hf
    unfold outM
    split
    · next v2 h2 e => intro hf; cases hf; exact e
    · intro hf; cases hf
  obtain ⟨hmono, hW⟩ := hS _ _ hr
  change h.1 ≤ h'.1 at hmono
  refine ⟨hmono, ?_⟩
  refine ofWF (cc := cc) (maxL := nL) (ret := rt) hy rfl ?_
  intro p e s m args below meth c s₁ B hml hv
  obtain ⟨rfl, hsz, hP, hK, hD0, hV, hH, hN, hX, hbl, hbA⟩ := hv
  have hts0 := atoms_spec (ws := Cond.code y cc nL rt :: lw_gd) B.pre
  subst hsz
  have hD := hD0.self (sz := s.heap.size)
  have C : Cx l (Esc b Ln xs) y.cls y.name cc nL rt ((p, e, s, m), ((av.map (tr ad)).toArray, below, meth, c), (D, Ar, ad, h.1), va_A (wsOf Ar ad h) s.heap.size, v, h') :=
    ⟨B.exec, B.bytes, hml, B.returns, B.notSynchronized, findClass_of_methodNamed B.named, fun w hw => hts0 w (List.mem_cons_of_mem _ hw), hK, fun q hq => Or.inr hq, hmono, hN, (name_of_methodNamed B.named B.method).1, hX, hbl, hbA⟩
  have G := hW _ C (Nat.le_refl _) ⟨rfl, rfl⟩
  rw [lg_entry_eq]
  have hl := lv_start (lv_entry (av.map (tr ad)) (n := nL) (by rw [lg_len]; exact hlen))
  have G2 := G ad _ s.heap [] (fun _ _ => rfl) (Nat.le_refl _) (vok_locs hV) (fun _ hx => by cases hx) hH hl hP hD va_S.rf
  dsimp only at G2
  rw [Nat.sub_self, Nat.sub_self] at G2
  exact G2
theorem preE_blind {b Ln : Nat} {xs : Nat → Int32} {D : va_G} {Ar : Nat → ClassId} {ad : Nat → Nat} {h : Hp} {av : List Value} {sz : Nat} : FrameBlind (va_Pc (av.map (tr ad)) (fun U => U.heap.size = sz ∧ va_P D vwCl (wsOf Ar ad h) U.heap ∧ va_K D vwCl (tysOf Ar) U ∧ va_D (fun _ => True) (wsOf Ar ad h) ∧ Vok h.1 av ∧ Hok h ∧ NW U ∧ va_X b Ln xs U U.heap ∧ b < U.heap.size ∧ ¬ va_A (wsOf Ar ad h) sz b)) := by
  rintro a U g mk ⟨q1, q2, q3, q4, q5, q6, q7, q8, q9, q10, q11⟩
  exact ⟨q1, q2, q3, va_K.moved (u := U) (U := U.calling g mk a) (Vm.Alike.refl U.vm) q4, q5, q6, q7, NW.same (s := U) (U := U.calling g mk a) rfl q8, va_X.moved (u := U) (U := U.calling g mk a) (Vm.Alike.refl U.vm) q9, q10, q11⟩
theorem preE_at {b Ln : Nat} {xs : Nat → Int32} {D : va_G} {Ar : Nat → ClassId} {ad : Nat → Nat} {h : Hp} {av : List Value} {H : Heap} {s : State} {A0 : Addr → Prop} {locs : List Loc} (hP : va_P D vwCl (wsOf Ar ad h) H) (hK : va_K D vwCl (tysOf Ar) s) (hD : va_D A0 (wsOf Ar ad h)) (hV : Vok h.1 av) (hH : Hok h) (hN : NW s) (hX : va_X b Ln xs s s.heap) (hbl : b < s.heap.size) (hbA : ¬ A0 b) (hS : va_S A0 s.heap H locs) (hA : ∀ q, s.heap.size ≤ q → A0 q) (U : State) (hU : U.heap = H) (hW : s.WarmedH U.vm) : va_Pc (av.map (tr ad)) (fun U => U.heap.size = H.size ∧ va_P D vwCl (wsOf Ar ad h) U.heap ∧ va_K D vwCl (tysOf Ar) U ∧ va_D (fun _ => True) (wsOf Ar ad h) ∧ Vok h.1 av ∧ Hok h ∧ NW U ∧ va_X b Ln xs U U.heap ∧ b < U.heap.size ∧ ¬ va_A (wsOf Ar ad h) H.size b) (av.map (tr ad)).toArray U :=
  ⟨rfl, by rw [hU], by rw [hU]; exact hP, va_K.moved hW.alike hK, hD.weaken (fun _ _ _ _ => trivial), hV, hH, hN.warm hW, by rw [hU]; exact va_X.moved hW.alike (va_X.kept hX (hS.2.1 b hbl hbA)), by rw [hU]; exact Nat.lt_of_lt_of_le hbl hS.1, fun z => hbA (wsA hD hS hA b z)⟩
section CallX
variable {l : Launch} {own nm : String} {cc : ByteArray} {nL : Nat} {rt : Option FieldType} {fr lo : Nat} {lb : List Nat} {pc : Nat}
theorem s_callSE {b Ln : Nat} {xs : Nat → Int32} {index k fr' lo' maxL : Nat} {bytes : ByteArray} {ret : Option FieldType} {y : MethodName} {f : Mt} (hM : CtE l b Ln xs y bytes maxL ret fr' lo' f)
    (w1 : Cond.methodLink own index y ∈ lw_gd) (w2 : Cond.static y ∈ lw_gd) (w4 : Cond.initialized y.cls ∈ lw_gd) (w5 : Cond.code y bytes maxL ret ∈ lw_gd)
    (hd2 : y.cls ≠ "java/lang/invoke/MethodHandle" ∧ y.cls ≠ "java/lang/invoke/VarHandle" ∧ (parseMethodDescriptor y.desc).map (fun d => d.parameters.length) = some k) (hR : fr' + 1 ≤ fr ∧ 8 + (maxL + 11) + lo' ≤ lo)
    (hd : decode cc pc = .ok (.invokestatic index, 3)) : Sim l (Esc b Ln xs) own nm cc nL rt fr lo lb (o_call k f) pc (pc + 3) := by
  intro st r h
  obtain ⟨L, S, n⟩ := st
  obtain ⟨z1, z2, v, h', e1, rfl⟩ := o_call_inv h
  have hm1 : n.1 ≤ h'.1 := (hM default default id n _ v h' 0 e1).1
  refine ⟨hm1, fun X C0 hn K => call_go (k := k) (f := f) C0 hm1 hn K ?_⟩
  intro p e s m args below meth c D Ar ad0 n0 A0 vF hF hX ad ls H locs a2 a4 a5 a6 a7 a8 a9 hle
  subst hX
  obtain ⟨hx, hb, hml, hr, hlk, hown, hts, hK, hA, hn0⟩ := C0
  have hMet := (hM D Ar ad n _ v h' H.size e1).2
  have hst : S.map (tr ad) = (((S.take k).reverse).map (tr ad)).reverse ++ (S.drop k).map (tr ad) := by
    conv => lhs; rw [split_st z1]
    simp
  have hpre := preE_at (av := (S.take k).reverse) a7 hK a8 (vok_take a4) a5 hn0.2.1 hn0.2.2.2.1 hn0.2.2.2.2.1 hn0.2.2.2.2.2 a9 hA
  have s1 := slo_mono a2
  have s2 := slo_mono hm1
  have s3 := slo_mono hle
  refine va_runS (As := ((S.take k).reverse).map (tr ad)) (rest := (S.drop k).map (tr ad)) ⟨hx, hb, hml, hown, hts⟩ hMet ⟨callB_of k hts (goodIn_tbl (fun w hw => ?_)) rfl rfl rfl (hts _ w4) (hts _ w1) hd2 hR, hts _ w2⟩ ⟨preE_blind, hpre⟩ rfl (by simp; omega) a6.1 hst (lv_room (catsum z2)) hd ⟨?_, ?_⟩
  · rcases List.mem_cons.mp hw with rfl | hw
    · exact w5
    · exact hw
  · show n.1 - n0 + (h'.1 - n.1) ≤ hF.1 - n0
    omega
  · show slo n.1 - slo n0 + (slo h'.1 - slo n.1) ≤ slo hF.1 - slo n0
    omega
end CallX
