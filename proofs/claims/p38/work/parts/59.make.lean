/-- the roots of the state in c -/
def RtC (hi : Nat → Nat → Int32) (c r : Nat) : Prop := Rt hi c (iN (hi c 2)) r
section MakeS
variable {hi hi' : Nat → Nat → Int32} {hl : Nat → Nat → Int64} {f w : Nat → Int32} {D : Nat → Prop} {A : Nat → Prop} {a c o : Nat} {σ : Sa} {H : List Sa} {V : Nat → Option Tr} {B : List Nat} {S : St}
theorem ST.rc (h : ST hi hl A c σ) (hv : SV σ) : ∃ rc, hi c 2 = nI rc ∧ rc ≤ 4 ∧ iN (hi c 2) = rc := by
  obtain ⟨T, ring, rc, mks, s, bal, bd⟩ := σ
  have h4 := hv.2.2.2.1
  exact ⟨rc, h.1, h4, by rw [h.1, iN_nI (by omega)]⟩
theorem p_retainC {Nx : Nat} (hc : isC c) (h : ST hi hl A c σ) (hv : SV σ) (hR : RI hi f D) : Does m_X5_retainState [.ref 0, .ref c] (Nx + 55, cu (cu hi 9 f) 10 w, hl, rf0) (fun v h' => v = none ∧ ∃ f' w', h' = (Nx + 55, cu (cu hi 9 f') 10 w', hl, rf0) ∧ RI hi f' (fun x => D x ∨ RtC hi c x)) := by
  obtain ⟨rc, e1, e2, e3⟩ := h.rc hv
  unfold RtC
  rw [e3]
  obtain ⟨T, ring, rc', mks, s, bal, bd⟩ := σ
  have : rc' = rc := by
    have h4 := hv.2.2.2.1
    have h1 : hi c 2 = nI rc' := h.1
    rw [e1] at h1
    exact ((nI_eq (by omega) (by omega)).mp h1).symm
  subst this
  exact p_retainState hc h hv hR
theorem ST.gds (h : ST hi hl A c σ) (hv : SV σ) : ∀ x, RtC hi c x → gd hi hl x := by
  obtain ⟨rc, e1, e2, e3⟩ := h.rc hv
  unfold RtC
  rw [e3]
  obtain ⟨T, ring, rc', mks, s, bal, bd⟩ := σ
  have : rc' = rc := by
    have h4 := hv.2.2.2.1
    have h1 : hi c 2 = nI rc' := h.1
    rw [e1] at h1
    exact ((nI_eq (by omega) (by omega)).mp h1).symm
  subst this
  rintro x (rfl | ⟨i, hi0, rfl⟩)
  · obtain ⟨n, hn, nlt, g⟩ := h.gdT hv
    rw [hn, iN_nI (by omega)]; exact g
  · obtain ⟨n, hn, nlt, g⟩ := h.gdR hv hi0
    rw [hn, iN_nI (by omega)]; exact g
theorem ST.ri (h : ST hi hl A c σ) (hv : SV σ) (hR : RI hi f D) (hD : ∀ x, RtC hi c x → D x) (e3 : hi' 3 = hi 3) (e4 : hi' 4 = hi 4) (e5 : hi' 5 = hi 5) (e6 : hi' 6 = hi 6) (e0 : hi' c = hi c) (e1 : hi' (c + 1) = hi (c + 1)) (e2 : hi' (c + 2) = hi (c + 2)) : ST hi' hl (Al f 1) c σ := by
  obtain ⟨rc0, r1, r2, r3⟩ := h.rc hv
  obtain ⟨T, ring, rc, mks, s, bal, bd⟩ := σ
  obtain ⟨v1, v2, v3, v4, v5, v6⟩ := hv
  obtain ⟨h2, h3, h4, h6, hm, ⟨k, hk, hT⟩, hr⟩ := h
  have : rc0 = rc := by
    rw [r1] at h2
    exact (nI_eq (by omega) (by omega)).mp h2
  subst this
  have kl := hT.lt v1
  unfold ST
  rw [e0, e1, e2]
  refine ⟨h2, h3, h4, h6, hm, ⟨k, hk, hR.isT (hD k (Or.inl (by rw [hk, iN_nI (by omega)]))) hT v1 v2 e3 e4 e5 e6⟩, fun i hi0 => ?_⟩
  obtain ⟨j, j1, j2⟩ := hr i hi0
  have vi := v3 i (by omega)
  have jl := j2.lt vi.1
  exact ⟨j, j1, hR.isT (hD j (Or.inr ⟨i, by rw [r3]; exact hi0, by rw [j1, iN_nI (by omega)]⟩)) j2 vi.1 vi.2 e3 e4 e5 e6⟩
theorem VS.gd0 {v : Nat} {u : Option Tr} (h : VS hi hl A v u) (hv : ∀ T, u = some T → vt T ∧ len T ≤ 400) : ∃ n, hi 51 v = nI n ∧ n < 20000 ∧ gd hi hl n := by
  cases u with
  | none => exact ⟨0, h.2, by decide, ⟨.nil, Or.inl rfl, Nat.zero_le _, rfl⟩⟩
  | some T =>
    obtain ⟨_, n, hn, hT⟩ := h
    have := hv T rfl
    exact ⟨n, hn, hT.lt this.1, gd.of hT this.1 this.2⟩
theorem VS.ri {v : Nat} {u : Option Tr} (h : VS hi hl A v u) (hv : ∀ T, u = some T → vt T ∧ len T ≤ 400) (hR : RI hi f D) (hD : D (iN (hi 51 v))) (e3 : hi' 3 = hi 3) (e4 : hi' 4 = hi 4) (e5 : hi' 5 = hi 5) (e6 : hi' 6 = hi 6) (e0 : hi' 51 = hi 51) (e1 : hi' 52 = hi 52) : VS hi' hl (Al f 1) v u := by
  cases u with
  | none => exact ⟨by rw [e1]; exact h.1, by rw [e0]; exact h.2⟩
  | some T =>
    obtain ⟨h1, n, hn, hT⟩ := h
    have vT := hv T rfl
    have nl := hT.lt vT.1
    rw [hn, iN_nI (by omega)] at hD
    exact ⟨by rw [e1]; exact h1, n, by rw [e0]; exact hn, hR.isT hD hT vT.1 vT.2 e3 e4 e5 e6⟩
/-- all roots of the class -/
def AllR (hi : Nat → Nat → Int32) (o n x : Nat) : Prop := (RtC hi 28 x ∨ ∃ j, j < n ∧ RtC hi (slo6 o j) x) ∨ ∃ v, v < 3 ∧ x = iN (hi 51 v)
theorem RCo.room (h : RCo hi hl a o (σ, H, V, B)) (hv : VV (σ, H, V, B)) (hR : RI hi f (AllR hi o H.length)) : 3000 ≤ unr f 1 := by
  obtain ⟨h1, h2, h3, h4, h5, h6, h7, h8, h9⟩ := h
  obtain ⟨v1, v2, v3, v4, v5, v6⟩ := hv
  have sτ : ∀ j, j < H.length → ∃ τ, H[j]? = some τ ∧ SV τ := fun j hj => ⟨H[j], List.getElem?_eq_getElem hj, v2 _ (List.getElem_mem hj)⟩
  have g28 := h4.gds v1
  have gsl : ∀ j, j < H.length → ∀ x, RtC hi (slo6 o j) x → gd hi hl x := fun j hj => by
    obtain ⟨τ, t1, t2⟩ := sτ j hj
    exact (h5 j τ t1).gds t2
  have gv : ∀ v, v < 3 → gd hi hl (iN (hi 51 v)) := fun v hv => by
    obtain ⟨n, n1, n2, n3⟩ := (h6 v hv).gd0 (v4 v)
    rw [n1, iN_nI (by omega)]; exact n3
  have rlen : ∀ c, rgL hi c = (List.range (iN (hi c 2))).map (hi (c + 2)) := fun _ => rfl
  have hcov := cover (R := fun i => rgL hi (if i < H.length then slo6 o i else 28)) (by
    split
    · next q =>
      obtain ⟨τ, t1, t2⟩ := sτ 0 q
      obtain ⟨rc, r1, r2, r3⟩ := (h5 0 τ t1).rc t2
      rw [rlen, List.length_map, List.length_range, r3]; exact r2
    · obtain ⟨rc, r1, r2, r3⟩ := h4.rc v1
      rw [rlen, List.length_map, List.length_range, r3]; exact r2) H.length (fun i hi0 => by
    rw [if_pos hi0]
    exact h9 i hi0)
  obtain ⟨C, c1, c2, c3⟩ := hcov
  have L1 : ∀ x, AllR hi o H.length x → x ∈ (iN (hi 28 5) :: (List.range H.length).map (fun j => iN (hi (slo6 o j) 5))) ++ [iN (hi 51 0), iN (hi 51 1), iN (hi 51 2)] ++ C.map iN := by
    rintro x ((hx | ⟨j, hj, hx⟩) | ⟨v, hv, rfl⟩)
    · rcases hx with rfl | ⟨i, hi0, rfl⟩
      · exact List.mem_append_left _ (List.mem_append_left _ (List.mem_cons_self ..))
      · refine List.mem_append_right _ (List.mem_map_of_mem (c2 H.length (Nat.le_refl _) _ ?_))
        rw [if_neg (Nat.lt_irrefl _)]
        exact List.mem_map.mpr ⟨i, List.mem_range.mpr hi0, rfl⟩
    · rcases hx with rfl | ⟨i, hi0, rfl⟩
      · exact List.mem_append_left _ (List.mem_append_left _ (List.mem_cons_of_mem _ (List.mem_map.mpr ⟨j, List.mem_range.mpr hj, rfl⟩)))
      · refine List.mem_append_right _ (List.mem_map_of_mem (c2 j (by omega) _ ?_))
        rw [if_pos hj]
        exact List.mem_map.mpr ⟨i, List.mem_range.mpr hi0, rfl⟩
    · refine List.mem_append_left _ (List.mem_append_right _ ?_)
      match v, hv with
      | 0, _ => simp
      | 1, _ => simp
      | 2, _ => simp
      | v + 3, hv => omega
  have L2 : ∀ x ∈ (iN (hi 28 5) :: (List.range H.length).map (fun j => iN (hi (slo6 o j) 5))) ++ [iN (hi 51 0), iN (hi 51 1), iN (hi 51 2)] ++ C.map iN, gd hi hl x := by
    intro x hx
    rcases List.mem_append.mp hx with hx | hx
    · rcases List.mem_append.mp hx with hx | hx
      · rcases List.mem_cons.mp hx with rfl | hx
        · exact g28 _ (Or.inl rfl)
        · obtain ⟨j, hj, rfl⟩ := List.mem_map.mp hx
          exact gsl j (List.mem_range.mp hj) _ (Or.inl rfl)
      · simp only [List.mem_cons, List.not_mem_nil, or_false] at hx
        rcases hx with rfl | rfl | rfl
        · exact gv 0 (by decide)
        · exact gv 1 (by decide)
        · exact gv 2 (by decide)
    · obtain ⟨y, hy, rfl⟩ := List.mem_map.mp hx
      obtain ⟨i, hi0, hy⟩ := c3 y hy
      split at hy
      · next q =>
        obtain ⟨j, hj, rfl⟩ := List.mem_map.mp hy
        exact gsl i q _ (Or.inr ⟨j, List.mem_range.mp hj, rfl⟩)
      · obtain ⟨j, hj, rfl⟩ := List.mem_map.mp hy
        exact g28 _ (Or.inr ⟨j, List.mem_range.mp hj, rfl⟩)
  generalize hRt : (iN (hi 28 5) :: (List.range H.length).map (fun j => iN (hi (slo6 o j) 5))) ++ [iN (hi 51 0), iN (hi 51 1), iN (hi 51 2)] ++ C.map iN = Rts at L1 L2
  have len20 : Rts.length ≤ 20 := by
    rw [← hRt]
    simp only [List.length_append, List.length_cons, List.length_map, List.length_range, List.length_nil]
    omega
  have fl1 := flat_len (g := ndH hi 400) (m := 799) Rts fun r hr => (L2 r hr).nd
  have un := unr_list (L := Rts.flatMap (ndH hi 400)) (f := f) fun k k1 k2 k3 => by
    obtain ⟨r, r1, r2⟩ := hR.2.2 k k2 k3
    exact List.mem_flatMap.mpr ⟨r, L1 r r1, r2⟩
  have : Rts.length * 799 ≤ 20 * 799 := Nat.mul_le_mul_right _ len20
  omega
end MakeS

