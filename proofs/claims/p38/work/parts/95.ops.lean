/-! the law's steps, as they are used -/
/-- what the law's numbers hold -/
def QR (f : Nat → Int32) (s : Nat) (bal bd : Int32) (M : Nat → Int32) (L rc : Nat) (z : Int32) : Prop := f 0 = nI s ∧ f 1 = bal ∧ f 2 = bd ∧ (∀ i, i < 4 → f (3 + i) = M i) ∧ f 7 = nI L ∧ f 8 = nI rc ∧ f 9 = z
/-- from one heap to the next: the cells up to n, but q and text, are as they were -/
def Kz (n : Nat) (hi hi' : Nat → Nat → Int32) (hl hl' : Nat → Nat → Int64) : Prop := ∀ k, k < n → (k ≠ 55 → k ≠ 57 → hi' k = hi k) ∧ hl' k = hl k
section OpsS
variable {hi hi' h2 : Nat → Nat → Int32} {hl hl' l2 : Nat → Nat → Int64} {n n' n2 p g q k s a t m u L rc : Nat} {T : Tr} {C P : List Nat} {bal bd z : Int32} {M : Nat → Int32} {S : St}
theorem Kz.rf : Kz n hi hi hl hl := fun _ _ => ⟨fun _ _ => rfl, rfl⟩
theorem Kz.tr (a : Kz n hi hi' hl hl') (b : Kz n' hi' h2 hl' l2) (h : n ≤ n') : Kz n hi h2 hl l2 := fun k hk => ⟨fun h1 h2 => ((b k (by omega)).1 h1 h2).trans ((a k hk).1 h1 h2), (b k (by omega)).2.trans (a k hk).2⟩
theorem Kz.of (h : ∀ k, k < n → hi' k = hi k ∧ hl' k = hl k) : Kz n hi hi' hl hl' := fun k hk => ⟨fun _ _ => (h k hk).1, (h k hk).2⟩
theorem Kz.row (a : Kz n hi hi' hl hl') (hq : q ≠ 55 ∧ q ≠ 57) (hqn : q < n) (r : Row (hi q) T) : Row (hi' q) T := by rw [(a q hqn).1 hq.1 hq.2]; exact r
theorem Kz.keep (a : Kz n hi hi' hl hl') (hn : 55 < n) (h : RC hi hl S) (hv : VV S) : RC hi' hl' S := h.kl hv (fun k hk => (a k (by omega)).1 (by omega) (by omega)) fun k hk => (a k (by omega)).2
theorem l_splitT (hn : 55 < n) (hq : 55 < q) (hqn : q < n) (vT : vt T) (h60 : len T ≤ 60) (hk : k ≤ len T) (hs : s ≤ 16) (r : Row (hi q) T) :
    Does m_L_split [.ref q, .int (nI k), .int (nI 1), .int (nI s)] (n, hi, hl, rf0) (NR n hi hl 250 (splitT s T k).1) := l_split (fb := true) hn hq hqn vT h60 hk hs r
theorem l_splitF (hn : 55 < n) (hq : 55 < q) (hqn : q < n) (vT : vt T) (h60 : len T ≤ 60) (hk : k ≤ len T) (hs : s ≤ 16) (r : Row (hi q) T) :
    Does m_L_split [.ref q, .int (nI k), .int (nI 0), .int (nI s)] (n, hi, hl, rf0) (NR n hi hl 250 (splitT s T k).2) := l_split (fb := false) hn hq hqn vT h60 hk hs r
theorem q_replace (hn : 59 < n) (hu : 55 < u) (hun : u < n) (hu2 : u ≠ 57) (r : QR (hi 55) s bal bd M C.length rc z) (hC : Txt (hi 57) C) (hP : Txt (hi u) P) (hm : P.length = m) (h1 : a + t ≤ C.length) (h60 : C.length ≤ 60) (h62 : C.length - t + m ≤ 60) :
    Does m_L_replace [.int (nI a), .int (nI t), .ref u, .int (nI m), .ref 57, .ref 55] (n, hi, hl, rf0) (fun v h' => v = none ∧ ∃ n' hi' hl', h' = (n', hi', hl', rf0) ∧ n ≤ n' ∧ n' ≤ n + 1 ∧ Kz n hi hi' hl hl' ∧ QR (hi' 55) s bal bd M (C.length - t + m) rc z ∧ Txt (hi' 57) (C.take a ++ P ++ C.drop (a + t))) := by
  obtain ⟨r0, r1, r2, r3, r7, r8, r9⟩ := r
  refine does_mono (l_replace (by omega) hu hun (by decide) (by omega) hu2 r7 hC hP hm h1 h60 (by omega)) ?_
  rintro v h ⟨rfl, Z, F, x, rfl, hx, hF⟩
  refine ⟨rfl, _, _, _, rfl, by omega, by omega, fun k hk => ⟨fun k1 k2 => by rw [cu_n k1, cu_n k2, cu_n (by omega)], zl_n (by omega)⟩, ?_, ?_⟩
  · rw [cu_s]
    exact ⟨by rw [upd_n (by decide)]; exact r0, by rw [upd_n (by decide)]; exact r1, by rw [upd_n (by decide)]; exact r2, fun i hi => by rw [upd_n (by omega)]; exact r3 i hi, by rw [upd_s, hx], by rw [upd_n (by decide)]; exact r8, by rw [upd_n (by decide)]; exact r9⟩
  · rw [cu_n (by decide), cu_s]; exact hF
theorem q_marks (hn : 59 < n) (h1 : a + t ≤ 1000) (r : QR (hi 55) s bal bd M L rc z) : Does m_L_marks [.int (nI a), .int (nI t), .int (nI m), .ref 55] (n, hi, hl, rf0) (fun v h' => v = none ∧ ∃ hi', h' = (n, hi', hl, rf0) ∧ (∀ k, k ≠ 55 → hi' k = hi k) ∧ QR (hi' 55) s bal bd (fun i => mkf a t m (M i)) L rc z) := by
  obtain ⟨r0, r1, r2, r3, r7, r8, r9⟩ := r
  refine does_mono (l_marks (by omega) h1) ?_
  rintro v h ⟨rfl, F, rfl, f1, f2⟩
  refine ⟨rfl, _, rfl, fun k hk => cu_n hk, ?_⟩
  rw [cu_s]
  exact ⟨by rw [f1 0 (by decide)]; exact r0, by rw [f1 1 (by decide)]; exact r1, by rw [f1 2 (by decide)]; exact r2, fun i hi => by rw [f2 (3 + i) (by omega) (by omega), r3 i hi], by rw [f1 7 (by decide)]; exact r7, by rw [f1 8 (by decide)]; exact r8, by rw [f1 9 (by decide)]; exact r9⟩
theorem q_balance (hn : 59 < n) (hq : 57 < q) (hqn : q < n) (vT : vt T) (h60 : len T ≤ 60) (hT : Row (hi q) T) (hL : L = len T) (r : QR (hi 55) s bal bd M L rc z) :
    Does m_L_balance [.ref q, .ref 55] (n, hi, hl, rf0) (fun v h' => v = some (.ref q) ∧ ∃ hi', h' = (n, hi', hl, rf0) ∧ (∀ k, k ≠ 55 → k ≠ q → hi' k = hi k) ∧ QR (hi' 55) s bal (balO T bal bd).2 M L rc z ∧ Row (hi' q) (balO T bal bd).1) := by
  obtain ⟨r0, r1, r2, r3, r7, r8, r9⟩ := r
  refine does_mono (l_balance (by omega) hqn vT h60 hT r1 r2 (by rw [← hL]; exact r7)) ?_
  rintro v h ⟨rfl, F, x, rfl, k1, k2⟩
  refine ⟨rfl, _, rfl, fun k h1 h2 => by rw [cu_n h1, cu_n h2], ?_, by rw [cu_n (by omega), cu_s]; exact k1⟩
  rw [cu_s]
  exact ⟨by rw [upd_n (by decide)]; exact r0, by rw [upd_n (by decide)]; exact r1, by rw [upd_s, k2], fun i hi => by rw [upd_n (by omega)]; exact r3 i hi, by rw [upd_n (by decide)]; exact r7, by rw [upd_n (by decide)]; exact r8, by rw [upd_n (by decide)]; exact r9⟩
theorem balO_ch (vT : vt T) (h4 : len T ≤ 400) : vt (balO T bal bd).1 ∧ ch (balO T bal bd).1 = ch T := by
  unfold balO
  split
  · exact rebT_vt vT h4
  · exact ⟨vT, rfl⟩
theorem txt_at (h : Txt (hi k) C) (e : hi' k = hi k) : Txt (hi' k) C := by rw [e]; exact h
end OpsS
