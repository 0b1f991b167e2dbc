theorem lsr_n {w k : Nat} (hw : w < 2 ^ 63) (hk : k < 64) : ((nL w).toUInt64 >>> ((nI k).toInt64.toUInt64 &&& Int64.toUInt64 63)).toInt64 = nL (w / 2 ^ k) := by
  rw [nI_toL (by omega)]
  have e1 : (nL k).toUInt64 &&& Int64.toUInt64 63 = UInt64.ofNat k := by
    apply UInt64.toNat_inj.mp
    rw [UInt64.toNat_and]
    show (k % 2 ^ 64) &&& (2 ^ 6 - 1) = k % 2 ^ 64
    rw [Nat.and_two_pow_sub_one_eq_mod]
    omega
  rw [e1]
  show _ = (UInt64.ofNat (w / 2 ^ k)).toInt64
  congr 1
  apply UInt64.toNat_inj.mp
  rw [UInt64.toNat_shiftRight]
  show (w % 2 ^ 64) >>> ((k % 2 ^ 64) % 64) = (w / 2 ^ k) % 2 ^ 64
  have h2 : w / 2 ^ k ≤ w := Nat.div_le_self _ _
  rw [Nat.mod_eq_of_lt (show w < 2 ^ 64 by omega), Nat.mod_eq_of_lt (show k < 2 ^ 64 by omega), Nat.mod_eq_of_lt hk, Nat.shiftRight_eq_div_pow, Nat.mod_eq_of_lt (show w / 2 ^ k < 2 ^ 64 by omega)]
theorem and_n {w : Nat} (hw : w < 2 ^ 63) : nL w &&& 255 = nL (w % 256) := by
  apply Int64.toBitVec_inj.mp
  apply BitVec.eq_of_toNat_eq
  rw [Int64.toBitVec_and, BitVec.toNat_and]
  show (w % 2 ^ 64) &&& (2 ^ 8 - 1) = (w % 256) % 2 ^ 64
  rw [Nat.and_two_pow_sub_one_eq_mod]
  omega
theorem smod_n : ∀ k, k < 57 → (BitVec.ofNat 64 k).smod 64 = BitVec.ofNat 64 k := by decide
theorem lsl_n {c k : Nat} (hc : c < 128) (hk : k ≤ 56) : nL c <<< ((nI k).toInt64 &&& 63) = nL (c * 2 ^ k) := by
  rw [nI_toL (by omega)]
  have e1 : nL k &&& 63 = nL k := by
    apply Int64.toBitVec_inj.mp
    apply BitVec.eq_of_toNat_eq
    rw [Int64.toBitVec_and, BitVec.toNat_and]
    show (k % 2 ^ 64) &&& (2 ^ 6 - 1) = k % 2 ^ 64
    rw [Nat.and_two_pow_sub_one_eq_mod]
    omega
  rw [e1]
  apply Int64.toBitVec_inj.mp
  apply BitVec.eq_of_toNat_eq
  rw [Int64.toBitVec_shiftLeft, show (nL k).toBitVec.smod 64 = BitVec.ofNat 64 k from smod_n k (by omega), BitVec.shiftLeft_eq', BitVec.toNat_shiftLeft]
  show (c % 2 ^ 64) <<< (k % 2 ^ 64) % 2 ^ 64 = (c * 2 ^ k) % 2 ^ 64
  rw [Nat.mod_eq_of_lt (show c < 2 ^ 64 by omega), Nat.mod_eq_of_lt (show k < 2 ^ 64 by omega), Nat.shiftLeft_eq]
theorem wd_app {a b : List Nat} : wd (a ++ b) = wd a + 256 ^ a.length * wd b := by
  induction a with
  | nil => simp [wd]
  | cons c a ih => simp only [List.cons_append, wd, List.length_cons, ih, Nat.pow_succ, Nat.mul_add, Nat.add_assoc]; congr 2; rw [Nat.mul_comm (256 ^ a.length) 256, Nat.mul_assoc]
theorem wd_lt {a : List Nat} (h : ∀ c ∈ a, c < 128) : wd a < 256 ^ a.length := by
  induction a with
  | nil => exact Nat.one_pos
  | cons c a ih =>
    have h1 := h c (List.mem_cons_self ..)
    have h2 := ih fun x hx => h x (List.mem_cons_of_mem _ hx)
    simp only [wd, List.length_cons, Nat.pow_succ]
    omega
theorem wd_8 {a : List Nat} (h : ∀ c ∈ a, c < 128) (h8 : a.length ≤ 8) : wd a < 2 ^ 63 := by
  rcases Nat.lt_or_ge a.length 8 with z | z
  · have := wd_lt h
    have h2 : 256 ^ a.length ≤ 256 ^ 7 := Nat.pow_le_pow_right (by decide) (by omega)
    omega
  · obtain ⟨x, b, e⟩ : ∃ b x, a = b ++ [x] := ⟨a.dropLast, a.getLast (by intro q; rw [q] at z; simp at z), (List.dropLast_concat_getLast _).symm⟩
    subst e
    rw [List.length_append, List.length_singleton] at z h8
    have h1 := wd_lt (a := x) fun c hc => h c (List.mem_append_left _ hc)
    have h2 := h b (List.mem_append_right _ (List.mem_singleton_self _))
    rw [wd_app, show x.length = 7 by omega]
    rw [show x.length = 7 by omega] at h1
    simp only [wd]
    omega
theorem wd_at {a : List Nat} (h : ∀ c ∈ a, c < 128) : ∀ {i : Nat}, i < a.length → wd a / 2 ^ (8 * i) % 256 = a.getD i 0 := by
  induction a with
  | nil => intro i hi; cases hi
  | cons c a ih =>
    intro i hi
    have h1 := h c (List.mem_cons_self ..)
    cases i with
    | zero => simp only [wd]; show (c + 256 * wd a) / 1 % 256 = c; omega
    | succ i =>
      have := ih (fun x hx => h x (List.mem_cons_of_mem _ hx)) (i := i) (by simpa using hi)
      rw [show 8 * (i + 1) = 8 + 8 * i by omega, Nat.pow_add, ← Nat.div_div_eq_div_mul]
      simp only [wd]
      rw [show (c + 256 * wd a) / 2 ^ 8 = wd a by omega, this]
      rfl
