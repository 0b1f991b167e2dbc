theorem zge {n : Nat} (h : n < 2 ^ 31) : (0 ≤ nI n) ↔ True := by simp [nI_pos' h]
theorem zeq {n : Nat} (h : n < 2 ^ 31) : (nI n = 0) ↔ n = 0 := by rw [← nI_0, nI_eq h (by decide)]
theorem zgt {n : Nat} (h : n < 2 ^ 31) : (0 < nI n) ↔ 0 < n := by rw [← nI_0, nI_ltI (by decide) h]
theorem zle {n : Nat} (h : n < 2 ^ 31) : (nI n ≤ 0) ↔ n = 0 := by rw [← nI_0, nI_leI h (by decide)]; omega
theorem one_I : (1 : Int32) = nI 1 := rfl
theorem bz0 : (nI 0 = 0 ∨ nI 0 = 1) ↔ True := by decide
theorem bz1 : (nI 1 = 0 ∨ nI 1 = 1) ↔ True := by decide
theorem bz2 : (nI 0 = 0 ∨ nI 0 = nI 1) ↔ True := by decide
theorem bz3 : (nI 1 = 0 ∨ nI 1 = nI 1) ↔ True := by decide
theorem bz4 : (False ∨ True) ↔ True := by decide
theorem bz5 : (True ∨ False) ↔ True := by decide
theorem nn0 {n : Nat} : (0 ≤ (n : Int)) ↔ True := by simp
theorem zltT {a b : Nat} (h : a < b) : ((a : Int) < (b : Int)) ↔ True := by simp; exact h
theorem ltT {a b : Nat} (h : a < b) : (a < b) ↔ True := by simp [h]
theorem ltF {a b : Nat} (h : b ≤ a) : (a < b) ↔ False := by simp [h]
theorem leT {a b : Nat} (h : a ≤ b) : (a ≤ b) ↔ True := by simp [h]
theorem leF {a b : Nat} (h : b < a) : (a ≤ b) ↔ False := by simp [h]
theorem nI_dec {n : Nat} (h : 0 < n) : nI n + (-1) = nI (n - 1) := by
  obtain ⟨k, rfl⟩ : ∃ k, n = k + 1 := ⟨n - 1, by omega⟩
  rw [pk_m1]; rfl
theorem nI_dec2 {n : Nat} (h : 0 < n) : nI n + -nI 1 = nI (n - 1) := nI_dec h
theorem eqF {a b : Nat} (h : a ≠ b) : (a = b) ↔ False := by simp [h]
def cu (hi : Nat → Nat → Int32) (k : Nat) (f : Nat → Int32) : Nat → Nat → Int32 := fun a => if a = k then f else hi a
theorem u2_cu {hi : Nat → Nat → Int32} {k j : Nat} {x : Int32} : u2 hi k j x = cu hi k (upd (hi k) j x) := by
  funext a b
  unfold u2 cu upd
  by_cases h : a = k
  · subst h; simp
  · simp [h]
theorem cu_cu {hi : Nat → Nat → Int32} {k : Nat} {f g : Nat → Int32} : cu (cu hi k f) k g = cu hi k g := by
  funext a; unfold cu; split <;> rfl
theorem cu_s {hi : Nat → Nat → Int32} {k : Nat} {f : Nat → Int32} : cu hi k f k = f := by simp [cu]
theorem cu_n {hi : Nat → Nat → Int32} {k a : Nat} {f : Nat → Int32} (h : a ≠ k) : cu hi k f a = hi a := by simp [cu, h]
theorem cu_id {hi : Nat → Nat → Int32} {k : Nat} : cu hi k (hi k) = hi := by funext a; unfold cu; split <;> simp [*]
theorem cu_comm {hi : Nat → Nat → Int32} {k q : Nat} {f g : Nat → Int32} (h : k ≠ q) : cu (cu hi k f) q g = cu (cu hi q g) k f := by
  funext a; unfold cu; split <;> split <;> simp_all
theorem upd_s {f : Nat → Int32} {k : Nat} {x : Int32} : upd f k x k = x := pk_us
theorem upd_n {f : Nat → Int32} {k j : Nat} {x : Int32} (h : j ≠ k) : upd f k x j = f j := pk_un h
section ModelS
variable {hi : Nat → Nat → Int32} {hl : Nat → Nat → Int64} {r : Nat}
end ModelS

