abbrev St : Type := Sa × List Sa × (Nat → Option Tr) × List Nat
def VV : St → Prop := fun (σ, H, V, B) => SV σ ∧ (∀ τ ∈ H, SV τ) ∧ H.length ≤ 6 ∧ (∀ v T, V v = some T → vt T ∧ len T ≤ 400) ∧ B.length ≤ 40 ∧ ∀ c ∈ B, c < 128
def savO (H : List Sa) (σ : Sa) : List Sa := if H.length = 6 then H.drop 1 ++ [σ] else H ++ [σ]
/-- the number of a position, a rope, ..: x is one from 0 to n -/
def isP (x : Int32) (n : Nat) : Bool := decide (nI 0 ≤ x ∧ x ≤ nI n)
def iN (x : Int32) : Nat := x.toNatClampNeg
theorem isP_nI {x : Int32} {n : Nat} (hn : n < 2 ^ 31) (h : isP x n = true) : x = nI (iN x) ∧ iN x ≤ n := by
  unfold isP at h
  rw [decide_eq_true_eq, nI_0] at h
  obtain ⟨k, hk, rfl⟩ := nI_of2 (M := nI n) (n := n) (nI_toInt hn) (Int32.not_lt.mpr h.1) h.2
  unfold iN
  rw [nI_clamp (by omega)]
  exact ⟨rfl, hk⟩
def A_setLeafSize (x : Int32) : St → Int32 × St := fun ((T, ring, rc, mks, s, bal, bd), H, V, B) =>
  if nI 2 ≤ x ∧ x ≤ nI 16 then (nI s, (T, ring, rc, mks, iN x, bal, bd), savO H (T, ring, rc, mks, s, bal, bd), V, B) else (-2, (T, ring, rc, mks, s, bal, bd), H, V, B)
def A_setBalancing (x : Int32) : St → Int32 × St := fun ((T, ring, rc, mks, s, bal, bd), H, V, B) =>
  if nI 0 ≤ x ∧ x ≤ nI 1 then (bal, (T, ring, rc, mks, s, x, bd), savO H (T, ring, rc, mks, s, bal, bd), V, B) else (-2, (T, ring, rc, mks, s, bal, bd), H, V, B)
def A_type (x : Int32) : St → Int32 × St := fun (σ, H, V, B) =>
  if ¬ ((nI 32 ≤ x ∧ x ≤ nI 126) ∨ x = nI 10) then (-2, σ, H, V, B) else if B.length = 40 then (-4, σ, H, V, B) else (nI (B.length + 1), σ, H, V, B ++ [iN x])
/-- the text after a change: balanced if that is wanted -/
def A_insert (x : Int32) : St → Int32 × St := fun ((T, ring, rc, mks, s, bal, bd), H, V, B) =>
  if ¬ isP x (len T) = true then (-1, (T, ring, rc, mks, s, bal, bd), H, V, B) else if B.length = 0 then (-3, (T, ring, rc, mks, s, bal, bd), H, V, B) else if 400 < len T + B.length then (-4, (T, ring, rc, mks, s, bal, bd), H, V, B) else
    (nI (len T + B.length), ((balO (insT s T (makeT s B) (iN x)) bal bd).1, ring, rc, fun i => mon (iN x) B.length (mks i), s, bal, (balO (insT s T (makeT s B) (iN x)) bal bd).2), savO H (T, ring, rc, mks, s, bal, bd), V, [])
/-- why there is no such piece: -1, -2, or 0 -/
def whyO (x y : Int32) (n : Nat) : Int32 := if ¬ isP x n = true ∨ ¬ isP y n = true then -1 else if y ≤ x then -2 else nI 0
def A_delete (x y : Int32) : St → Int32 × St := fun ((T, ring, rc, mks, s, bal, bd), H, V, B) =>
  if whyO x y (len T) < 0 then (whyO x y (len T), (T, ring, rc, mks, s, bal, bd), H, V, B) else
    (nI (len T - (iN y - iN x)), ((balO (outT s T (iN x) (iN y)).1 bal bd).1, ring, rc, fun i => mbk (iN x) (iN y) (mks i), s, bal, (balO (outT s T (iN x) (iN y)).1 bal bd).2), savO H (T, ring, rc, mks, s, bal, bd), V, B)
def A_cut (x y : Int32) : St → Int32 × St := fun ((T, ring, rc, mks, s, bal, bd), H, V, B) =>
  if whyO x y (len T) < 0 then (whyO x y (len T), (T, ring, rc, mks, s, bal, bd), H, V, B) else
    (nI (len T - (iN y - iN x)), ((balO (outT s T (iN x) (iN y)).1 bal bd).1, consR (outT s T (iN x) (iN y)).2 ring, min (rc + 1) 4, fun i => mbk (iN x) (iN y) (mks i), s, bal, (balO (outT s T (iN x) (iN y)).1 bal bd).2), savO H (T, ring, rc, mks, s, bal, bd), V, B)
def A_copy (x y : Int32) : St → Int32 × St := fun ((T, ring, rc, mks, s, bal, bd), H, V, B) =>
  if whyO x y (len T) < 0 then (whyO x y (len T), (T, ring, rc, mks, s, bal, bd), H, V, B) else
    (nI (nlv (outT s T (iN x) (iN y)).2), (T, consR (outT s T (iN x) (iN y)).2 ring, min (rc + 1) 4, mks, s, bal, bd), savO H (T, ring, rc, mks, s, bal, bd), V, B)
/-- is x the number of a rope of the ring -/
def isR (x : Int32) (rc : Nat) : Bool := decide (nI 0 ≤ x ∧ x < nI rc)
def A_paste (x r : Int32) : St → Int32 × St := fun ((T, ring, rc, mks, s, bal, bd), H, V, B) =>
  if ¬ isP x (len T) = true ∨ ¬ isR r rc = true then (-1, (T, ring, rc, mks, s, bal, bd), H, V, B) else if 400 < len T + len (ring (iN r)) then (-4, (T, ring, rc, mks, s, bal, bd), H, V, B) else
    (nI (len T + len (ring (iN r))), ((balO (insT s T (ring (iN r)) (iN x)) bal bd).1, ring, rc, fun i => mon (iN x) (len (ring (iN r))) (mks i), s, bal, (balO (insT s T (ring (iN r)) (iN x)) bal bd).2), savO H (T, ring, rc, mks, s, bal, bd), V, B)
def A_move (x y z : Int32) : St → Int32 × St := fun ((T, ring, rc, mks, s, bal, bd), H, V, B) =>
  if whyO x y (len T) < 0 then (whyO x y (len T), (T, ring, rc, mks, s, bal, bd), H, V, B) else if ¬ isP z (len T - (iN y - iN x)) = true then (-2, (T, ring, rc, mks, s, bal, bd), H, V, B) else
    (z + (y - x), ((balO (insT s (outT s T (iN x) (iN y)).1 (outT s T (iN x) (iN y)).2 (iN z)) bal bd).1, ring, rc, fun i => mon (iN z) (iN y - iN x) (mbk (iN x) (iN y) (mks i)), s, bal, (balO (insT s (outT s T (iN x) (iN y)).1 (outT s T (iN x) (iN y)).2 (iN z)) bal bd).2), savO H (T, ring, rc, mks, s, bal, bd), V, B)
def A_build : St → Int32 × St := fun ((T, ring, rc, mks, s, bal, bd), H, V, B) => (nI (dp (rebT T)), (rebT T, ring, rc, mks, s, bal, bd), savO H (T, ring, rc, mks, s, bal, bd), V, B)
def A_pack : St → Int32 × St := fun ((T, ring, rc, mks, s, bal, bd), H, V, B) => (nI (nlv (makeT s (ch T))), (makeT s (ch T), ring, rc, mks, s, bal, bd), savO H (T, ring, rc, mks, s, bal, bd), V, B)
def Q_length : St → Int32 := fun ((T, _), _) => nI (len T)
def Q_depth : St → Int32 := fun ((T, _), _) => nI (dp T)
def Q_leaves : St → Int32 := fun ((T, _), _) => nI (nlv T)
def Q_isBalanced : St → Int32 := fun ((T, _), _) => if balT T = true then nI 1 else nI 0
def Q_builds : St → Int32 := fun ((_, _, _, _, _, _, bd), _) => bd
/-- x is one of n things -/
def charO (T : Tr) (x : Int32) : Int32 := if isR x (len T) = true then nI ((ch T).getD (iN x) 0) else -1
def Q_character (x : Int32) : St → Int32 := fun ((T, _), _) => charO T x
def Q_leaf (x w : Int32) : St → Int32 := fun ((T, _), _) => if isR x (nlv T) = true then (if w = nI 0 then nI (sm ((fl 0 T).take (iN x))) else if w = nI 1 then nI ((fl 0 T).getD (iN x) (0, 0)).1 else if w = nI 2 then nI ((fl 0 T).getD (iN x) (0, 0)).2 else -2) else -1
def wayT : Tr → Nat → Nat → Nat
  | .append a b, k, w => if k < len a then wayT a k (2 * w % 1000000007) else wayT b (k - len a) ((2 * w + 1) % 1000000007)
  | _, _, w => w
def Q_way (x : Int32) : St → Int32 := fun ((T, _), _) => if isR x (len T) = true then nI (wayT T (iN x) 1) else -1
def A_setMark (x y : Int32) : St → Int32 × St := fun ((T, ring, rc, mks, s, bal, bd), H, V, B) =>
  if ¬ isP x 3 = true ∨ ¬ isP y (len T) = true then (-1, (T, ring, rc, mks, s, bal, bd), H, V, B) else
    (mks (iN x), (T, ring, rc, fun i => if i = iN x then y else mks i, s, bal, bd), savO H (T, ring, rc, mks, s, bal, bd), V, B)
def Q_mark (x : Int32) : St → Int32 := fun ((_, _, _, mks, _), _) => if isP x 3 = true then mks (iN x) else -1
def Q_ring : St → Int32 := fun ((_, _, rc, _), _) => nI rc
def Q_ofRing (x w : Int32) : St → Int32 := fun ((_, ring, rc, _), _) => if isR x rc = true then (if w = nI 0 then nI (len (ring (iN x))) else if w = nI 1 then nI (dp (ring (iN x))) else if w = nI 2 then nI (nlv (ring (iN x))) else -2) else -1
def Q_ringCharacter (x y : Int32) : St → Int32 := fun ((_, ring, rc, _), _) => if isR x rc = true then charO (ring (iN x)) y else -1
/-- the class's cells are as they were -/
def KC (hi hi' : Nat → Nat → Int32) : Prop := ∀ k, k < 55 → hi' k = hi k
theorem KC.rf {hi : Nat → Nat → Int32} : KC hi hi := fun _ _ => rfl
theorem KC.tr {a b c : Nat → Nat → Int32} (h1 : KC a b) (h2 : KC b c) : KC a c := fun k h => (h2 k h).trans (h1 k h)
theorem KC.cu {a b : Nat → Nat → Int32} {k : Nat} {f : Nat → Int32} (h : KC a b) (hk : 55 ≤ k) : KC a (cu b k f) := fun q hq => by rw [cu_n (by omega)]; exact h q hq
