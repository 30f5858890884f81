/-! ===== pure words, 2: rings, the order of the faces, edges ===== -/
/-- the corners' row of face f, when J of the ring r are written -/
def ringO (o : Nat → Nat) (f : Nat) (r : Nat → Nat) (J : Nat) : Nat → Nat := fun i => if 24 * f ≤ i ∧ i < 24 * f + J then r (i - 24 * f) else o i
theorem ringO_0 (o : Nat → Nat) (f : Nat) (r : Nat → Nat) : ringO o f r 0 = o := by
  funext i
  simp only [ringO]
  rw [if_neg (by omega)]
theorem ringO_s (o : Nat → Nat) (f : Nat) (r : Nat → Nat) (J : Nat) : updN (ringO o f r J) ((24 * f) + J) (r J) = ringO o f r (J + 1) := by
  funext i
  simp only [updN, ringO]
  by_cases h : i = 24 * f + J
  · subst h
    rw [if_pos rfl, if_pos (by omega), show 24 * f + J - 24 * f = J by omega]
  · rw [if_neg h]
    by_cases h2 : 24 * f ≤ i ∧ i < 24 * f + J
    · rw [if_pos h2, if_pos (by omega)]
    · rw [if_neg h2, if_neg (by omega)]
/-- what the walk round face f needs: its first corner, its ring, its length -/
def ringOK (F : FT) (n : Nat) (hx hy hz : Nat → Int64) (f : Nat) (r : Nat → Nat) (m : Nat) : Prop :=
  1 ≤ m ∧ m ≤ 24 ∧ (∀ k, k < m → r k < n) ∧ r m = r 0 ∧ (∀ k, 0 < k → k < m → r k ≠ r 0) ∧ inB F hx hy hz f (r 0) = true ∧ (∀ k, k < m → bhd F n hx hy hz f (r k) = nI (r (k + 1))) ∧ (∀ k, k < r 0 → inB F hx hy hz f k = true → bhd F n hx hy hz f k < 0)
def keyO (o : Nat → Nat) (f : Nat) : Nat := 32 * o (24 * f) + o (24 * f + 1)
/-- f goes into the rows before place k -/
def insL (lt : Nat → Nat → Bool) (f : Nat) : Nat → (Nat → Nat) → (Nat → Nat)
  | 0, p => updN p 0 f
  | k + 1, p => if lt f (p k) = true then insL lt f k (updN p (k + 1) (p k)) else updN p (k + 1) f
def ordL (lt : Nat → Nat → Bool) (p : Nat → Nat) : Nat → (Nat → Nat)
  | 0 => p
  | n + 1 => insL lt n n (ordL lt p n)
theorem updN_lt {p : Nat → Nat} {k v B : Nat} (h : ∀ i, p i < B) (hv : v < B) : ∀ i, updN p k v i < B := by
  intro i
  simp only [updN]
  split
  · exact hv
  · exact h i
theorem insL_lt {lt : Nat → Nat → Bool} {f B : Nat} (hf : f < B) : ∀ (k : Nat) (p : Nat → Nat), (∀ i, p i < B) → ∀ i, insL lt f k p i < B := by
  intro k
  induction k with
  | zero => intro p h i; exact updN_lt h hf i
  | succ k ih =>
    intro p h i
    simp only [insL]
    split
    · exact ih _ (updN_lt h (h k)) i
    · exact updN_lt h hf i
theorem ordL_lt {lt : Nat → Nat → Bool} {p : Nat → Nat} {B : Nat} (h : ∀ i, p i < B) : ∀ n, n ≤ B → ∀ i, ordL lt p n i < B := by
  intro n
  induction n with
  | zero => intro _ i; exact h i
  | succ n ih => intro hn i; exact insL_lt (by omega) n _ (ih (by omega)) i
def erlB (o : Nat → Nat) (f g : Nat) : Bool := decide (keyO o f < keyO o g)
/-- the last place below k that has P, as an int; -1: none -/
def lstI (P : Nat → Bool) : Nat → Int32
  | 0 => -1
  | k + 1 => if P k = true then nI k else lstI P k
def dartB (o z : Nat → Nat) (g a b : Nat) : Nat → Bool := fun i => (o (24 * g + i) == a) && (o (24 * g + (i + 1) % z g) == b)
/-- the face, by its place in the order, whose ring goes from a to b -/
def frI (o z p : Nat → Nat) (nf a b : Nat) : Int32 := lstI (fun k => anyB (z (p k)) (dartB o z (p k) a b)) nf
abbrev ET : Type := Nat × (Nat → Nat) × (Nat → Int32) × (Nat → Int32)
def adE (fr : Nat → Nat → Int32) (E : ET) (a b : Nat) : ET := if fr a b < 0 then E else (E.1 + 1, updN E.2.1 E.1 (32 * a + b), upd E.2.2.1 E.1 (fr a b), upd E.2.2.2 E.1 (fr b a))
def rowE (fr : Nat → Nat → Int32) (a : Nat) (E : ET) : Nat → ET
  | 0 => E
  | k + 1 => adE fr (rowE fr a E k) a (a + 1 + k)
def edgE (fr : Nat → Nat → Int32) (n : Nat) (E : ET) : Nat → ET
  | 0 => E
  | a + 1 => rowE fr a (edgE fr n E a) (n - (a + 1))
