/-! ===== pure words: what the methods compute, over Int32 and Int64 as the machine has them ===== -/
abbrev tyG (cI cJ cF cD : ClassId) : List (ClassId × FieldType) := [(cI, .int), (cJ, .long), (cF, .object "HullBuilder$Face"), (cD, .double)]
theorem b2i_01 (b : Bool) : b2i b = 0 ∨ b2i b = 1 := by cases b <;> simp [b2i]
theorem nI0 : nI 0 = 0 := rfl
theorem nI1 : nI 1 = 1 := rfl
theorem nI2 : nI 2 = 2 := rfl
theorem b2iT : b2i true = 1 := rfl
theorem b2iF : b2i false = 0 := rfl
/-- some place below n has p -/
def anyB : Nat → (Nat → Bool) → Bool
  | 0, _ => false
  | n + 1, p => anyB n p || p n
theorem anyB_iff {n : Nat} {p : Nat → Bool} : anyB n p = true ↔ ∃ k, k < n ∧ p k = true := by
  induction n with
  | zero => simp [anyB]
  | succ n ih =>
    simp only [anyB, Bool.or_eq_true, ih]
    constructor
    · rintro (⟨k, h1, h2⟩ | h)
      · exact ⟨k, by omega, h2⟩
      · exact ⟨n, by omega, h⟩
    · rintro ⟨k, h1, h2⟩
      rcases Nat.lt_or_ge k n with h | h
      · exact Or.inl ⟨k, h, h2⟩
      · have : k = n := by omega
        subst this; exact Or.inr h2
/-- how many places below n have p -/
def cntB : Nat → (Nat → Bool) → Nat
  | 0, _ => 0
  | n + 1, p => cntB n p + (if p n then 1 else 0)
theorem cntB_le {n : Nat} {p : Nat → Bool} : cntB n p ≤ n := by
  induction n with
  | zero => simp [cntB]
  | succ n ih => simp only [cntB]; split <;> omega
/-- the first place from i on, below n, that has p; else n -/
def fstB (n : Nat) (p : Nat → Bool) : Nat → Nat → Nat
  | 0, i => i
  | f + 1, i => if i < n then (if p i then i else fstB n p f (i + 1)) else i
def goT (f s : Bool) : Int32 := if f then (if s then 0 else 2) else 1
def withinB (v m : Int32) : Bool := !decide (v < -m) && !decide (m < v)
def absL (a : Int64) : Int64 := if a < 0 then 0 - a else a
def cmnL : Nat → Int64 → Int64 → Int64
  | 0, x, _ => x
  | k + 1, x, y => if 0 < y then cmnL k y (x - x / y * y) else x
def acx (u v : Nat → Int64) (a b c : Nat) : Int64 := (u b - u a) * (v c - v a) - (v b - v a) * (u c - u a)
def dot3 (a b c x y z : Int64) : Int64 := a * x + b * y + c * z
/-- rows moved down by one from p on, below n -/
def shf {α : Type} (f : Nat → α) (p n : Nat) : Nat → α := fun k => if p ≤ k ∧ k + 1 < n then f (k + 1) else f k
theorem upd_at {f : Nat → Int32} {k j : Nat} {x : Int32} : upd f k x j = if j = k then x else f j := rfl
theorem updL_at {f : Nat → Int64} {k j : Nat} {x : Int64} : vp_updL f k x j = if j = k then x else f j := rfl
/-- the arrays of points in the model, with the words for them -/
def takB (n : Nat) (xs ys zs : Nat → Int32) (x y z : Int32) : Bool := anyB n (fun k => (xs k == x) && (ys k == y) && (zs k == z))
theorem takB_s (n : Nat) (xs ys zs : Nat → Int32) (x y z : Int32) : takB (n + 1) xs ys zs x y z = (takB n xs ys zs x y z || ((xs n == x) && (ys n == y) && (zs n == z))) := rfl
