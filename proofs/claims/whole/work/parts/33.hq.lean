/-! ===== pure words of the class, 2: faces ===== -/
def htL (a b c d x y z : Int64) : Int64 := a * x + b * y + c * z - d
def lyB (xs ys zs : Nat → Int32) (a b c : Nat) : Bool := !decide (acI ys zs a b c = 0) || !decide (acI zs xs a b c = 0) || !decide (acI xs ys a b c = 0)
def lyD (xs ys zs : Nat → Int32) (a b c : Nat) : Int64 := acI ys zs a b c * (xs a).toInt64 + acI zs xs a b c * (ys a).toInt64 + acI xs ys a b c * (zs a).toInt64
/-- the heights of points over the face i -/
def tH (nx ny nz dd : Nat → Int64) (i : Nat) (xs ys zs : Nat → Int32) : Nat → Int64 := fun k => htL (nx i) (ny i) (nz i) (dd i) (xs k).toInt64 (ys k).toInt64 (zs k).toInt64
def upB (H : Nat → Int64) (n : Nat) : Bool := anyB n (fun k => decide (0 < H k))
def dnB (H : Nat → Int64) (n : Nat) : Bool := anyB n (fun k => decide (H k < 0))
theorem upB_s (H : Nat → Int64) (n : Nat) : upB H (n + 1) = (upB H n || decide (0 < H n)) := rfl
theorem dnB_s (H : Nat → Int64) (n : Nat) : dnB H (n + 1) = (dnB H n || decide (H n < 0)) := rfl
/-- the set of the places below n where H is 0 -/
def btI (H : Nat → Int64) : Nat → Int32
  | 0 => 0
  | k + 1 => if H k = 0 then btI H k ||| (nI 1 <<< (nI k &&& 31)) else btI H k
theorem i64_zero {x : Int64} (h1 : ¬ 0 < x) (h2 : ¬ x < 0) : x = 0 := by
  rw [Int64.lt_iff_toInt_lt] at h1 h2
  rw [← Int64.toInt_inj]
  have : (0 : Int64).toInt = 0 := rfl
  omega
def ngI (b : Bool) (f : Nat → Int64) (i : Nat) : Nat → Int64 := if b = true then vp_updL f i (-(f i)) else f
def shI (g : Int64) (f : Nat → Int64) (i : Nat) : Nat → Int64 := if 1 < g then vp_updL f i (f i / g) else f
def rgtB (a b c : Int64) (xs ys zs : Nat → Int32) (p q r : Nat) : Bool := decide (a * acI ys zs p q r + b * acI zs xs p q r + c * acI xs ys p q r < 0)
def nrN (rt : Nat → Nat → Nat → Bool) (own : Int32) (here : Nat) : Nat → Nat
  | 0 => here
  | k + 1 => if k ≠ here ∧ hldB own k = true ∧ (nrN rt own here k = here ∨ rt here (nrN rt own here k) k = true) then k else nrN rt own here k
theorem nrN_lt {rt : Nat → Nat → Nat → Bool} {own : Int32} {here B : Nat} (h : here < B) : ∀ n, n ≤ B → nrN rt own here n < B := by
  intro n
  induction n with
  | zero => intro _; exact h
  | succ n ih =>
    intro hn
    simp only [nrN]
    split
    · omega
    · exact ih (by omega)
def bc1 (x : Int32) : Int32 := x - ((x.toUInt32 >>> ((nI 1).toUInt32 &&& Int32.toUInt32 31)).toInt32 &&& nI 1431655765)
def bc2 (x : Int32) : Int32 := (x &&& nI 858993459) + ((x.toUInt32 >>> ((nI 2).toUInt32 &&& Int32.toUInt32 31)).toInt32 &&& nI 858993459)
def bc3 (x : Int32) : Int32 := (x + (x.toUInt32 >>> ((nI 4).toUInt32 &&& Int32.toUInt32 31)).toInt32) &&& nI 252645135
def bc4 (x : Int32) : Int32 := x + (x.toUInt32 >>> ((nI 8).toUInt32 &&& Int32.toUInt32 31)).toInt32
def bc5 (x : Int32) : Int32 := x + (x.toUInt32 >>> ((nI 16).toUInt32 &&& Int32.toUInt32 31)).toInt32
def bcF (x : Int32) : Int32 := bc5 (bc4 (bc3 (bc2 (bc1 x)))) &&& nI 63
def shU (x : Int32) (k : Nat) : Int32 := (x.toUInt32 >>> ((nI k).toUInt32 &&& Int32.toUInt32 31)).toInt32
def nt5 (y : Int32) (n : Nat) : Int32 := nI n + shU y 1
def nt4 (y : Int32) (n : Nat) : Int32 := if y ≤ nI 4 then nt5 y n else nt5 (shU y 2) (n + 2)
def nt3 (y : Int32) (n : Nat) : Int32 := if y ≤ nI 16 then nt4 y n else nt4 (shU y 4) (n + 4)
def nt2 (y : Int32) (n : Nat) : Int32 := if y ≤ nI 256 then nt3 y n else nt3 (shU y 8) (n + 8)
def nt1 (y : Int32) (n : Nat) : Int32 := if y ≤ nI 65536 then nt2 y n else nt2 (shU y 16) (n + 16)
def ntY (x : Int32) : Int32 := (x ^^^ (-1)) &&& (x - nI 1)
theorem ntif_p {c : Prop} [Decidable c] {a b : Int32} (h : c) : (if c then a else b) = a := if_pos h
theorem ntif_n {c : Prop} [Decidable c] {a b : Int32} (h : ¬ c) : (if c then a else b) = b := if_neg h
def ntF (x : Int32) : Int32 := if 0 < ntY x then nt1 (ntY x) 1 else ntY x &&& nI 32
/-- the ring's corners one after another -/
def hsN (rt : Nat → Nat → Nat → Bool) (own : Int32) (n v : Nat) : Nat → Nat
  | 0 => v
  | k + 1 => nrN rt own (hsN rt own n v k) n
theorem hsN_lt {rt : Nat → Nat → Nat → Bool} {own : Int32} {n v B : Nat} (hv : v < B) (hn : n ≤ B) : ∀ k, hsN rt own n v k < B := by
  intro k
  induction k with
  | zero => exact hv
  | succ k ih => exact nrN_lt ih n hn
def rngW (r h : Nat → Nat) (J : Nat) : Nat → Nat := fun k => if k < J then h k else r k
theorem rngW_0 (r h : Nat → Nat) : rngW r h 0 = r := by funext k; simp [rngW]
theorem rngW_s (r h : Nat → Nat) (J : Nat) : updN (rngW r h J) J (h J) = rngW r h (J + 1) := by
  funext k
  simp only [updN, rngW]
  by_cases e : k = J
  · subst e; rw [if_pos rfl, if_pos (by omega)]
  · rw [if_neg e]
    by_cases h2 : k < J
    · rw [if_pos h2, if_pos (by omega)]
    · rw [if_neg h2, if_neg (by omega)]
theorem updF_uu (rn : Nat → Nat → Nat) (i : Nat) (a b : Nat → Nat) : updF (updF rn i a) i b = updF rn i b := by
  funext j
  simp only [updF]
  split <;> rfl
theorem updF_self (rn : Nat → Nat → Nat) (i : Nat) : updF rn i (rn i) = rn := by
  funext j
  simp only [updF]
  split
  · rename_i h; rw [h]
  · rfl
theorem updF_at (rn : Nat → Nat → Nat) (i : Nat) (a : Nat → Nat) : updF rn i a i = a := by simp [updF]
theorem updN_uu (f : Nat → Nat) (i a b : Nat) : updN (updN f i a) i b = updN f i b := by
  funext j
  simp only [updN]
  split <;> rfl
theorem upd_uu (f : Nat → Int32) (i : Nat) (a b : Int32) : upd (upd f i a) i b = upd f i b := by
  funext j
  simp only [upd]
  split <;> rfl
