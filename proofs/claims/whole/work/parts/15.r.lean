/-! ===== pure words, 3: questions ===== -/
def rngB (n : Nat) (q : Int32) : Bool := !decide (q < 0) && !decide (nI n ≤ q)
theorem rngB_t {n : Nat} {q : Int32} (hn : n < 2 ^ 31) (h : rngB n q = true) : ∃ j, j < n ∧ q = nI j ∧ q.toNatClampNeg = j := by
  simp only [rngB, Bool.and_eq_true, Bool.not_eq_true', decide_eq_false_iff_not] at h
  rcases pk_ix q hn with h1 | h1 | ⟨j, hj, e⟩
  · exact absurd h1 h.1
  · exact absurd h1 h.2
  · exact ⟨j, hj, e, by rw [e]; exact nI_clamp (by omega)⟩
theorem rngB_nI {n j : Nat} (hj : j < n) (hn : n < 2 ^ 31) : rngB n (nI j) = true := by
  simp only [rngB, Bool.and_eq_true, Bool.not_eq_true', decide_eq_false_iff_not]
  exact ⟨nI_pos (by omega), nI_ge hj hn⟩
def whB (n : Nat) (q : Int32) : Bool := !decide (q < 0) && !decide (nI n < q)
theorem whB_t {n : Nat} {q : Int32} (hn : n < 2 ^ 30) (h : whB n q = true) : ∃ j, j ≤ n ∧ q = nI j ∧ q.toNatClampNeg = j := by
  simp only [whB, Bool.and_eq_true, Bool.not_eq_true', decide_eq_false_iff_not] at h
  rcases pk_ix q (n := n + 1) (by omega) with h1 | h1 | ⟨j, hj, e⟩
  · exact absurd h1 h.1
  · exfalso
    apply h.2
    have a := Int32.le_iff_toInt_le.mp h1
    rw [nI_toInt (by omega)] at a
    rw [Int32.lt_iff_toInt_lt, nI_toInt (by omega)]
    omega
  · exact ⟨j, by omega, e, by rw [e]; exact nI_clamp (by omega)⟩
theorem anyB_mono {j n : Nat} {p : Nat → Bool} (h : anyB j p = true) (hj : j ≤ n) : anyB n p = true := by
  obtain ⟨k, h1, h2⟩ := anyB_iff.mp h
  exact anyB_iff.mpr ⟨k, by omega, h2⟩
/-- the volume of four points, as the reference has it -/
def vlL (xs ys zs : Nat → Int32) (a b c d : Nat) : Int64 :=
  ((ys b - ys a).toInt64 * (zs c - zs a).toInt64 - (zs b - zs a).toInt64 * (ys c - ys a).toInt64) * (xs d - xs a).toInt64
  + ((zs b - zs a).toInt64 * (xs c - xs a).toInt64 - (xs b - xs a).toInt64 * (zs c - zs a).toInt64) * (ys d - ys a).toInt64
  + ((xs b - xs a).toInt64 * (ys c - ys a).toInt64 - (ys b - ys a).toInt64 * (xs c - xs a).toInt64) * (zs d - zs a).toInt64
def slD (V : Nat → Nat → Nat → Nat → Int64) (a b c k : Nat) : Bool := anyB k (fun i => V a b c (c + 1 + i) != 0)
def slC (V : Nat → Nat → Nat → Nat → Int64) (n a b k : Nat) : Bool := anyB k (fun i => slD V a b (b + 1 + i) (n - (b + 1 + i + 1)))
def slB (V : Nat → Nat → Nat → Nat → Int64) (n a k : Nat) : Bool := anyB k (fun i => slC V n a (a + 1 + i) (n - (a + 1 + i + 1)))
def slA (V : Nat → Nat → Nat → Nat → Int64) (n k : Nat) : Bool := anyB k (fun i => slB V n i (n - (i + 1)))
def sldB (n : Nat) (xs ys zs : Nat → Int32) : Bool := slA (vlL xs ys zs) n n
theorem slD_s (V : Nat → Nat → Nat → Nat → Int64) (a b c d : Nat) (h : c + 1 ≤ d) : slD V a b c (d + 1 - (c + 1)) = (slD V a b c (d - (c + 1)) || (V a b c d != 0)) := by
  rw [show d + 1 - (c + 1) = (d - (c + 1)) + 1 by omega, slD, anyB, show c + 1 + (d - (c + 1)) = d by omega]; rfl
theorem slC_s (V : Nat → Nat → Nat → Nat → Int64) (n a b c : Nat) (h : b + 1 ≤ c) : slC V n a b (c + 1 - (b + 1)) = (slC V n a b (c - (b + 1)) || slD V a b c (n - (c + 1))) := by
  rw [show c + 1 - (b + 1) = (c - (b + 1)) + 1 by omega, slC, anyB, show b + 1 + (c - (b + 1)) = c by omega]; rfl
theorem slB_s (V : Nat → Nat → Nat → Nat → Int64) (n a b : Nat) (h : a + 1 ≤ b) : slB V n a (b + 1 - (a + 1)) = (slB V n a (b - (a + 1)) || slC V n a b (n - (b + 1))) := by
  rw [show b + 1 - (a + 1) = (b - (a + 1)) + 1 by omega, slB, anyB, show a + 1 + (b - (a + 1)) = b by omega]; rfl
theorem slA_s (V : Nat → Nat → Nat → Nat → Int64) (n a : Nat) : slA V n (a + 1) = (slA V n a || slB V n a (n - (a + 1))) := rfl
def ofV (xs ys zs : Nat → Int32) (k w : Nat) : Int32 := if w = 0 then xs k else if w = 1 then ys k else zs k
def fcV (F : FT) (z : Nat → Nat) (k w : Nat) : Int32 := if w = 0 then nI (z k) else if w = 1 then (F.2.1 k).toInt32 else if w = 2 then (F.2.2.1 k).toInt32 else (F.2.2.2.1 k).toInt32
def egV (E : ET) (k w : Nat) : Int32 := if w = 0 then nI (E.2.1 k / 32) else if w = 1 then nI (E.2.1 k % 32) else if w = 2 then E.2.2.1 k else E.2.2.2 k
/-- an end of an edge -/
def icB (n : Nat) (e : Nat → Nat) (q : Int32) : Bool := anyB n (fun k => decide (nI (e k / 32) = q) || decide (nI (e k % 32) = q))
theorem icB_s (n : Nat) (e : Nat → Nat) (q : Int32) : icB (n + 1) e q = (icB n e q || (decide (nI (e n / 32) = q) || decide (nI (e n % 32) = q))) := rfl
/-- the corner furthest in a direction, among the points below n: its number (-1: none), how far -/
def supP (ic : Nat → Bool) (d : Nat → Int64) : Nat → Int32 × Int64
  | 0 => (-1, 0)
  | n + 1 => if ic n = true ∧ ((supP ic d n).1 < 0 ∨ (supP ic d n).2 < d n) then (nI n, d n) else supP ic d n
def sdI (d : Nat → Int64) : Nat → Int32
  | 0 => 1
  | n + 1 => if 0 < d n then -1 else if d n = 0 ∧ sdI d n = 1 then 0 else sdI d n
def byL (hx hy hz : Nat → Int64) (w : Int32) (a b c : Nat) : Int64 := if w < 0 then 1 else if w = 0 then hx a + hx b + hx c else if w = 1 then hy a + hy b + hy c else hz a + hz b + hz c
def sixL (hx hy hz : Nat → Int64) (a b c : Nat) : Int64 := hx a * (hy b * hz c - hz b * hy c) + hy a * (hz b * hx c - hx b * hz c) + hz a * (hx b * hy c - hy b * hx c)
def trmL (o : Nat → Nat) (hx hy hz : Nat → Int64) (w : Int32) (f k : Nat) : Int64 := sixL hx hy hz (o (24 * f)) (o ((24 * f) + k)) (o (((24 * f) + k) + 1)) * byL hx hy hz w (o (24 * f)) (o ((24 * f) + k)) (o (((24 * f) + k) + 1))
def sum2 (t : Nat → Int64) (s : Int64) : Nat → Int64
  | 0 => s
  | k + 1 => sum2 t s k + t (k + 1)
def sum1 (o z : Nat → Nat) (hx hy hz : Nat → Int64) (w : Int32) : Nat → Int64
  | 0 => 0
  | f + 1 => sum2 (trmL o hx hy hz w f) (sum1 o z hx hy hz w f) (z f - 2)
/-- steps: the far array, the edges' relaxing -/
def farI (g : Nat → Nat) (a J : Nat) : Nat → Nat := fun q => if q < J then (if q = a then 0 else 99) else g q
theorem farI_s (g : Nat → Nat) (a J : Nat) : farI g a (J + 1) = updN (farI g a J) J (if J = a then 0 else 99) := by
  funext q
  simp only [farI, updN]
  by_cases h : q = J
  · subst h; rw [if_pos rfl, if_pos (by omega)]
  · rw [if_neg h]
    by_cases h2 : q < J
    · rw [if_pos h2, if_pos (by omega)]
    · rw [if_neg h2, if_neg (by omega)]
theorem farI_le {g : Nat → Nat} (a J : Nat) (h : ∀ i, g i ≤ 99) : ∀ i, farI g a J i ≤ 99 := by
  intro i
  simp only [farI]
  split
  · split <;> omega
  · exact h i
def rlx1 (g : Nat → Nat) (x y : Nat) : Nat → Nat := updN g x (if g y + 1 < g x then g y + 1 else g x)
theorem rlx1_le {g : Nat → Nat} (x y : Nat) (h : ∀ i, g i ≤ 99) : ∀ i, rlx1 g x y i ≤ 99 := by
  intro i
  have := h x
  simp only [rlx1, updN]
  split
  · split <;> omega
  · exact h i
def rlxE (e : Nat → Nat) (g : Nat → Nat) : Nat → (Nat → Nat)
  | 0 => g
  | k + 1 => rlx1 (rlx1 (rlxE e g k) (e k / 32) (e k % 32)) (e k % 32) (e k / 32)
theorem rlxE_le {e g : Nat → Nat} (h : ∀ i, g i ≤ 99) : ∀ k i, rlxE e g k i ≤ 99 := by
  intro k
  induction k with
  | zero => exact h
  | succ k ih => exact rlx1_le _ _ (rlx1_le _ _ ih)
def rlxN (e : Nat → Nat) (ne : Nat) (g : Nat → Nat) : Nat → (Nat → Nat)
  | 0 => g
  | k + 1 => rlxE e (rlxN e ne g k) ne
theorem rlxN_le {e g : Nat → Nat} {ne : Nat} (h : ∀ i, g i ≤ 99) : ∀ k i, rlxN e ne g k i ≤ 99 := by
  intro k
  induction k with
  | zero => exact h
  | succ k ih => exact rlxE_le ih ne
theorem shf_0 {α : Type} (f : Nat → α) (q : Nat) : (fun k => if q ≤ k ∧ k < q then f (k + 1) else f k) = f := by
  funext k
  rw [if_neg (by omega)]
/-- rows moved down by one at the places q .. J - 1 -/
def shfJ (f : Nat → Int32) (q J : Nat) : Nat → Int32 := fun k => if q ≤ k ∧ k < J then f (k + 1) else f k
theorem shfJ_0 (f : Nat → Int32) (q : Nat) : shfJ f q q = f := by
  funext k
  simp only [shfJ]
  rw [if_neg (by omega)]
theorem shfJ_s (f : Nat → Int32) (q J : Nat) (h : q ≤ J) : upd (shfJ f q J) J (shfJ f q J (J + 1)) = shfJ f q (J + 1) := by
  funext k
  simp only [upd, shfJ]
  by_cases e : k = J
  · subst e
    rw [if_pos rfl, if_neg (by omega), if_pos (by omega)]
  · rw [if_neg e]
    by_cases h2 : q ≤ k ∧ k < J
    · rw [if_pos h2, if_pos (by omega)]
    · rw [if_neg h2, if_neg (by omega)]
theorem rng_e (n : Nat) (q : Int32) : rngB n q = (!decide (q < 0) && !decide (nI n ≤ q)) := rfl
theorem sl_end {s : Bool} {V : Nat → Nat → Nat → Nat → Int64} {a b c j n : Nat} (hj : j ≤ n) (h : (s || slD V a b c (j - (c + 1))) = true) : (s || slD V a b c (j - (c + 1))) = (s || slD V a b c (n - (c + 1))) := by
  rw [h]
  cases s with
  | true => rfl
  | false =>
    simp only [Bool.false_or] at h ⊢
    exact (anyB_mono h (by omega)).symm
def cnV (np : Nat) (bt : Bool) (nf ne nc : Nat) (bd : Int32) (w : Nat) : Int32 := if w = 0 then nI np else if w = 1 then (if bt = true then nI nf else 0) else if w = 2 then (if bt = true then nI ne else 0) else if w = 3 then (if bt = true then nI nc else 0) else bd
def ptB (np : Nat) (xs ys zs : Nat → Int32) (x y z : Int32) : Bool := withinB x (nI 512) && withinB y (nI 512) && withinB z (nI 512) && !takB np xs ys zs x y z
theorem rlx_pos {g : Nat → Nat} {x y : Nat} (h : g y + 1 < g x) : updN g x (g y + 1) = rlx1 g x y := by rw [rlx1, if_pos h]
theorem rlx_neg {g : Nat → Nat} {x y : Nat} (h : g x ≤ g y + 1) : updN g x (g x) = rlx1 g x y := by rw [rlx1, if_neg (Nat.not_lt.mpr h)]
theorem cntB_s (n : Nat) (p : Nat → Bool) : cntB (n + 1) p = cntB n p + (if p n then 1 else 0) := rfl
