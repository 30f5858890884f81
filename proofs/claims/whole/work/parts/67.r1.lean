/-! ===== Int64 as Int, while nothing overflows ===== -/
def R64 (a : Int64) (i B : Int) : Prop := a.toInt = i ∧ -B ≤ i ∧ i ≤ B
theorem R64.eq {a : Int64} {i B : Int} (h : R64 a i B) : a.toInt = i := h.1
theorem R64.add {a b : Int64} {i j A B : Int} (ha : R64 a i A) (hb : R64 b j B) (h : A + B < 9223372036854775808) : R64 (a + b) (i + j) (A + B) := by
  obtain ⟨a1, a2, a3⟩ := ha
  obtain ⟨b1, b2, b3⟩ := hb
  refine ⟨?_, by omega, by omega⟩
  rw [Int64.toInt_add, a1, b1]
  unfold Int.bmod
  simp only []
  split <;> omega
theorem R64.sub {a b : Int64} {i j A B : Int} (ha : R64 a i A) (hb : R64 b j B) (h : A + B < 9223372036854775808) : R64 (a - b) (i - j) (A + B) := by
  obtain ⟨a1, a2, a3⟩ := ha
  obtain ⟨b1, b2, b3⟩ := hb
  refine ⟨?_, by omega, by omega⟩
  rw [Int64.toInt_sub, a1, b1]
  unfold Int.bmod
  simp only []
  split <;> omega
theorem R64.neg {a : Int64} {i A : Int} (ha : R64 a i A) (h : A < 9223372036854775808) : R64 (-a) (-i) A := by
  obtain ⟨a1, a2, a3⟩ := ha
  refine ⟨?_, by omega, by omega⟩
  rw [Int64.toInt_neg, a1]
  unfold Int.bmod
  simp only []
  split <;> omega
theorem mul_bd {i j A B : Int} (a2 : -A ≤ i) (a3 : i ≤ A) (b2 : -B ≤ j) (b3 : j ≤ B) : -(A * B) ≤ i * j ∧ i * j ≤ A * B := by
  have h1 := Int.mul_nonneg (show 0 ≤ A + i by omega) (show 0 ≤ B + j by omega)
  have h2 := Int.mul_nonneg (show 0 ≤ A - i by omega) (show 0 ≤ B - j by omega)
  have h3 := Int.mul_nonneg (show 0 ≤ A + i by omega) (show 0 ≤ B - j by omega)
  have h4 := Int.mul_nonneg (show 0 ≤ A - i by omega) (show 0 ≤ B + j by omega)
  have e1 : (A + i) * (B + j) + (A - i) * (B - j) = 2 * (A * B) + 2 * (i * j) := by grind
  have e2 : (A + i) * (B - j) + (A - i) * (B + j) = 2 * (A * B) - 2 * (i * j) := by grind
  omega
theorem R64.mul {a b : Int64} {i j A B : Int} (ha : R64 a i A) (hb : R64 b j B) (h : A * B < 9223372036854775808) : R64 (a * b) (i * j) (A * B) := by
  obtain ⟨a1, a2, a3⟩ := ha
  obtain ⟨b1, b2, b3⟩ := hb
  have m := mul_bd a2 a3 b2 b3
  refine ⟨?_, m.1, m.2⟩
  rw [Int64.toInt_mul, a1, b1]
  generalize i * j = x at *
  unfold Int.bmod
  simp only []
  split <;> omega
theorem R64.mono {a : Int64} {i A B : Int} (ha : R64 a i A) (h : A ≤ B) : R64 a i B := ⟨ha.1, by have := ha.2; omega, by have := ha.2; omega⟩
theorem R64.to {a : Int64} {i j A : Int} (ha : R64 a i A) (h : i = j) : R64 a j A := h ▸ ha
theorem R64.i32 {x : Int32} {B : Int} (h : -B ≤ x.toInt ∧ x.toInt ≤ B) : R64 x.toInt64 x.toInt B := ⟨by simp, h.1, h.2⟩
theorem R64.lt0 {a : Int64} {i B : Int} (h : R64 a i B) : a < 0 ↔ i < 0 := by rw [Int64.lt_iff_toInt_lt, h.1]; rfl
theorem R64.gt0 {a : Int64} {i B : Int} (h : R64 a i B) : 0 < a ↔ 0 < i := by rw [Int64.lt_iff_toInt_lt, h.1]; rfl
theorem R64.eq0 {a : Int64} {i B : Int} (h : R64 a i B) : a = 0 ↔ i = 0 := by rw [← Int64.toInt_inj, h.1]; rfl
theorem R64.inj {a b : Int64} {i A B : Int} (h : R64 a i A) (h' : R64 b i B) : a = b := Int64.toInt_inj.mp (h.1.trans h'.1.symm)
theorem R64.iff {a b : Int64} {i j A B : Int} (h : R64 a i A) (h' : R64 b j B) : a = b ↔ i = j := by rw [← Int64.toInt_inj, h.1, h'.1]
/-- Int32 differences -/
theorem sub32 {x y : Int32} (hx : -512 ≤ x.toInt ∧ x.toInt ≤ 512) (hy : -512 ≤ y.toInt ∧ y.toInt ≤ 512) : (x - y).toInt = x.toInt - y.toInt := by
  rw [Int32.toInt_sub]
  unfold Int.bmod
  simp only []
  split <;> omega
theorem add32 {x y : Int32} (h : -1000000 ≤ x.toInt ∧ x.toInt ≤ 1000000) (h' : -1000000 ≤ y.toInt ∧ y.toInt ≤ 1000000) : (x + y).toInt = x.toInt + y.toInt := by
  rw [Int32.toInt_add]
  unfold Int.bmod
  simp only []
  split <;> omega
theorem R64.rem {x y : Int64} {i j B : Int} (hx : R64 x i B) (hy : R64 y j B) (hB : B < 4611686018427387904) : R64 (x - x / y * y) (i.tmod j) B := by
  obtain ⟨x1, x2, x3⟩ := hx
  obtain ⟨y1, y2, y3⟩ := hy
  have hd : (i.tdiv j).natAbs ≤ i.natAbs := by rw [Int.natAbs_tdiv]; exact Nat.div_le_self _ _
  have e := Int.mul_tdiv_add_tmod i j
  have hm : (i.tmod j).natAbs ≤ i.natAbs := by rw [Int.natAbs_tmod]; exact Nat.mod_le _ _
  have q1 : (x / y).toInt = i.tdiv j := by
    rw [Int64.toInt_div, x1, y1]
    unfold Int.bmod
    simp only []
    split <;> omega
  have q2 : (x / y * y).toInt = i.tdiv j * j := by
    rw [Int64.toInt_mul, q1, y1]
    rw [Int.mul_comm] at e
    generalize i.tdiv j * j = z at *
    unfold Int.bmod
    simp only []
    split <;> omega
  refine ⟨?_, by omega, by omega⟩
  rw [Int64.toInt_sub, x1, q2]
  rw [Int.mul_comm] at e
  generalize i.tdiv j * j = z at *
  unfold Int.bmod
  simp only []
  split <;> omega
def euI : Nat → Int → Int → Int
  | 0, x, _ => x
  | k + 1, x, y => if y = 0 then x else euI k y (x.tmod y)
theorem euI_gcd : ∀ (m k : Nat) (x y : Int), y.natAbs < 2 ^ m → 2 * m ≤ k → (euI k x y).natAbs = Nat.gcd x.natAbs y.natAbs := by
  intro m
  induction m with
  | zero =>
    intro k x y hy hk
    have : y = 0 := by omega
    subst this
    cases k with
    | zero => simp [euI]
    | succ k => simp [euI]
  | succ m ih =>
    intro k x y hy hk
    obtain ⟨k, rfl⟩ : ∃ k', k = k' + 2 := ⟨k - 2, by omega⟩
    by_cases h0 : y = 0
    · subst h0; simp [euI]
    · have e1 : euI (k + 2) x y = euI (k + 1) y (x.tmod y) := by simp [euI, h0]
      rw [e1]
      have hg1 : Nat.gcd x.natAbs y.natAbs = Nat.gcd y.natAbs (x.tmod y).natAbs := by
        rw [Int.natAbs_tmod, Nat.gcd_comm x.natAbs, Nat.gcd_rec y.natAbs x.natAbs, Nat.gcd_comm]
      rw [hg1]
      by_cases h1 : x.tmod y = 0
      · rw [h1]; simp [euI]
      · have e2 : euI (k + 1) y (x.tmod y) = euI k (x.tmod y) (y.tmod (x.tmod y)) := by simp [euI, h1]
        rw [e2]
        have hlt : (x.tmod y).natAbs < y.natAbs := by rw [Int.natAbs_tmod]; exact Nat.mod_lt _ (by omega)
        generalize x.tmod y = r at *
        have hr : (y.tmod r).natAbs = y.natAbs % r.natAbs := Int.natAbs_tmod _ _
        have hh : (y.tmod r).natAbs < 2 ^ m := by
          rw [hr]
          have h2 : y.natAbs % r.natAbs < r.natAbs := Nat.mod_lt _ (by omega)
          have hp : 2 ^ (m + 1) = 2 * 2 ^ m := by rw [Nat.pow_succ]; omega
          rcases Nat.lt_or_ge r.natAbs (2 ^ m + 1) with h3 | h3
          · omega
          · have h4 : y.natAbs % r.natAbs = y.natAbs - r.natAbs := by
              rw [Nat.mod_eq_sub_mod (by omega), Nat.mod_eq_of_lt (by omega)]
            omega
        rw [ih k r (y.tmod r) hh (by omega), hr, Nat.gcd_comm y.natAbs r.natAbs, Nat.gcd_rec r.natAbs y.natAbs, Nat.gcd_comm]
