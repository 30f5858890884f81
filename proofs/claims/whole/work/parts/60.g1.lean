/-! ===== geometry over Int: heights, turns, facets ===== -/
/-- the height of q over the plane with this normal through p -/
def zH (X Y Z : Nat → Int) (A B C : Int) (p q : Nat) : Int := A * (X q - X p) + B * (Y q - Y p) + C * (Z q - Z p)
def zN1 (_X Y Z : Nat → Int) (a b c : Nat) : Int := (Y b - Y a) * (Z c - Z a) - (Z b - Z a) * (Y c - Y a)
def zN2 (X _Y Z : Nat → Int) (a b c : Nat) : Int := (Z b - Z a) * (X c - X a) - (X b - X a) * (Z c - Z a)
def zN3 (X Y _Z : Nat → Int) (a b c : Nat) : Int := (X b - X a) * (Y c - Y a) - (Y b - Y a) * (X c - X a)
/-- the turn a, b, c seen from outside -/
def zO (X Y Z : Nat → Int) (A B C : Int) (a b c : Nat) : Int := A * zN1 X Y Z a b c + B * zN2 X Y Z a b c + C * zN3 X Y Z a b c
def zV (X Y Z : Nat → Int) (a b c d : Nat) : Int := zH X Y Z (zN1 X Y Z a b c) (zN2 X Y Z a b c) (zN3 X Y Z a b c) a d
def zB (X Y Z : Nat → Int) (a b c : Nat) : Int := (X c - X a) * (X c - X b) + (Y c - Y a) * (Y c - Y b) + (Z c - Z a) * (Z c - Z b)
/-- a, b, c in no line -/
def zL (X Y Z : Nat → Int) (a b c : Nat) : Prop := zN1 X Y Z a b c ≠ 0 ∨ zN2 X Y Z a b c ≠ 0 ∨ zN3 X Y Z a b c ≠ 0
def zI (X Y Z : Nat → Int) (A B C D : Int) (p : Nat) : Prop := A * X p + B * Y p + C * Z p = D
/-- a facet of the points below n -/
def zF (X Y Z : Nat → Int) (n : Nat) (A B C D : Int) : Prop := (∀ p, p < n → A * X p + B * Y p + C * Z p ≤ D) ∧ (∃ p, p < n ∧ A * X p + B * Y p + C * Z p < D) ∧ ∃ a b c, a < n ∧ b < n ∧ c < n ∧ zI X Y Z A B C D a ∧ zI X Y Z A B C D b ∧ zI X Y Z A B C D c ∧ zL X Y Z a b c
theorem sq_pos {A B C : Int} (h : A ≠ 0 ∨ B ≠ 0 ∨ C ≠ 0) : 0 < A * A + B * B + C * C := by
  have f : ∀ x : Int, 0 ≤ x * x := fun x => by
    rcases Int.le_total 0 x with h | h
    · exact Int.mul_nonneg h h
    · have := Int.mul_nonneg (Int.neg_nonneg.mpr h) (Int.neg_nonneg.mpr h); rwa [Int.neg_mul_neg] at this
  have g : ∀ x : Int, x ≠ 0 → 0 < x * x := fun x hx => by
    rcases Int.lt_or_gt_of_ne hx with h | h
    · have := Int.mul_pos (Int.neg_pos.mpr h) (Int.neg_pos.mpr h); rwa [Int.neg_mul_neg] at this
    · exact Int.mul_pos h h
  have h1 := f A; have h2 := f B; have h3 := f C
  rcases h with h | h | h
  · have := g A h; omega
  · have := g B h; omega
  · have := g C h; omega
theorem sq_nn (x : Int) : 0 ≤ x * x := by
  rcases Int.le_total 0 x with h | h
  · exact Int.mul_nonneg h h
  · have := Int.mul_nonneg (Int.neg_nonneg.mpr h) (Int.neg_nonneg.mpr h); rwa [Int.neg_mul_neg] at this
section ZG
variable {X Y Z : Nat → Int} {n : Nat} {A B C D A' B' C' D' : Int} {a b c d p q u v w : Nat}
theorem zH_I (hp : zI X Y Z A B C D p) : zH X Y Z A B C p q = A * X q + B * Y q + C * Z q - D := by unfold zH zI at *; grind
theorem zH_0 (hp : zI X Y Z A B C D p) (hq : zI X Y Z A B C D q) : zH X Y Z A B C p q = 0 := by unfold zH zI at *; grind
theorem zF_le (h : zF X Y Z n A B C D) (hp : zI X Y Z A B C D p) (hq : q < n) : zH X Y Z A B C p q ≤ 0 := by
  have := h.1 q hq; rw [zH_I hp]; omega
theorem zF_lt (h : zF X Y Z n A B C D) (hp : zI X Y Z A B C D p) (hq : q < n) (hn : ¬ zI X Y Z A B C D q) : zH X Y Z A B C p q < 0 := by
  have := h.1 q hq; rw [zH_I hp]; unfold zI at hn; omega
theorem zO_cyc : zO X Y Z A B C a b c = zO X Y Z A B C b c a := by unfold zO zN1 zN2 zN3; grind
theorem zO_sw : zO X Y Z A B C b a c = - zO X Y Z A B C a b c := by unfold zO zN1 zN2 zN3; grind
theorem zO_sw2 : zO X Y Z A B C a c b = - zO X Y Z A B C a b c := by unfold zO zN1 zN2 zN3; grind
theorem zO_r : zO X Y Z A B C a b a = 0 := by unfold zO zN1 zN2 zN3; grind
theorem zO_r2 : zO X Y Z A B C a b b = 0 := by unfold zO zN1 zN2 zN3; grind
theorem zF_ne (h : zF X Y Z n A B C D) : A ≠ 0 ∨ B ≠ 0 ∨ C ≠ 0 := by
  by_cases h1 : A = 0
  · by_cases h2 : B = 0
    · by_cases h3 : C = 0
      · exfalso
        obtain ⟨-, ⟨p, hp, h4⟩, a, b, c, ha, hb, hc, i1, -⟩ := h
        unfold zI at i1
        subst h1 h2 h3
        omega
      · exact Or.inr (Or.inr h3)
    · exact Or.inr (Or.inl h2)
  · exact Or.inl h1
/-- Plücker's relation in a plane, for any functional f -/
theorem zPl (f1 f2 f3 : Int) (ha : zH X Y Z A B C v a = 0) (hb : zH X Y Z A B C v b = 0) (hd : zH X Y Z A B C v d = 0) : zH X Y Z f1 f2 f3 v d * zO X Y Z A B C v b a + zH X Y Z f1 f2 f3 v b * zO X Y Z A B C v a d + zH X Y Z f1 f2 f3 v a * zO X Y Z A B C v d b = 0 := by
  unfold zH zO zN1 zN2 zN3 at *
  generalize X a - X v = a1 at *; generalize Y a - Y v = a2 at *; generalize Z a - Z v = a3 at *
  generalize X b - X v = b1 at *; generalize Y b - Y v = b2 at *; generalize Z b - Z v = b3 at *
  generalize X d - X v = d1 at *; generalize Y d - Y v = d2 at *; generalize Z d - Z v = d3 at *
  grind
theorem zPl3 (f1 f2 f3 : Int) (ha : zH X Y Z A B C v a = 0) (hb : zH X Y Z A B C v b = 0) (hc : zH X Y Z A B C v c = 0) : zH X Y Z f1 f2 f3 v b * zO X Y Z A B C v a c = zH X Y Z f1 f2 f3 v a * zO X Y Z A B C v b c + zH X Y Z f1 f2 f3 v c * zO X Y Z A B C v a b := by
  unfold zH zO zN1 zN2 zN3 at *
  generalize X a - X v = a1 at *; generalize Y a - Y v = a2 at *; generalize Z a - Z v = a3 at *
  generalize X b - X v = b1 at *; generalize Y b - Y v = b2 at *; generalize Z b - Z v = b3 at *
  generalize X c - X v = d1 at *; generalize Y c - Y v = d2 at *; generalize Z c - Z v = d3 at *
  grind
/-- in a plane with a normal that isn't 0, no turn means no triangle -/
theorem zO_line (hN : A ≠ 0 ∨ B ≠ 0 ∨ C ≠ 0) (hb : zH X Y Z A B C a b = 0) (hc : zH X Y Z A B C a c = 0) (h : zO X Y Z A B C a b c = 0) : zN1 X Y Z a b c = 0 ∧ zN2 X Y Z a b c = 0 ∧ zN3 X Y Z a b c = 0 := by
  have hs := sq_pos hN
  have k1 : (A * A + B * B + C * C) * zN1 X Y Z a b c = 0 := by
    unfold zO zN1 zN2 zN3 zH at *
    generalize X b - X a = b1 at *; generalize Y b - Y a = b2 at *; generalize Z b - Z a = b3 at *
    generalize X c - X a = c1 at *; generalize Y c - Y a = c2 at *; generalize Z c - Z a = c3 at *
    clear hs hN
    grind
  have k2 : (A * A + B * B + C * C) * zN2 X Y Z a b c = 0 := by
    unfold zO zN1 zN2 zN3 zH at *
    generalize X b - X a = b1 at *; generalize Y b - Y a = b2 at *; generalize Z b - Z a = b3 at *
    generalize X c - X a = c1 at *; generalize Y c - Y a = c2 at *; generalize Z c - Z a = c3 at *
    clear hs hN k1
    grind
  have k3 : (A * A + B * B + C * C) * zN3 X Y Z a b c = 0 := by
    unfold zO zN1 zN2 zN3 zH at *
    generalize X b - X a = b1 at *; generalize Y b - Y a = b2 at *; generalize Z b - Z a = b3 at *
    generalize X c - X a = c1 at *; generalize Y c - Y a = c2 at *; generalize Z c - Z a = c3 at *
    clear hs hN k1 k2
    grind
  have nz : A * A + B * B + C * C ≠ 0 := by omega
  exact ⟨(Int.mul_eq_zero.mp k1).resolve_left nz, (Int.mul_eq_zero.mp k2).resolve_left nz, (Int.mul_eq_zero.mp k3).resolve_left nz⟩
/-- a plane through three points in no line: its normal is a multiple of theirs -/
theorem zPar (hb : zH X Y Z A B C a b = 0) (hc : zH X Y Z A B C a c = 0) : A * zN2 X Y Z a b c = B * zN1 X Y Z a b c ∧ B * zN3 X Y Z a b c = C * zN2 X Y Z a b c ∧ C * zN1 X Y Z a b c = A * zN3 X Y Z a b c := by
  unfold zN1 zN2 zN3 zH at *
  generalize X b - X a = b1 at *; generalize Y b - Y a = b2 at *; generalize Z b - Z a = b3 at *
  generalize X c - X a = c1 at *; generalize Y c - Y a = c2 at *; generalize Z c - Z a = c3 at *
  refine ⟨?_, ?_, ?_⟩ <;> grind
theorem zPar2 (hL : zL X Y Z a b c) (hb : zH X Y Z A B C a b = 0) (hc : zH X Y Z A B C a c = 0) (hb' : zH X Y Z A' B' C' a b = 0) (hc' : zH X Y Z A' B' C' a c = 0) : A * B' = B * A' ∧ B * C' = C * B' ∧ C * A' = A * C' := by
  obtain ⟨h1, h2, h3⟩ := zPar hb hc
  obtain ⟨g1, g2, g3⟩ := zPar hb' hc'
  unfold zL at hL
  generalize zN1 X Y Z a b c = n1 at *; generalize zN2 X Y Z a b c = n2 at *; generalize zN3 X Y Z a b c = n3 at *
  clear hb hc hb' hc'
  rcases hL with h | h | h
  · have k1 : n1 * (A * B' - B * A') = 0 := by grind
    have k2 : n1 * (B * C' - C * B') = 0 := by grind
    have k3 : n1 * (C * A' - A * C') = 0 := by grind
    have := (Int.mul_eq_zero.mp k1).resolve_left h; have := (Int.mul_eq_zero.mp k2).resolve_left h; have := (Int.mul_eq_zero.mp k3).resolve_left h; omega
  · have k1 : n2 * (A * B' - B * A') = 0 := by grind
    have k2 : n2 * (B * C' - C * B') = 0 := by grind
    have k3 : n2 * (C * A' - A * C') = 0 := by grind
    have := (Int.mul_eq_zero.mp k1).resolve_left h; have := (Int.mul_eq_zero.mp k2).resolve_left h; have := (Int.mul_eq_zero.mp k3).resolve_left h; omega
  · have k1 : n3 * (A * B' - B * A') = 0 := by grind
    have k2 : n3 * (B * C' - C * B') = 0 := by grind
    have k3 : n3 * (C * A' - A * C') = 0 := by grind
    have := (Int.mul_eq_zero.mp k1).resolve_left h; have := (Int.mul_eq_zero.mp k2).resolve_left h; have := (Int.mul_eq_zero.mp k3).resolve_left h; omega
end ZG
/-- no common factor -/
def zP (A B C : Int) : Prop := Nat.gcd (Nat.gcd A.natAbs B.natAbs) C.natAbs = 1
theorem zP_abs {A B C A' B' C' : Int} (h : zP A B C) (h' : zP A' B' C') (x y : Int) (e1 : x * A' = y * A) (e2 : x * B' = y * B) (e3 : x * C' = y * C) : x.natAbs = y.natAbs := by
  have k1 : Nat.gcd (Nat.gcd (x.natAbs * A'.natAbs) (x.natAbs * B'.natAbs)) (x.natAbs * C'.natAbs) = x.natAbs := by
    rw [Nat.gcd_mul_left, Nat.gcd_mul_left, h', Nat.mul_one]
  have k2 : Nat.gcd (Nat.gcd (y.natAbs * A.natAbs) (y.natAbs * B.natAbs)) (y.natAbs * C.natAbs) = y.natAbs := by
    rw [Nat.gcd_mul_left, Nat.gcd_mul_left, h, Nat.mul_one]
  rw [← Int.natAbs_mul, ← Int.natAbs_mul, ← Int.natAbs_mul, e1, e2, e3, Int.natAbs_mul, Int.natAbs_mul, Int.natAbs_mul, k2] at k1
  exact k1.symm
section ZU
variable {X Y Z : Nat → Int} {n : Nat} {A B C D A' B' C' D' : Int} {a b c : Nat}
theorem zP_pm (h : zP A B C) (h' : zP A' B' C') (e1 : A * B' = B * A') (e2 : B * C' = C * B') (e3 : C * A' = A * C') : (A = A' ∧ B = B' ∧ C = C') ∨ (A = -A' ∧ B = -B' ∧ C = -C') := by
  have kA : A.natAbs = A'.natAbs := zP_abs h h' A A' (Int.mul_comm _ _) (by rw [e1, Int.mul_comm]) (by rw [← e3, Int.mul_comm])
  have kB : B.natAbs = B'.natAbs := zP_abs h h' B B' (by rw [← e1, Int.mul_comm]) (Int.mul_comm _ _) (by rw [e2, Int.mul_comm])
  have kC : C.natAbs = C'.natAbs := zP_abs h h' C C' (by rw [e3, Int.mul_comm]) (by rw [← e2, Int.mul_comm]) (Int.mul_comm _ _)
  rcases Int.natAbs_eq_natAbs_iff.mp kA with hA | hA <;> rcases Int.natAbs_eq_natAbs_iff.mp kB with hB | hB <;> rcases Int.natAbs_eq_natAbs_iff.mp kC with hC | hC <;> subst hA hB hC
  · exact Or.inl ⟨rfl, rfl, rfl⟩
  all_goals
    have s1 : ∀ x y : Int, x * y = -(x * y) → x = 0 ∨ y = 0 := fun x y h => Int.mul_eq_zero.mp (by omega)
    simp only [Int.neg_mul, Int.mul_neg] at e1 e2 e3
    grind
/-- two facets through the same three points in no line are one -/
theorem zUniq (h : zF X Y Z n A B C D) (h' : zF X Y Z n A' B' C' D') (hP : zP A B C) (hP' : zP A' B' C') (hL : zL X Y Z a b c) (ia : zI X Y Z A B C D a) (ib : zI X Y Z A B C D b) (ic : zI X Y Z A B C D c) (ia' : zI X Y Z A' B' C' D' a) (ib' : zI X Y Z A' B' C' D' b) (ic' : zI X Y Z A' B' C' D' c) : A = A' ∧ B = B' ∧ C = C' ∧ D = D' := by
  obtain ⟨e1, e2, e3⟩ := zPar2 hL (zH_0 ia ib) (zH_0 ia ic) (zH_0 ia' ib') (zH_0 ia' ic')
  rcases zP_pm hP hP' e1 e2 e3 with ⟨r1, r2, r3⟩ | ⟨r1, r2, r3⟩
  · refine ⟨r1, r2, r3, ?_⟩
    unfold zI at ia ia'
    rw [← ia, ← ia', r1, r2, r3]
  · exfalso
    obtain ⟨p, hp, hlt⟩ := h.2.1
    have := h'.1 p hp
    unfold zI at ia ia'
    subst r1 r2 r3
    simp only [Int.neg_mul] at ia hlt
    omega
end ZU
