theorem finMin (P : Nat → Prop) (R : Nat → Nat → Prop) (tot : ∀ i j, P i → P j → R i j ∨ R j i) (tr : ∀ i j k, P i → P j → P k → R i j → R j k → R i k) : ∀ n, (∃ k, k < n ∧ P k) → ∃ b, b < n ∧ P b ∧ ∀ c, c < n → P c → R b c := by
  intro n
  induction n with
  | zero => rintro ⟨k, hk, _⟩; omega
  | succ n ih =>
    rintro ⟨k, hk, hP⟩
    by_cases hn : P n
    · by_cases he : ∃ k, k < n ∧ P k
      · obtain ⟨b, hb, hPb, hR⟩ := ih he
        rcases tot b n hPb hn with h | h
        · refine ⟨b, by omega, hPb, fun c hc hPc => ?_⟩
          rcases Nat.lt_or_ge c n with h2 | h2
          · exact hR c h2 hPc
          · rw [show c = n by omega]; exact h
        · refine ⟨n, by omega, hn, fun c hc hPc => ?_⟩
          rcases Nat.lt_or_ge c n with h2 | h2
          · exact tr n b c hn hPb hPc h (hR c h2 hPc)
          · rw [show c = n by omega]; exact (tot n n hn hn).elim id id
      · refine ⟨n, by omega, hn, fun c hc hPc => ?_⟩
        rcases Nat.lt_or_ge c n with h2 | h2
        · exact absurd ⟨c, h2, hPc⟩ he
        · rw [show c = n by omega]; exact (tot n n hn hn).elim id id
    · have hkn : k < n := by
        rcases Nat.lt_or_ge k n with h2 | h2
        · exact h2
        · exact absurd (show P n by rw [show n = k by omega]; exact hP) hn
      obtain ⟨b, hb, hPb, hR⟩ := ih ⟨k, hkn, hP⟩
      refine ⟨b, by omega, hPb, fun c hc hPc => ?_⟩
      rcases Nat.lt_or_ge c n with h2 | h2
      · exact hR c h2 hPc
      · exact absurd (show P n by rw [show n = c by omega]; exact hPc) hn
/-- the ring of the facet goes from a to b -/
def zE (X Y Z : Nat → Int) (n : Nat) (A B C D : Int) (a b : Nat) : Prop := a < n ∧ b < n ∧ a ≠ b ∧ zI X Y Z A B C D a ∧ zI X Y Z A B C D b ∧ ∀ c, c < n → c ≠ a → c ≠ b → zI X Y Z A B C D c → (0 < zO X Y Z A B C a b c ∨ (zO X Y Z A B C a b c = 0 ∧ zB X Y Z a b c < 0))
/-- a stands out of the facet -/
def zX (X Y Z : Nat → Int) (n : Nat) (A B C D : Int) (a : Nat) : Prop := a < n ∧ zI X Y Z A B C D a ∧ ∃ u v w : Int, ∀ c, c < n → c ≠ a → zI X Y Z A B C D c → zH X Y Z u v w a c < 0
def zD (X Y Z : Nat → Int) (n : Nat) : Prop := ∀ p q, p < n → q < n → p ≠ q → X p ≠ X q ∨ Y p ≠ Y q ∨ Z p ≠ Z q
def zM (X Y Z : Nat → Int) (n : Nat) : Prop := ∀ p, p < n → (-512 ≤ X p ∧ X p ≤ 512) ∧ (-512 ≤ Y p ∧ Y p ≤ 512) ∧ (-512 ≤ Z p ∧ Z p ≤ 512)
theorem pm_pos {x y : Int} (h : 0 < x * y) (hx : 0 < x) : 0 < y := by
  by_cases h2 : 0 < y
  · exact h2
  · have := Int.mul_nonneg (Int.le_of_lt hx) (show 0 ≤ -y by omega)
    rw [Int.mul_neg] at this; omega
theorem pm_nn {x y : Int} (h : 0 ≤ x * y) (hx : 0 < x) : 0 ≤ y := by
  by_cases h2 : y < 0
  · have := Int.mul_neg_of_pos_of_neg hx h2; omega
  · omega
theorem pm_z {x y : Int} (h : x * y = 0) (hx : 0 < x) : y = 0 := (Int.mul_eq_zero.mp h).resolve_left (by omega)
section ZE
variable {X Y Z : Nat → Int} {n : Nat} {A B C D A' B' C' D' : Int} {a b c d p q u v w : Nat}
theorem zE_ge (h : zE X Y Z n A B C D a b) (hc : c < n) (ic : zI X Y Z A B C D c) : 0 ≤ zO X Y Z A B C a b c := by
  by_cases h1 : c = a
  · subst h1; rw [zO_r]; exact Int.le_refl 0
  · by_cases h2 : c = b
    · subst h2; rw [zO_r2]; exact Int.le_refl 0
    · rcases h.2.2.2.2.2 c hc h1 h2 ic with h | h <;> omega
/-- on a line through a: who is nearer -/
theorem zRay (f1 f2 f3 : Int) (hD : zD X Y Z n) (ha : a < n) (hb : b < n) (hc : c < n) (hbc : b ≠ c) (hl : zN1 X Y Z a b c = 0 ∧ zN2 X Y Z a b c = 0 ∧ zN3 X Y Z a b c = 0) (tb : zH X Y Z f1 f2 f3 a b < 0) (tc : zH X Y Z f1 f2 f3 a c < 0) (h : zH X Y Z f1 f2 f3 a b ≤ zH X Y Z f1 f2 f3 a c) : zB X Y Z a b c < 0 := by
  obtain ⟨l1, l2, l3⟩ := hl
  have dbc := hD b c hb hc hbc
  unfold zN1 at l1; unfold zN2 at l2; unfold zN3 at l3
  unfold zB
  unfold zH at tb tc h
  have ex : X c - X b = (X c - X a) - (X b - X a) := by omega
  have ey : Y c - Y b = (Y c - Y a) - (Y b - Y a) := by omega
  have ez : Z c - Z b = (Z c - Z a) - (Z b - Z a) := by omega
  rw [ex, ey, ez]
  have dn : ¬ (X c - X a = X b - X a ∧ Y c - Y a = Y b - Y a ∧ Z c - Z a = Z b - Z a) := by
    rintro ⟨h1, h2, h3⟩
    rcases dbc with h | h | h <;> omega
  clear dbc ex ey ez
  generalize X b - X a = b1 at *; generalize Y b - Y a = b2 at *; generalize Z b - Z a = b3 at *
  generalize X c - X a = c1 at *; generalize Y c - Y a = c2 at *; generalize Z c - Z a = c3 at *
  generalize hs : f1 * b1 + f2 * b2 + f3 * b3 = s at *
  generalize ht : f1 * c1 + f2 * c2 + f3 * c3 = t at *
  have e1 : s * c1 = t * b1 := by rw [← hs, ← ht]; clear tb tc h dn hs ht; grind
  have e2 : s * c2 = t * b2 := by rw [← hs, ← ht]; clear tb tc h dn hs ht e1; grind
  have e3 : s * c3 = t * b3 := by rw [← hs, ← ht]; clear tb tc h dn hs ht e1 e2; grind
  have hst : s < t := by
    rcases Int.lt_or_eq_of_le h with h | h
    · exact h
    · exfalso
      apply dn
      subst h
      have hne : s ≠ 0 := by omega
      exact ⟨Int.eq_of_mul_eq_mul_left hne e1, Int.eq_of_mul_eq_mul_left hne e2, Int.eq_of_mul_eq_mul_left hne e3⟩
  have hb2 : 0 < b1 * b1 + b2 * b2 + b3 * b3 := by
    apply sq_pos
    by_cases z1 : b1 = 0
    · by_cases z2 : b2 = 0
      · refine Or.inr (Or.inr ?_)
        intro z3
        subst z1 z2 z3
        omega
      · exact Or.inr (Or.inl z2)
    · exact Or.inl z1
  have key : (s * s) * (-(c1 * (c1 - b1) + c2 * (c2 - b2) + c3 * (c3 - b3))) = (-t) * (t - s) * (b1 * b1 + b2 * b2 + b3 * b3) := by
    clear hb2 hst dn tb tc h hs ht
    grind
  have hpos : 0 < (-t) * (t - s) * (b1 * b1 + b2 * b2 + b3 * b3) := Int.mul_pos (Int.mul_pos (by omega) (by omega)) hb2
  rw [← key] at hpos
  have hss : 0 < s * s := Int.mul_pos_of_neg_of_neg tb tb
  have := pm_pos hpos hss
  omega
/-- a point that stands out has a next one -/
theorem zSucc (hD : zD X Y Z n) (hN : A ≠ 0 ∨ B ≠ 0 ∨ C ≠ 0) (hx : zX X Y Z n A B C D a) (ho : ∃ c, c < n ∧ c ≠ a ∧ zI X Y Z A B C D c) : ∃ b, zE X Y Z n A B C D a b := by
  obtain ⟨ha, ia, f1, f2, f3, hf⟩ := hx
  obtain ⟨b, hb, ⟨hba, ib⟩, hR⟩ := finMin (fun c => c < n ∧ c ≠ a ∧ zI X Y Z A B C D c) (fun b c => 0 < zO X Y Z A B C a b c ∨ (zO X Y Z A B C a b c = 0 ∧ zH X Y Z f1 f2 f3 a b ≤ zH X Y Z f1 f2 f3 a c)) (by
      intro i j hi hj
      have e := zO_sw2 (X := X) (Y := Y) (Z := Z) (A := A) (B := B) (C := C) (a := a) (b := i) (c := j)
      omega) (by
      rintro i j k ⟨hi, hi1, hi2⟩ ⟨hj, hj1, hj2⟩ ⟨hk, hk1, hk2⟩ h1 h2
      have ti := hf i hi hi1 hi2
      have tj := hf j hj hj1 hj2
      have tk := hf k hk hk1 hk2
      have pl := zPl3 f1 f2 f3 (zH_0 ia hi2) (zH_0 ia hj2) (zH_0 ia hk2)
      generalize zO X Y Z A B C a i k = oik at *
      generalize zO X Y Z A B C a i j = oij at *
      generalize zO X Y Z A B C a j k = ojk at *
      generalize zH X Y Z f1 f2 f3 a i = si at *
      generalize zH X Y Z f1 f2 f3 a j = sj at *
      generalize zH X Y Z f1 f2 f3 a k = sk at *
      have pl2 : (-sj) * oik = (-si) * ojk + (-sk) * oij := by
        rw [Int.neg_mul, Int.neg_mul, Int.neg_mul]; omega
      have hij : 0 ≤ oij := by omega
      have hjk : 0 ≤ ojk := by omega
      have m1 : 0 ≤ (-si) * ojk := Int.mul_nonneg (by omega) hjk
      have m2 : 0 ≤ (-sk) * oij := Int.mul_nonneg (by omega) hij
      have hik : 0 ≤ oik := pm_nn (x := -sj) (by omega) (by omega)
      rcases Int.lt_or_eq_of_le hik with h | h
      · exact Or.inl h
      · right
        refine ⟨h.symm, ?_⟩
        rw [← h, Int.mul_zero] at pl2
        have z1 : (-si) * ojk = 0 := by omega
        have z2 : (-sk) * oij = 0 := by omega
        have z3 := pm_z z1 (by omega)
        have z4 := pm_z z2 (by omega)
        omega) n (by obtain ⟨c, h1, h2, h3⟩ := ho; exact ⟨c, h1, h1, h2, h3⟩)
  refine ⟨b, ha, hb, fun h => ib.1 h.symm, ia, ib.2, fun c hc hca hcb ic => ?_⟩
  rcases hR c hc ⟨hc, hca, ic⟩ with h | ⟨h, h2⟩
  · exact Or.inl h
  · exact Or.inr ⟨h, zRay f1 f2 f3 hD ha hb hc (fun e => hcb e.symm) (zO_line hN (zH_0 ia ib.2) (zH_0 ia ic) h) (hf b hb ib.1 ib.2) (hf c hc hca ic) h2⟩
end ZE
