/-! ===== pure words, 4: the building of the reference's hull ===== -/
def cpL (h : Nat → Int64) (xs : Nat → Int32) (J : Nat) : Nat → Int64 := fun k => if k < J then (xs k).toInt64 else h k
theorem cpL_0 (h : Nat → Int64) (xs : Nat → Int32) : cpL h xs 0 = h := by funext k; simp [cpL]
theorem cpL_s (h : Nat → Int64) (xs : Nat → Int32) (J : Nat) : vp_updL (cpL h xs J) J (xs J).toInt64 = cpL h xs (J + 1) := by
  funext k
  simp only [vp_updL, cpL]
  by_cases e : k = J
  · subst e; rw [if_pos rfl, if_pos (by omega)]
  · rw [if_neg e]
    by_cases h2 : k < J
    · rw [if_pos h2, if_pos (by omega)]
    · rw [if_neg h2, if_neg (by omega)]
def tC (n : Nat) (hx hy hz : Nat → Int64) (a b : Nat) (F : FT) : Nat → FT
  | 0 => F
  | k + 1 => triF (tC n hx hy hz a b F k) n hx hy hz a b (b + 1 + k)
def tB (n : Nat) (hx hy hz : Nat → Int64) (a : Nat) (F : FT) : Nat → FT
  | 0 => F
  | k + 1 => tC n hx hy hz a (a + 1 + k) (tB n hx hy hz a F k) (n - (a + 1 + k + 1))
def tA (n : Nat) (hx hy hz : Nat → Int64) (F : FT) : Nat → FT
  | 0 => F
  | a + 1 => tB n hx hy hz a (tA n hx hy hz F a) (n - (a + 1))
def F0' (F : FT) : FT := (0, F.2.1, F.2.2.1, F.2.2.2.1, F.2.2.2.2)
def rgA (o : Nat → Nat) (rg : Nat → Nat → Nat) (ml : Nat → Nat) : Nat → (Nat → Nat)
  | 0 => o
  | f + 1 => ringO (rgA o rg ml f) f (rg f) (ml f)
def szA (z ml : Nat → Nat) : Nat → (Nat → Nat)
  | 0 => z
  | f + 1 => updN (szA z ml f) f (ml f)
theorem tC_s (n : Nat) (hx hy hz : Nat → Int64) (a b c : Nat) (F : FT) (h : b + 1 ≤ c) : tC n hx hy hz a b F (c + 1 - (b + 1)) = triF (tC n hx hy hz a b F (c - (b + 1))) n hx hy hz a b c := by
  rw [show c + 1 - (b + 1) = (c - (b + 1)) + 1 by omega, tC, show b + 1 + (c - (b + 1)) = c by omega]
theorem tB_s (n : Nat) (hx hy hz : Nat → Int64) (a b : Nat) (F : FT) (h : a + 1 ≤ b) : tB n hx hy hz a F (b + 1 - (a + 1)) = tC n hx hy hz a b (tB n hx hy hz a F (b - (a + 1))) (n - (b + 1)) := by
  rw [show b + 1 - (a + 1) = (b - (a + 1)) + 1 by omega, tB, show a + 1 + (b - (a + 1)) = b by omega]
/-- what building needs of the points: no common factor 0, at most 63 faces before one more is tried, a ring for each face, at most 127 edges before one more -/
def bldOK (n : Nat) (hx hy hz : Nat → Int64) (F : FT) (o z p e : Nat → Nat) (lf rt : Nat → Int32) (rg : Nat → Nat → Nat) (ml : Nat → Nat) : Prop :=
  (∀ a b c, a < n → b < n → c < n → (acx hy hz a b c == 0 && acx hz hx a b c == 0 && acx hx hy a b c == 0) = false → gcd3 (acx hy hz a b c) (acx hz hx a b c) (acx hx hy a b c) ≠ 0) ∧
  (∀ a b c, a < n → b < n → c < n → a + 1 ≤ b → b + 1 ≤ c → (tC n hx hy hz a b (tB n hx hy hz a (tA n hx hy hz F a) (b - (a + 1))) (c - (b + 1))).1 < 64) ∧
  (tA n hx hy hz F n).1 ≤ 64 ∧
  (∀ f, f < (tA n hx hy hz F n).1 → ringOK (tA n hx hy hz F n) n hx hy hz f (rg f) (ml f)) ∧
  (∀ a k, a < n → k < n - (a + 1) → (rowE (frI (rgA o rg ml (tA n hx hy hz F n).1) (szA z ml (tA n hx hy hz F n).1) (ordL (erlB (rgA o rg ml (tA n hx hy hz F n).1)) p (tA n hx hy hz F n).1) (tA n hx hy hz F n).1) a (edgE (frI (rgA o rg ml (tA n hx hy hz F n).1) (szA z ml (tA n hx hy hz F n).1) (ordL (erlB (rgA o rg ml (tA n hx hy hz F n).1)) p (tA n hx hy hz F n).1) (tA n hx hy hz F n).1) n (0, e, lf, rt) a) k).1 < 128)
theorem rgA_lt {F : FT} {n : Nat} {hx hy hz : Nat → Int64} {o : Nat → Nat} {rg : Nat → Nat → Nat} {ml : Nat → Nat} {N : Nat} (hn : n ≤ 24) (ho : ∀ i, o i < 24) (hR : ∀ f, f < N → ringOK F n hx hy hz f (rg f) (ml f)) : ∀ J, J ≤ N → ∀ i, rgA o rg ml J i < 24 := by
  intro J
  induction J with
  | zero => intro _ i; exact ho i
  | succ J ih =>
    intro hJ i
    simp only [rgA, ringO]
    split
    · rename_i h
      exact Nat.lt_of_lt_of_le ((hR J (by omega)).2.2.1 _ (by omega)) hn
    · exact ih (by omega) i
theorem szA_le {F : FT} {n : Nat} {hx hy hz : Nat → Int64} {z : Nat → Nat} {rg : Nat → Nat → Nat} {ml : Nat → Nat} {N : Nat} (hz9 : ∀ i, z i ≤ 24) (hR : ∀ f, f < N → ringOK F n hx hy hz f (rg f) (ml f)) : ∀ J, J ≤ N → ∀ i, szA z ml J i ≤ 24 := by
  intro J
  induction J with
  | zero => intro _ i; exact hz9 i
  | succ J ih =>
    intro hJ i
    simp only [szA, updN]
    split
    · exact (hR J (by omega)).2.1
    · exact ih (by omega) i
