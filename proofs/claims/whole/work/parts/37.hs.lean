/-! ===== pure words of the class, 4: wrapping ===== -/
def gzA (pm ml : Nat → Nat) (sz : Nat → Nat) : Nat → (Nat → Nat)
  | 0 => sz
  | f + 1 => updN (gzA pm ml sz f) (pm f) (ml f)
def grA (pm ml : Nat → Nat) (hs : Nat → Nat → Nat) (rn : Nat → Nat → Nat) : Nat → (Nat → Nat → Nat)
  | 0 => rn
  | f + 1 => updF (grA pm ml hs rn f) (pm f) (rngW (grA pm ml hs rn f (pm f)) (hs f) (ml f))
/-- the ring's corners of the face at place f -/
def hsS (n : Nat) (ax ay az : Nat → Int32) (S : CT) (co : Int32) (v0 : Nat → Nat) (f : Nat) : Nat → Nat := hsN (rgtB (S.2.2.2.1 (S.2.1 f)) (S.2.2.2.2.1 (S.2.1 f)) (S.2.2.2.2.2.1 (S.2.1 f)) ax ay az) (S.2.2.2.2.2.2.2 (S.2.1 f) &&& co) n (v0 f)
def wrpOK (n : Nat) (S : CT) (v0 ml : Nat → Nat) : Prop := n ≤ 24 ∧ 1 ≤ S.1 ∧ ∀ f, f < S.1 → ml f ≤ 24 ∧ v0 f < 24 ∧ ntF (S.2.2.2.2.2.2.2 (S.2.1 f) &&& coI S n) = nI (v0 f) ∧ bcF (S.2.2.2.2.2.2.2 (S.2.1 f) &&& coI S n) = nI (ml f)
theorem gzA_le {pm ml sz : Nat → Nat} {N : Nat} (h : ∀ i, sz i ≤ 24) (hm : ∀ f, f < N → ml f ≤ 24) : ∀ J, J ≤ N → ∀ i, gzA pm ml sz J i ≤ 24 := by
  intro J
  induction J with
  | zero => intro _; exact h
  | succ J ih =>
    intro hJ i
    simp only [gzA, updN]
    split
    · exact hm J (by omega)
    · exact ih (by omega) i
theorem grA_lt {pm ml : Nat → Nat} {hs rn : Nat → Nat → Nat} {N : Nat} (h : ∀ i k, rn i k < 24) (hm : ∀ f, f < N → ∀ k, hs f k < 24) : ∀ J, J ≤ N → ∀ i k, grA pm ml hs rn J i k < 24 := by
  intro J
  induction J with
  | zero => intro _; exact h
  | succ J ih =>
    intro hJ i k
    simp only [grA, updF]
    split
    · simp only [rngW]
      split
      · exact hm J (by omega) _
      · exact ih (by omega) _ _
    · exact ih (by omega) _ _
def rkN (rn : Nat → Nat → Nat) : Nat → Nat := fun x => rn x 0 * 24 + rn x 1
