/-! ===== pure words of the class, 5: answers ===== -/
def fcC (nx ny nz : Nat → Int64) (sz : Nat → Nat) (k w : Nat) : Int32 := if w = 0 then nI (sz k) else if w = 1 then (nx k).toInt32 else if w = 2 then (ny k).toInt32 else (nz k).toInt32
def egC (el eh : Nat → Nat) (al : Nat → Int32) (k w : Nat) : Int32 := if w = 0 then nI (el k) else if w = 1 then nI (eh k) else if w = 2 then al (el k * 24 + eh k) else al (eh k * 24 + el k)
abbrev c4D : UInt64 := 4616189618054758400
def mdC (s m : Int64) : UInt64 := if Op.cmpValue (FP.dcmp (FP.dmul c4D (FP.l2d s)) FP.dconst0) .l ≤ 0 then FP.dconst0 else FP.ddiv (FP.l2d m) (FP.dmul c4D (FP.l2d s))
def cnC (np nf ne : Nat) (co hb : Int32) (w : Nat) : Int32 := if w = 0 then nI np else if w = 1 then nI nf else if w = 2 then nI ne else if w = 3 then bcF co else hb
theorem rngB_out {n : Nat} {q : Int32} (hn : n < 2 ^ 31) (h : rngB (n + 1) q = false) (hn1 : n + 1 < 2 ^ 31) : q.toInt < 0 ∨ (n : Int) < q.toInt := by
  simp only [rngB, Bool.and_eq_false_iff, Bool.not_eq_false', decide_eq_true_eq] at h
  rcases h with h | h
  · exact Or.inl (Int32.lt_iff_toInt_lt.mp h)
  · have := Int32.le_iff_toInt_le.mp h
    rw [nI_toInt hn1] at this
    exact Or.inr (by omega)
