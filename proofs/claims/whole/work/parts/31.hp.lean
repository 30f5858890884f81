/-! ===== pure words of the class ===== -/
def hldB (s : Int32) (q : Nat) : Bool := !decide (s &&& (nI 1 <<< (nI q &&& 31)) = 0)
def acI (us vs : Nat → Int32) (a b c : Nat) : Int64 := (us b - us a).toInt64 * (vs c - vs a).toInt64 - (vs b - vs a).toInt64 * (us c - us a).toInt64
def cfL : Nat → Int64 → Int64 → Int64
  | 0, x, _ => x
  | k + 1, x, y => if y = 0 then x else cfL k y (x - x / y * y)
def cfA (a b : Int64) : Int64 := if cfL 64 a b < 0 then - cfL 64 a b else cfL 64 a b
def cpI (f g : Nat → Int32) (J : Nat) : Nat → Int32 := fun k => if k < J then g k else f k
theorem cpI_0 (f g : Nat → Int32) : cpI f g 0 = f := by funext k; simp [cpI]
theorem cpI_s (f g : Nat → Int32) (J : Nat) : upd (cpI f g J) J (g J) = cpI f g (J + 1) := by
  funext k
  simp only [upd, cpI]
  by_cases e : k = J
  · subst e; rw [if_pos rfl, if_pos (by omega)]
  · rw [if_neg e]
    by_cases h2 : k < J
    · rw [if_pos h2, if_pos (by omega)]
    · rw [if_neg h2, if_neg (by omega)]
section KRowsW
variable {X : XT} {cc : ByteArray} {own : String} {Ts : List Cond} {rm : Room} {tys : List (ClassId × FieldType)} {nL k n pc : Nat} {ws : va_W} {lv : List (Nat × Value)} {st : List Value}
theorem k_ldcw (C : Cx X cc own Ts rm tys nL) {i : Nat} {v : Int32} (hd : decode cc pc = .ok (.ldc_w i, 3)) (hc : Cond.constant own i v ∈ Ts) (K : Kw X k n ws (pc + 3) lv (.int v :: st)) : Kw X k n ws pc lv st := fun H locs ls hP hD hS hl => lv_ldcw C.hx C.hb C.hown (C.hts _ hc) hd (K H locs ls hP hD hS hl)
end KRowsW
