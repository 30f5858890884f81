/-! ===== arrays of naturals ===== -/
def nA (o : Nat → Nat) : Nat → Int32 := fun k => nI (o k)
def updN (o : Nat → Nat) (k v : Nat) : Nat → Nat := fun j => if j = k then v else o j
theorem upd_nA (o : Nat → Nat) (k v : Nat) : upd (nA o) k (nI v) = nA (updN o k v) := by
  funext j
  simp only [upd, nA, updN]
  split <;> rfl
section KRowsN
variable {X : XT} {cc : ByteArray} {own : String} {Ts : List Cond} {rm : Room} {tys : List (ClassId × FieldType)} {nL k n pc : Nat} {ws : va_W} {lv : List (Nat × Value)} {st : List Value}
theorem k_ialdN (C : Cx X cc own Ts rm tys nL) {a : Nat} {cA : ClassId} {N j : Nat} {o : Nat → Nat} (q0 t0 : Nat) (ha : ws[q0]? = some (a, .inl (cA, N, .inl (nA o)))) (ht : tys[t0]? = some (cA, .int)) (hj : j < N) (hN : N < 2 ^ 31) (hd : decode cc pc = .ok (.iaload, 1)) (K : Kw X k n ws (pc + 1) lv (.int (nI (o j)) :: st)) : Kw X k n ws pc lv (.int (nI j) :: .ref a :: st) := k_iald C q0 t0 ha ht hj hN hd K
theorem k_iastN (C : Cx X cc own Ts rm tys nL) {a : Nat} {cA : ClassId} {N j : Nat} {o : Nat → Nat} {x : Nat} {ws' : va_W} (q0 t0 : Nat) (ha : ws[q0]? = some (a, .inl (cA, N, .inl (nA o)))) (ht : tys[t0]? = some (cA, .int)) (hj : j < N) (hN : N < 2 ^ 31) (hw : ws.set q0 (a, .inl (cA, N, .inl (nA (updN o j x)))) = ws') (hd : decode cc pc = .ok (.iastore, 1)) (K : Kw X k n ws' (pc + 1) lv st) : Kw X k n ws pc lv (.int (nI x) :: .int (nI j) :: .ref a :: st) := k_iast C q0 t0 ha ht hj hN (by rw [upd_nA]; exact hw) hd K
theorem k_if_eqN (C : Cx X cc own Ts rm tys nL) {x : Nat} (hx : x < 2 ^ 31) {off : Int} (tgt : Nat) (hd : decode cc pc = .ok (.ifCond .eq off, 3)) (ht : (pc : Int) + off = (tgt : Int)) (kt : x = 0 → Kw X k n ws tgt lv st) (kf : ¬ x = 0 → Kw X k n ws (pc + 3) lv st) : Kw X k n ws pc lv (.int (nI x) :: st) := k_if_eq C tgt hd ht (fun h => kt ((nI_eq (b := 0) hx (by decide)).mp h)) (fun h => kf (fun h2 => h ((nI_eq (b := 0) hx (by decide)).mpr h2)))
theorem k_if_neN (C : Cx X cc own Ts rm tys nL) {x : Nat} (hx : x < 2 ^ 31) {off : Int} (tgt : Nat) (hd : decode cc pc = .ok (.ifCond .ne off, 3)) (ht : (pc : Int) + off = (tgt : Int)) (kt : ¬ x = 0 → Kw X k n ws tgt lv st) (kf : x = 0 → Kw X k n ws (pc + 3) lv st) : Kw X k n ws pc lv (.int (nI x) :: st) := k_if_ne C tgt hd ht (fun h => kt (fun h2 => h ((nI_eq (b := 0) hx (by decide)).mpr h2))) (fun h => kf ((nI_eq (b := 0) hx (by decide)).mp h))
end KRowsN
theorem p1ne {g : Int64} (h : g ≠ 0) : ¬ 1 * g = 0 := by rw [Int64.one_mul]; exact h
theorem m1ne {g : Int64} (h : g ≠ 0) : ¬ (-1) * g = 0 := by
  intro h2
  apply h
  rw [Int64.neg_mul, Int64.one_mul] at h2
  have := congrArg (fun z => -z) h2
  simpa using this
/-! ===== the faces that the reference has found: how many, their normals, their offsets ===== -/
abbrev FT : Type := Nat × (Nat → Int64) × (Nat → Int64) × (Nat → Int64) × (Nat → Int64)
def knB (F : FT) (tx ty tz o : Int64) : Bool := anyB F.1 (fun f => (F.2.1 f == tx) && (F.2.2.1 f == ty) && (F.2.2.2.1 f == tz) && (F.2.2.2.2 f == o))
def addF (F : FT) (tx ty tz o : Int64) : FT := if knB F tx ty tz o = true then F else (F.1 + 1, vp_updL F.2.1 F.1 tx, vp_updL F.2.2.1 F.1 ty, vp_updL F.2.2.2.1 F.1 tz, vp_updL F.2.2.2.2 F.1 o)
def gcd3 (x y z : Int64) : Int64 := cmnL 64 (absL (cmnL 64 (absL x) (absL y))) (absL z)
def abvL (hx hy hz : Nat → Int64) (a b c p : Nat) : Int64 := dot3 (acx hy hz a b c) (acx hz hx a b c) (acx hx hy a b c) (hx p - hx a) (hy p - hy a) (hz p - hz a)
def ovr (n : Nat) (hx hy hz : Nat → Int64) (a b c : Nat) : Nat := cntB n (fun p => decide (0 < abvL hx hy hz a b c p))
def und (n : Nat) (hx hy hz : Nat → Int64) (a b c : Nat) : Nat := cntB n (fun p => decide (abvL hx hy hz a b c p < 0))
theorem ovr_s (n : Nat) (hx hy hz : Nat → Int64) (a b c : Nat) : ovr (n + 1) hx hy hz a b c = ovr n hx hy hz a b c + (if 0 < abvL hx hy hz a b c n then 1 else 0) := by simp [ovr, cntB]
theorem und_s (n : Nat) (hx hy hz : Nat → Int64) (a b c : Nat) : und (n + 1) hx hy hz a b c = und n hx hy hz a b c + (if abvL hx hy hz a b c n < 0 then 1 else 0) := by simp [und, cntB]
def triNo (n : Nat) (hx hy hz : Nat → Int64) (a b c : Nat) : Bool := (acx hy hz a b c == 0 && acx hz hx a b c == 0 && acx hx hy a b c == 0) || (ovr n hx hy hz a b c == 0 && und n hx hy hz a b c == 0) || (ovr n hx hy hz a b c != 0 && und n hx hy hz a b c != 0)
def triBy (n : Nat) (hx hy hz : Nat → Int64) (a b c : Nat) : Int64 := (if ovr n hx hy hz a b c = 0 then 1 else -1) * gcd3 (acx hy hz a b c) (acx hz hx a b c) (acx hx hy a b c)
def triA (F : FT) (hx hy hz : Nat → Int64) (a b c : Nat) (g : Int64) : FT := addF F (acx hy hz a b c / g) (acx hz hx a b c / g) (acx hx hy a b c / g) (acx hy hz a b c / g * hx a + acx hz hx a b c / g * hy a + acx hx hy a b c / g * hz a)

def triF (F : FT) (n : Nat) (hx hy hz : Nat → Int64) (a b c : Nat) : FT := if triNo n hx hy hz a b c = true then F else triA F hx hy hz a b c (triBy n hx hy hz a b c)
def inB (F : FT) (hx hy hz : Nat → Int64) (f p : Nat) : Bool := F.2.1 f * hx p + F.2.2.1 f * hy p + F.2.2.2.1 f * hz p == F.2.2.2.2 f
def btw (hx hy hz : Nat → Int64) (a b c : Nat) : Int64 := (hx c - hx a) * (hx c - hx b) + (hy c - hy a) * (hy c - hy b) + (hz c - hz a) * (hz c - hz b)
def lft (F : FT) (hx hy hz : Nat → Int64) (f a b c : Nat) : Int64 := acx hy hz a b c * F.2.1 f + acx hz hx a b c * F.2.2.1 f + acx hx hy a b c * F.2.2.2.1 f
/-- the point c doesn't speak against the step from a to b in the face f -/
def okB (F : FT) (hx hy hz : Nat → Int64) (f a b c : Nat) : Bool := if c ≠ a ∧ c ≠ b ∧ inB F hx hy hz f c = true then decide (0 < lft F hx hy hz f a b c) || (lft F hx hy hz f a b c == 0 && decide (btw hx hy hz a b c < 0)) else true
def allB : Nat → (Nat → Bool) → Bool
  | 0, _ => true
  | n + 1, p => allB n p && p n
theorem allB_iff {n : Nat} {p : Nat → Bool} : allB n p = true ↔ ∀ k, k < n → p k = true := by
  induction n with
  | zero => simp [allB]
  | succ n ih =>
    simp only [allB, Bool.and_eq_true, ih]
    constructor
    · rintro ⟨h1, h2⟩ k hk
      rcases Nat.lt_or_ge k n with h | h
      · exact h1 k h
      · rw [show k = n by omega]; exact h2
    · exact fun h => ⟨fun k hk => h k (by omega), h n (by omega)⟩
theorem allB_false {n j : Nat} {p : Nat → Bool} (h : allB j p = false) (hj : j ≤ n) : allB n p = false := by
  cases hn : allB n p with
  | false => rfl
  | true =>
    have := allB_iff.mpr (fun k hk => allB_iff.mp hn k (Nat.lt_of_lt_of_le hk hj))
    rw [h] at this; cases this
def gonB (F : FT) (n : Nat) (hx hy hz : Nat → Int64) (f a b : Nat) : Bool := decide (a ≠ b) && allB n (okB F hx hy hz f a b)
/-- what goesOn has found when the points below j are tried -/
def gonP (F : FT) (hx hy hz : Nat → Int64) (f a b j : Nat) : Bool := decide (a ≠ b) && allB j (okB F hx hy hz f a b)
theorem gonP_s (F : FT) (hx hy hz : Nat → Int64) (f a b j : Nat) : gonP F hx hy hz f a b (j + 1) = (gonP F hx hy hz f a b j && okB F hx hy hz f a b j) := by simp [gonP, allB, Bool.and_assoc]
theorem gon_false (F : FT) (hx hy hz : Nat → Int64) {n j f a b : Nat} (hj : j ≤ n) (h : gonP F hx hy hz f a b j = false) : gonP F hx hy hz f a b j = gonB F n hx hy hz f a b := by
  rw [h, gonB]
  unfold gonP at h
  cases hd : decide (a ≠ b) with
  | false => rfl
  | true =>
    rw [hd, Bool.true_and] at h
    rw [allB_false h hj]; rfl
def stpB (F : FT) (n : Nat) (hx hy hz : Nat → Int64) (f a b : Nat) : Bool := inB F hx hy hz f b && gonB F n hx hy hz f a b
/-- the first place below n that has p, as an int; -1: none -/
def fstI (n : Nat) (p : Nat → Bool) : Nat → Nat → Int32
  | 0, _ => -1
  | k + 1, i => if i < n then (if p i then nI i else fstI n p k (i + 1)) else -1
def bhd (F : FT) (n : Nat) (hx hy hz : Nat → Int64) (f a : Nat) : Int32 := fstI n (stpB F n hx hy hz f a) (n + 1) 0
