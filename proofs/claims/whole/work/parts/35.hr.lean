/-! ===== pure words of the class, 3: the hull ===== -/
theorem updL_uu (f : Nat → Int64) (i : Nat) (a b : Int64) : vp_updL (vp_updL f i a) i b = vp_updL f i b := by
  funext j
  simp only [vp_updL]
  split <;> rfl
theorem updL_self (f : Nat → Int64) (i : Nat) : vp_updL f i (f i) = f := by
  funext j
  simp only [vp_updL]
  split
  · rename_i h; rw [h]
  · rfl
theorem upd_self (f : Nat → Int32) (i : Nat) : upd f i (f i) = f := by
  funext j
  simp only [upd]
  split
  · rename_i h; rw [h]
  · rfl
theorem updL_i (f : Nat → Int64) (i : Nat) (a : Int64) : vp_updL f i a i = a := by simp [vp_updL]
def filI (f : Nat → Int32) (v : Int32) (J : Nat) : Nat → Int32 := fun k => if k < J then v else f k
theorem filI_0 (f : Nat → Int32) (v : Int32) : filI f v 0 = f := by funext k; simp [filI]
theorem filI_s (f : Nat → Int32) (v : Int32) (J : Nat) : upd (filI f v J) J v = filI f v (J + 1) := by
  funext k
  simp only [upd, filI]
  by_cases e : k = J
  · subst e; rw [if_pos rfl, if_pos (by omega)]
  · rw [if_neg e]
    by_cases h2 : k < J
    · rw [if_pos h2, if_pos (by omega)]
    · rw [if_neg h2, if_neg (by omega)]
def filL (f : Nat → Int64) (v : Int64) (J : Nat) : Nat → Int64 := fun k => if k < J then v else f k
theorem filL_0 (f : Nat → Int64) (v : Int64) : filL f v 0 = f := by funext k; simp [filL]
theorem filL_s (f : Nat → Int64) (v : Int64) (J : Nat) : vp_updL (filL f v J) J v = filL f v (J + 1) := by
  funext k
  simp only [vp_updL, filL]
  by_cases e : k = J
  · subst e; rw [if_pos rfl, if_pos (by omega)]
  · rw [if_neg e]
    by_cases h2 : k < J
    · rw [if_pos h2, if_pos (by omega)]
    · rw [if_neg h2, if_neg (by omega)]
/-- heights over the plane through three points -/
def ptH (xs ys zs : Nat → Int32) (a b c : Nat) : Nat → Int64 := fun k => htL (acI ys zs a b c) (acI zs xs a b c) (acI xs ys a b c) (lyD xs ys zs a b c) (xs k).toInt64 (ys k).toInt64 (zs k).toInt64
theorem tH_upd (nx ny nz dd : Nat → Int64) (i : Nat) (xs ys zs ps qs rs : Nat → Int32) (a b c : Nat) : tH (vp_updL nx i (acI ys zs a b c)) (vp_updL ny i (acI zs xs a b c)) (vp_updL nz i (acI xs ys a b c)) (vp_updL dd i (lyD xs ys zs a b c)) i xs ys zs = ptH xs ys zs a b c := by
  funext k
  simp [tH, ptH, vp_updL]
/-- are the points in one plane: from place p on, for the plane through 0, 1 and the first p that is in no line with them -/
def flR (n : Nat) (xs ys zs : Nat → Int32) : Nat → Nat → Bool
  | 0, _ => true
  | k + 1, p => if p < n then (if lyB xs ys zs 0 1 p = true then allB n (fun q => ptH xs ys zs 0 1 p q == 0) else flR n xs ys zs k (p + 1)) else true
def flB (n : Nat) (xs ys zs : Nat → Int32) : Bool := flR n xs ys zs (n + 1) 2
/-- the class's faces: how many, their places, the spare one, their planes, their points -/
abbrev CT : Type := Nat × (Nat → Nat) × Nat × (Nat → Int64) × (Nat → Int64) × (Nat → Int64) × (Nat → Int64) × (Nat → Int32)
def lieB (S : CT) (set : Int32) : Bool := anyB S.1 (fun f => decide (S.2.2.2.2.2.2.2 (S.2.1 f) &&& set = set))
def set3 (a b c : Nat) : Int32 := ((nI 1 <<< (nI a &&& 31)) ||| (nI 1 <<< (nI b &&& 31))) ||| (nI 1 <<< (nI c &&& 31))
def sgL (b : Bool) (v : Int64) : Int64 := if b = true then -v else v
theorem ngI_upd (b : Bool) (f : Nat → Int64) (i : Nat) (v : Int64) : ngI b (vp_updL f i v) i = vp_updL f i (sgL b v) := by
  cases b <;> simp [ngI, sgL, updL_uu, updL_i]
theorem shI_upd (g : Int64) (f : Nat → Int64) (i : Nat) (v : Int64) : shI g (vp_updL f i v) i = vp_updL f i (if 1 < g then v / g else v) := by
  unfold shI
  split <;> simp [updL_uu, updL_i]
def plG (u : Bool) (a b c : Int64) : Int64 := cfA (cfA (sgL u a) (sgL u b)) (sgL u c)
def plV (u : Bool) (g v : Int64) : Int64 := if 1 < g then sgL u v / g else sgL u v
def addC (n : Nat) (ax ay az : Nat → Int32) (S : CT) (a b c : Nat) : Bool := decide (S.1 < 44) && (!lieB S (set3 a b c) && (lyB ax ay az a b c && !(upB (ptH ax ay az a b c) n && dnB (ptH ax ay az a b c) n)))
/-- the spare face holds anything -/
def scrC (S : CT) (v1 v2 v3 v4 : Int64) (h : Int32) : CT := (S.1, S.2.1, S.2.2.1, vp_updL S.2.2.2.1 S.2.2.1 v1, vp_updL S.2.2.2.2.1 S.2.2.1 v2, vp_updL S.2.2.2.2.2.1 S.2.2.1 v3, vp_updL S.2.2.2.2.2.2.1 S.2.2.1 v4, upd S.2.2.2.2.2.2.2 S.2.2.1 h)
def newC (n : Nat) (ax ay az : Nat → Int32) (S : CT) (a b c : Nat) : CT :=
  let u := upB (ptH ax ay az a b c) n
  let g := plG u (acI ay az a b c) (acI az ax a b c) (acI ax ay a b c)
  (S.1 + 1, updN S.2.1 S.1 S.2.2.1, S.2.1 S.1, vp_updL S.2.2.2.1 S.2.2.1 (plV u g (acI ay az a b c)), vp_updL S.2.2.2.2.1 S.2.2.1 (plV u g (acI az ax a b c)), vp_updL S.2.2.2.2.2.1 S.2.2.1 (plV u g (acI ax ay a b c)), vp_updL S.2.2.2.2.2.2.1 S.2.2.1 (plV u g (lyD ax ay az a b c)), upd S.2.2.2.2.2.2.2 S.2.2.1 (btI (ptH ax ay az a b c) n))
def tryR (n : Nat) (ax ay az : Nat → Int32) (S : CT) (a b c : Nat) (S' : CT) : Prop := (addC n ax ay az S a b c = false ∧ ∃ v1 v2 v3 v4 h, S' = scrC S v1 v2 v3 v4 h) ∨ (addC n ax ay az S a b c = true ∧ S' = newC n ax ay az S a b c)
def invC (S : CT) : Prop := S.1 ≤ 44 ∧ (∀ j, S.2.1 j < 45) ∧ S.2.2.1 < 45
theorem tryR_inv {n : Nat} {ax ay az : Nat → Int32} {S S' : CT} {a b c : Nat} (h : tryR n ax ay az S a b c S') (hi : invC S) : invC S' := by
  rcases h with ⟨_, v1, v2, v3, v4, q, rfl⟩ | ⟨h, rfl⟩
  · exact hi
  · simp only [addC, Bool.and_eq_true, decide_eq_true_eq] at h
    refine ⟨by simp only [newC]; omega, ?_, ?_⟩
    · intro j
      simp only [newC, updN]
      split
      · exact hi.2.2
      · exact hi.2.1 j
    · simp only [newC]; exact hi.2.1 _
def rC (n : Nat) (ax ay az : Nat → Int32) (a b : Nat) (S : CT) : Nat → CT → Prop
  | 0, S' => S' = S
  | k + 1, S' => ∃ S1, rC n ax ay az a b S k S1 ∧ tryR n ax ay az S1 a b (b + 1 + k) S'
def rB (n : Nat) (ax ay az : Nat → Int32) (a : Nat) (S : CT) : Nat → CT → Prop
  | 0, S' => S' = S
  | k + 1, S' => ∃ S1, rB n ax ay az a S k S1 ∧ rC n ax ay az a (a + 1 + k) S1 (n - (a + 1 + k + 1)) S'
def rA (n : Nat) (ax ay az : Nat → Int32) (S : CT) : Nat → CT → Prop
  | 0, S' => S' = S
  | a + 1, S' => ∃ S1, rA n ax ay az S a S1 ∧ rB n ax ay az a S1 (n - (a + 1)) S'
theorem rC_s {n : Nat} {ax ay az : Nat → Int32} {a b c : Nat} {S S1 S2 : CT} (h : b + 1 ≤ c) (h1 : rC n ax ay az a b S (c - (b + 1)) S1) (h2 : tryR n ax ay az S1 a b c S2) : rC n ax ay az a b S (c + 1 - (b + 1)) S2 := by
  rw [show c + 1 - (b + 1) = (c - (b + 1)) + 1 by omega]
  exact ⟨S1, h1, by rw [show b + 1 + (c - (b + 1)) = c by omega]; exact h2⟩
theorem rB_s {n : Nat} {ax ay az : Nat → Int32} {a b : Nat} {S S1 S2 : CT} (h : a + 1 ≤ b) (h1 : rB n ax ay az a S (b - (a + 1)) S1) (h2 : rC n ax ay az a b S1 (n - (b + 1)) S2) : rB n ax ay az a S (b + 1 - (a + 1)) S2 := by
  rw [show b + 1 - (a + 1) = (b - (a + 1)) + 1 by omega]
  exact ⟨S1, h1, by rw [show a + 1 + (b - (a + 1)) = b by omega]; exact h2⟩
/-- corners: the points that lie in three planes or more -/
def coI (S : CT) : Nat → Int32
  | 0 => 0
  | k + 1 => if 3 ≤ cntB S.1 (fun f => hldB (S.2.2.2.2.2.2.2 (S.2.1 f)) k) then coI S k ||| (nI 1 <<< (nI k &&& 31)) else coI S k
def swpN (p : Nat → Nat) (i j : Nat) : Nat → Nat := updN (updN p i (p j)) j (p i)
def insS (rk : Nat → Nat) : Nat → (Nat → Nat) → (Nat → Nat)
  | 0, p => p
  | k + 1, p => if rk (p (k + 1)) < rk (p k) then insS rk k (swpN p (k + 1) k) else p
def ordS (rk : Nat → Nat) (p : Nat → Nat) : Nat → (Nat → Nat)
  | 0 => p
  | k + 1 => insS rk (k + 1) (ordS rk p k)
theorem swpN_lt {p : Nat → Nat} {i j B : Nat} (h : ∀ q, p q < B) : ∀ q, swpN p i j q < B := by
  intro q
  simp only [swpN, updN]
  split
  · exact h _
  · split
    · exact h _
    · exact h _
theorem insS_lt {rk : Nat → Nat} {B : Nat} : ∀ (k : Nat) (p : Nat → Nat), (∀ q, p q < B) → ∀ q, insS rk k p q < B := by
  intro k
  induction k with
  | zero => intro p h; exact h
  | succ k ih =>
    intro p h
    simp only [insS]
    split
    · exact ih _ (swpN_lt h)
    · exact h
theorem ordS_lt {rk : Nat → Nat} {p : Nat → Nat} {B : Nat} (h : ∀ q, p q < B) : ∀ k q, ordS rk p k q < B := by
  intro k
  induction k with
  | zero => exact h
  | succ k ih => exact insS_lt _ _ ih
/-- ways: the face along each way -/
def nxK (s k : Nat) : Nat := if k + 1 < s then k + 1 else 0
def wyF (al : Nat → Int32) (f s : Nat) (r : Nat → Nat) : Nat → (Nat → Int32)
  | 0 => al
  | k + 1 => upd (wyF al f s r k) (r k * 24 + r (nxK s k)) (nI f)
def wyA (al : Nat → Int32) (pm sz : Nat → Nat) (rn : Nat → Nat → Nat) : Nat → (Nat → Int32)
  | 0 => al
  | f + 1 => wyF (wyA al pm sz rn f) f (sz (pm f)) (rn (pm f)) (sz (pm f))
abbrev EC : Type := Nat × (Nat → Nat) × (Nat → Nat)
def adC (al : Nat → Int32) (E : EC) (a b : Nat) : EC := if al (a * 24 + b) = -1 then E else if 66 ≤ E.1 then E else (E.1 + 1, updN E.2.1 E.1 a, updN E.2.2 E.1 b)
def rowC (al : Nat → Int32) (a : Nat) (E : EC) : Nat → EC
  | 0 => E
  | k + 1 => adC al (rowC al a E k) a (a + 1 + k)
def edgC (al : Nat → Int32) (n : Nat) (E : EC) : Nat → EC
  | 0 => E
  | a + 1 => rowC al a (edgC al n E a) (n - (a + 1))
theorem adC_le {al : Nat → Int32} {E : EC} {a b : Nat} (h : E.1 ≤ 66) : (adC al E a b).1 ≤ 66 := by
  unfold adC
  split
  · exact h
  · split
    · exact h
    · show E.1 + 1 ≤ 66
      omega
theorem rowC_le {al : Nat → Int32} {a : Nat} {E : EC} (h : E.1 ≤ 66) : ∀ k, (rowC al a E k).1 ≤ 66 := by
  intro k
  induction k with
  | zero => exact h
  | succ k ih => exact adC_le ih
theorem edgC_le {al : Nat → Int32} {n : Nat} {E : EC} (h : E.1 ≤ 66) : ∀ k, (edgC al n E k).1 ≤ 66 := by
  intro k
  induction k with
  | zero => exact h
  | succ k ih => exact rowC_le ih _
def sixI (ax ay az : Nat → Int32) (a b c : Nat) : Int64 := (ax a).toInt64 * ((ay b).toInt64 * (az c).toInt64 - (az b).toInt64 * (ay c).toInt64) + (ay a).toInt64 * ((az b).toInt64 * (ax c).toInt64 - (ax b).toInt64 * (az c).toInt64) + (az a).toInt64 * ((ax b).toInt64 * (ay c).toInt64 - (ay b).toInt64 * (ax c).toInt64)
def momI (ax ay az : Nat → Int32) (a b c : Nat) (mo : Nat → Int64) : Nat → Int64 :=
  vp_updL (vp_updL (vp_updL mo 0 (mo 0 + sixI ax ay az a b c * (ax a + ax b + ax c).toInt64)) 1 (vp_updL mo 0 (mo 0 + sixI ax ay az a b c * (ax a + ax b + ax c).toInt64) 1 + sixI ax ay az a b c * (ay a + ay b + ay c).toInt64)) 2 (vp_updL (vp_updL mo 0 (mo 0 + sixI ax ay az a b c * (ax a + ax b + ax c).toInt64)) 1 (vp_updL mo 0 (mo 0 + sixI ax ay az a b c * (ax a + ax b + ax c).toInt64) 1 + sixI ax ay az a b c * (ay a + ay b + ay c).toInt64) 2 + sixI ax ay az a b c * (az a + az b + az c).toInt64)
abbrev MT : Type := Int64 × (Nat → Int64)
def msA (ax ay az : Nat → Int32) (M : MT) (a b c : Nat) : MT := (M.1 + sixI ax ay az a b c, momI ax ay az a b c M.2)
def msF (ax ay az : Nat → Int32) (r : Nat → Nat) (M : MT) : Nat → MT
  | 0 => M
  | k + 1 => msA ax ay az (msF ax ay az r M k) (r 0) (r (k + 1)) (r (k + 1 + 1))
def msG (ax ay az : Nat → Int32) (pm sz : Nat → Nat) (rn : Nat → Nat → Nat) (M : MT) : Nat → MT
  | 0 => M
  | f + 1 => msF ax ay az (rn (pm f)) (msG ax ay az pm sz rn M f) (sz (pm f) - 2)
def frN (co : Int32) (d : Nat → Int64) : Nat → Int32 × Int64
  | 0 => (-1, 0)
  | n + 1 => if hldB co n = true ∧ ((frN co d n).1 = -1 ∨ (frN co d n).2 < d n) then (nI n, d n) else frN co d n
def endI (el eh : Nat → Nat) (k : Nat) : Int32 := (nI 1 <<< (nI (el k) &&& 31)) ||| (nI 1 <<< (nI (eh k) &&& 31))
def stpI (el eh : Nat → Nat) (s : Int32) : Nat → Int32
  | 0 => s
  | k + 1 => if s &&& endI el eh k = 0 then stpI el eh s k else stpI el eh s k ||| endI el eh k
def reI (el eh : Nat → Nat) (ne : Nat) (s : Int32) : Nat → Int32
  | 0 => s
  | k + 1 => stpI el eh (reI el eh ne s k) ne
/-- the steps: the first count of steps whose set holds b, from j on; -1: none below 24 -/
def wlI (el eh : Nat → Nat) (ne : Nat) (s : Int32) (b : Nat) : Nat → Nat → Int32
  | 0, _ => -1
  | k + 1, j => if j < 24 then (if hldB (reI el eh ne s j) b = true then nI j else wlI el eh ne s b k (j + 1)) else -1
/-- where a point lies, from face j on -/
def lcI (H : Nat → Int64) (n : Nat) : Nat → Nat → Int32 → Int32
  | 0, _, r => r
  | k + 1, j, r => if j < n then (if 0 < H j then -1 else lcI H n k (j + 1) (if H j = 0 then 0 else r)) else r
