/-! ===== the class's measure is the reference's ===== -/
theorem sum2_0 (t : Nat → Int64) (s : Int64) : ∀ k, sum2 t s k = s + sum2 t 0 k := by
  intro k
  induction k with
  | zero => simp [sum2]
  | succ k ih => simp only [sum2]; rw [ih, Int64.add_assoc]
theorem sum2_congr {t u : Nat → Int64} (s : Int64) : ∀ k, (∀ i, 0 < i → i ≤ k → t i = u i) → sum2 t s k = sum2 u s k := by
  intro k
  induction k with
  | zero => intro _; rfl
  | succ k ih => intro h; simp only [sum2]; rw [ih (fun i h1 h2 => h i h1 (by omega)), h (k + 1) (by omega) (by omega)]
/-- what one face adds -/
def gS (o z : Nat → Nat) (hx hy hz : Nat → Int64) (w : Int32) (f : Nat) : Int64 := sum2 (trmL o hx hy hz w f) 0 (z f - 2)
theorem sum1_S (o z : Nat → Nat) (hx hy hz : Nat → Int64) (w : Int32) : ∀ n, sum1 o z hx hy hz w n = sumL (gS o z hx hy hz w) (fun i => i) n := by
  intro n
  induction n with
  | zero => rfl
  | succ n ih => simp only [sum1, sumL]; rw [sum2_0, ih]; rfl
theorem sumL_cg {g h : Nat → Int64} {p q : Nat → Nat} : ∀ n, (∀ i, i < n → g (p i) = h (q i)) → sumL g p n = sumL h q n := by
  intro n
  induction n with
  | zero => intro _; rfl
  | succ n ih => intro H; simp only [sumL]; rw [ih (fun i hi => H i (by omega)), H n (by omega)]
def byI (ax ay az : Nat → Int32) (j a b c : Nat) : Int64 := if j = 0 then (ax a + ax b + ax c).toInt64 else if j = 1 then (ay a + ay b + ay c).toInt64 else (az a + az b + az c).toInt64
theorem mom_at (ax ay az : Nat → Int32) (a b c : Nat) (mo : Nat → Int64) (j : Nat) (hj : j < 3) : momI ax ay az a b c mo j = mo j + sixI ax ay az a b c * byI ax ay az j a b c := by
  rcases show j = 0 ∨ j = 1 ∨ j = 2 by omega with rfl | rfl | rfl <;> simp [momI, vp_updL, byI]
theorem msF_v (ax ay az : Nat → Int32) (r : Nat → Nat) (M : MT) : ∀ k, (msF ax ay az r M k).1 = sum2 (fun i => sixI ax ay az (r 0) (r i) (r (i + 1))) M.1 k := by
  intro k
  induction k with
  | zero => rfl
  | succ k ih => simp only [msF, msA, sum2]; rw [ih]
theorem msF_m (ax ay az : Nat → Int32) (r : Nat → Nat) (M : MT) (j : Nat) (hj : j < 3) : ∀ k, (msF ax ay az r M k).2 j = sum2 (fun i => sixI ax ay az (r 0) (r i) (r (i + 1)) * byI ax ay az j (r 0) (r i) (r (i + 1))) (M.2 j) k := by
  intro k
  induction k with
  | zero => rfl
  | succ k ih => simp only [msF, msA, sum2]; rw [mom_at _ _ _ _ _ _ _ _ hj, ih]
theorem msG_v (ax ay az : Nat → Int32) (pm sz : Nat → Nat) (rn : Nat → Nat → Nat) (mo : Nat → Int64) : ∀ n, (msG ax ay az pm sz rn (0, mo) n).1 = sumL (fun x => sum2 (fun i => sixI ax ay az (rn x 0) (rn x i) (rn x (i + 1))) 0 (sz x - 2)) pm n := by
  intro n
  induction n with
  | zero => rfl
  | succ n ih => simp only [msG, sumL]; rw [msF_v, sum2_0, ih]
theorem msG_m (ax ay az : Nat → Int32) (pm sz : Nat → Nat) (rn : Nat → Nat → Nat) (M : MT) (j : Nat) (hj : j < 3) (h0 : M.2 j = 0) : ∀ n, (msG ax ay az pm sz rn M n).2 j = sumL (fun x => sum2 (fun i => sixI ax ay az (rn x 0) (rn x i) (rn x (i + 1)) * byI ax ay az j (rn x 0) (rn x i) (rn x (i + 1))) 0 (sz x - 2)) pm n := by
  intro n
  induction n with
  | zero => exact h0
  | succ n ih => simp only [msG, sumL]; rw [msF_m _ _ _ _ _ _ hj, sum2_0, ih]
section M12a
variable {xs ys zs : Nat → Int32} {n f : Nat} {hx hy hz : Nat → Int64} {F : FT} {S : CT} {pm sz o z p : Nat → Nat} {rn : Nat → Nat → Nat} {a b c : Nat}
theorem six_eq (e : Cpy n xs ys zs hx hy hz) (ha : a < n) (hb : b < n) (hc : c < n) : sixL hx hy hz a b c = sixI xs ys zs a b c := by
  unfold sixL sixI
  rw [(e a ha).1, (e a ha).2.1, (e a ha).2.2, (e b hb).1, (e b hb).2.1, (e b hb).2.2, (e c hc).1, (e c hc).2.1, (e c hc).2.2]
theorem sum3 {x y z : Int32} (h1 : -512 ≤ x.toInt ∧ x.toInt ≤ 512) (h2 : -512 ≤ y.toInt ∧ y.toInt ≤ 512) (h3 : -512 ≤ z.toInt ∧ z.toInt ≤ 512) : (x + y + z).toInt64 = x.toInt64 + y.toInt64 + z.toInt64 := by
  have r1 := R64.i32 h1
  have r2 := R64.i32 h2
  have r3 := R64.i32 h3
  have e1 : (x + y).toInt = x.toInt + y.toInt := add32 (by omega) (by omega)
  have e2 : (x + y + z).toInt = x.toInt + y.toInt + z.toInt := by rw [add32 (by omega) (by omega), e1]
  have r := (r1.add r2 (by decide)).add r3 (by decide)
  rw [← Int64.toInt_inj, r.1, ← e2]
  simp
theorem by_eq (h : Bd n xs ys zs) (e : Cpy n xs ys zs hx hy hz) {j : Nat} (hj : j < 3) (ha : a < n) (hb : b < n) (hc : c < n) : byL hx hy hz (nI j) a b c = byI xs ys zs j a b c := by
  unfold byL byI
  rw [if_neg (nI_pos (by omega)), (e a ha).1, (e a ha).2.1, (e a ha).2.2, (e b hb).1, (e b hb).2.1, (e b hb).2.2, (e c hc).1, (e c hc).2.1, (e c hc).2.2, sum3 (h.x ha) (h.x hb) (h.x hc), sum3 (h.y ha) (h.y hb) (h.y hc), sum3 (h.z ha) (h.z hb) (h.z hc)]
  rcases show j = 0 ∨ j = 1 ∨ j = 2 by omega with rfl | rfl | rfl <;> rfl
theorem rg_lt (h : Bd n xs ys zs) (hD : zD (tI xs) (tI ys) (tI zs) n) (hM : MI xs ys zs n F) (hf : f < F.1) (k : Nat) : rgF xs ys zs n F f k < n := ((rgF_ok h hD hM hf).2.2.2.2.1 k).1
theorem trm_v (h : Bd n xs ys zs) (hD : zD (tI xs) (tI ys) (tI zs) n) (e : Cpy n xs ys zs hx hy hz) (hM : MI xs ys zs n F) (B : Blt xs ys zs n F S pm sz rn o z p) (hf : f < F.1) : gS o z hx hy hz (-1) f = sum2 (fun i => sixI xs ys zs (rn (S.2.1 f) 0) (rn (S.2.1 f) i) (rn (S.2.1 f) (i + 1))) 0 (sz (S.2.1 f) - 2) := by
  have k1 := B.2.2.2.1 f hf
  have k2 := fun i => B.2.2.2.2.1 f i hf
  have k3 := (rgF_ok h hD hM hf).1
  unfold gS
  rw [k1.1, k1.2]
  apply sum2_congr
  intro i h1 h2
  unfold trmL byL
  have q0 := k2 0 (by omega)
  have qi := k2 i (by omega)
  have qj := k2 (i + 1) (by omega)
  rw [Nat.add_zero] at q0
  rw [if_pos (by decide), Int64.mul_one, Nat.add_assoc, q0.1, qi.1, qj.1, q0.2, qi.2, qj.2, six_eq e (rg_lt h hD hM hf _) (rg_lt h hD hM hf _) (rg_lt h hD hM hf _)]
theorem trm_m (h : Bd n xs ys zs) (hD : zD (tI xs) (tI ys) (tI zs) n) (e : Cpy n xs ys zs hx hy hz) (hM : MI xs ys zs n F) (B : Blt xs ys zs n F S pm sz rn o z p) (hf : f < F.1) {j : Nat} (hj : j < 3) : gS o z hx hy hz (nI j) f = sum2 (fun i => sixI xs ys zs (rn (S.2.1 f) 0) (rn (S.2.1 f) i) (rn (S.2.1 f) (i + 1)) * byI xs ys zs j (rn (S.2.1 f) 0) (rn (S.2.1 f) i) (rn (S.2.1 f) (i + 1))) 0 (sz (S.2.1 f) - 2) := by
  have k1 := B.2.2.2.1 f hf
  have k2 := fun i => B.2.2.2.2.1 f i hf
  have k3 := (rgF_ok h hD hM hf).1
  unfold gS
  rw [k1.1, k1.2]
  apply sum2_congr
  intro i h1 h2
  unfold trmL
  have q0 := k2 0 (by omega)
  have qi := k2 i (by omega)
  have qj := k2 (i + 1) (by omega)
  rw [Nat.add_zero] at q0
  rw [Nat.add_assoc, q0.1, qi.1, qj.1, q0.2, qi.2, qj.2, six_eq e (rg_lt h hD hM hf _) (rg_lt h hD hM hf _) (rg_lt h hD hM hf _), by_eq h e hj (rg_lt h hD hM hf _) (rg_lt h hD hM hf _) (rg_lt h hD hM hf _)]
theorem ms_sum (h : Bd n xs ys zs) (hD : zD (tI xs) (tI ys) (tI zs) n) (e : Cpy n xs ys zs hx hy hz) (hM : MI xs ys zs n F) (B : Blt xs ys zs n F S pm sz rn o z p) (mo : Nat → Int64) : (msG xs ys zs pm sz rn (0, filL mo 0 3) F.1).1 = sum1 o z hx hy hz (-1) F.1 ∧ ∀ j, j < 3 → (msG xs ys zs pm sz rn (0, filL mo 0 3) F.1).2 j = sum1 o z hx hy hz (nI j) F.1 := by
  constructor
  · rw [msG_v, sum1_S, ← B.2.2.2.2.2]
    apply sumL_cg
    intro i hi
    rw [B.2.2.1 i hi]
    exact (trm_v h hD e hM B (B.1 i hi)).symm
  · intro j hj
    rw [msG_m _ _ _ _ _ _ _ j hj (by simp [filL, hj]), sum1_S, ← B.2.2.2.2.2]
    apply sumL_cg
    intro i hi
    rw [B.2.2.1 i hi]
    exact (trm_m h hD e hM B (B.1 i hi) hj).symm
end M12a
