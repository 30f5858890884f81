/-! ===== the greatest common factor; the plane of three points ===== -/
theorem euI_nn : ∀ (k : Nat) (x y : Int), 0 ≤ x → 0 ≤ y → 0 ≤ euI k x y := by
  intro k
  induction k with
  | zero => intro x y hx _; exact hx
  | succ k ih =>
    intro x y hx hy
    simp only [euI]
    split
    · exact hx
    · exact ih _ _ hy (Int.tmod_nonneg _ hx)
theorem cmn_R {B : Int} (hB : B < 4611686018427387904) : ∀ (k : Nat) (x y : Int64) (i j : Int), 0 ≤ i → 0 ≤ j → R64 x i B → R64 y j B → R64 (cmnL k x y) (euI k i j) B := by
  intro k
  induction k with
  | zero => intro x y i j _ _ hx _; exact hx
  | succ k ih =>
    intro x y i j hi hj hx hy
    simp only [cmnL, euI]
    by_cases h : j = 0
    · rw [if_pos h, if_neg (by rw [hy.gt0]; omega)]
      exact hx
    · rw [if_neg h, if_pos (by rw [hy.gt0]; omega)]
      exact ih _ _ _ _ hj (Int.tmod_nonneg _ hi) hy (hx.rem hy hB)
theorem cf_R {B : Int} (hB : B < 4611686018427387904) : ∀ (k : Nat) (x y : Int64) (i j : Int), R64 x i B → R64 y j B → R64 (cfL k x y) (euI k i j) B := by
  intro k
  induction k with
  | zero => intro x y i j hx _; exact hx
  | succ k ih =>
    intro x y i j hx hy
    simp only [cfL, euI]
    by_cases h : j = 0
    · rw [if_pos h, if_pos (hy.eq0.mpr h)]
      exact hx
    · rw [if_neg h, if_neg (fun e => h (hy.eq0.mp e))]
      exact ih _ _ _ _ hy (hx.rem hy hB)
theorem abs_R {x : Int64} {i B : Int} (hB : B < 4611686018427387904) (hx : R64 x i B) : R64 (absL x) (i.natAbs : Int) B := by
  unfold absL
  have z : R64 (0 : Int64) 0 0 := ⟨rfl, by omega, by omega⟩
  by_cases h : i < 0
  · rw [if_pos (hx.lt0.mpr h)]
    exact ((z.sub hx (by omega)).to (j := (i.natAbs : Int)) (by omega)).mono (by omega)
  · rw [if_neg (fun e => h (hx.lt0.mp e))]
    exact hx.to (by omega)
theorem gcd_bd {i j B : Int} (h1 : -B ≤ i ∧ i ≤ B) (h2 : -B ≤ j ∧ j ≤ B) : ((Nat.gcd i.natAbs j.natAbs : Nat) : Int) ≤ B := by
  by_cases h : i.natAbs = 0
  · rw [h, Nat.gcd_zero_left]; omega
  · have := Nat.gcd_le_left j.natAbs (show 0 < i.natAbs by omega)
    omega
theorem eu64 {i j : Int} (h2 : -2097152 ≤ j ∧ j ≤ 2097152) : (euI 64 i j).natAbs = Nat.gcd i.natAbs j.natAbs := by
  refine euI_gcd 22 64 i j ?_ (by omega)
  have e : (2 : Nat) ^ 22 = 4194304 := by decide
  rw [e]
  omega
theorem gcd3_R {x y z : Int64} {i j k : Int} (hx : R64 x i 2097152) (hy : R64 y j 2097152) (hz : R64 z k 2097152) : R64 (gcd3 x y z) ((Nat.gcd (Nat.gcd i.natAbs j.natAbs) k.natAbs : Nat) : Int) 2097152 := by
  unfold gcd3
  have a1 := abs_R (by decide) hx; have a2 := abs_R (by decide) hy; have a3 := abs_R (by decide) hz
  have c1 := cmn_R (by decide) 64 _ _ _ _ (by omega) (by omega) a1 a2
  have b1 := abs_R (by decide) c1
  have c2 := cmn_R (by decide) 64 _ _ _ _ (by omega) (by omega) b1 a3
  refine c2.to ?_
  have n1 := euI_nn 64 ((euI 64 (i.natAbs : Int) (j.natAbs : Int)).natAbs : Int) (k.natAbs : Int) (by omega) (by omega)
  have e1 : (euI 64 (i.natAbs : Int) (j.natAbs : Int)).natAbs = Nat.gcd i.natAbs j.natAbs := by
    have := eu64 (i := (i.natAbs : Int)) (j := (j.natAbs : Int)) (by have := hy.2; omega)
    simpa using this
  have e2 : (euI 64 ((euI 64 (i.natAbs : Int) (j.natAbs : Int)).natAbs : Int) (k.natAbs : Int)).natAbs = Nat.gcd (Nat.gcd i.natAbs j.natAbs) k.natAbs := by
    have := eu64 (i := ((euI 64 (i.natAbs : Int) (j.natAbs : Int)).natAbs : Int)) (j := (k.natAbs : Int)) (by have := hz.2; omega)
    rw [this]
    simp [e1]
  omega
theorem cfA_R {x y : Int64} {i j : Int} (hx : R64 x i 2097152) (hy : R64 y j 2097152) : R64 (cfA x y) ((Nat.gcd i.natAbs j.natAbs : Nat) : Int) 2097152 := by
  have c := cf_R (by decide) 64 x y i j hx hy
  have e := eu64 (i := i) (j := j) (by have := hy.2; omega)
  unfold cfA
  by_cases h : euI 64 i j < 0
  · rw [if_pos (c.lt0.mpr h)]
    exact (c.neg (by decide)).to (by omega)
  · rw [if_neg (fun q => h (c.lt0.mp q))]
    exact c.to (by omega)
theorem sg_R {x : Int64} {i B : Int} (u : Bool) (hB : B < 4611686018427387904) (hx : R64 x i B) : R64 (sgL u x) (if u = true then -i else i) B := by
  unfold sgL
  cases u with
  | true => exact hx.neg (by omega)
  | false => exact hx
theorem plG_R {x y z : Int64} {i j k : Int} (u : Bool) (hx : R64 x i 2097152) (hy : R64 y j 2097152) (hz : R64 z k 2097152) : R64 (plG u x y z) ((Nat.gcd (Nat.gcd i.natAbs j.natAbs) k.natAbs : Nat) : Int) 2097152 := by
  unfold plG
  have ab : ∀ x : Int, (if u = true then -x else x).natAbs = x.natAbs := fun x => by split <;> omega
  have c1 := cfA_R (sg_R u (by decide) hx) (sg_R u (by decide) hy)
  have c2 := cfA_R c1 (sg_R u (by decide) hz)
  refine c2.to ?_
  rw [ab, ab, ab]
  simp
/-- a division without rest -/
theorem div_R {x y : Int64} {i j q B : Int} (hx : R64 x i B) (hy : R64 y j B) (hj : j ≠ 0) (hB : B < 4611686018427387904) (e : i = j * q) : R64 (x / y) q B := by
  have hd : i.tdiv j = q := by rw [e]; exact Int.mul_tdiv_cancel_left q hj
  have h2 : (i.tdiv j).natAbs ≤ i.natAbs := by rw [Int.natAbs_tdiv]; exact Nat.div_le_self _ _
  obtain ⟨x1, x2, x3⟩ := hx
  obtain ⟨y1, y2, y3⟩ := hy
  rw [hd] at h2
  refine ⟨?_, by omega, by omega⟩
  rw [Int64.toInt_div, x1, y1, hd]
  unfold Int.bmod
  simp only []
  split <;> omega
/-- what a triple's plane is, as numbers: the normal without its factor, turned outside -/
def PlR (N1 N2 N3 s g q1 q2 q3 : Int) : Prop := (s = 1 ∨ s = -1) ∧ 1 ≤ g ∧ N1 = g * q1 ∧ N2 = g * q2 ∧ N3 = g * q3 ∧ zP q1 q2 q3
theorem PlR_ex {N1 N2 N3 : Int} (s : Int) (hs : s = 1 ∨ s = -1) (h : N1 ≠ 0 ∨ N2 ≠ 0 ∨ N3 ≠ 0) : ∃ q1 q2 q3, PlR N1 N2 N3 s ((Nat.gcd (Nat.gcd N1.natAbs N2.natAbs) N3.natAbs : Nat) : Int) q1 q2 q3 := by
  have hg : 0 < Nat.gcd (Nat.gcd N1.natAbs N2.natAbs) N3.natAbs := by
    apply Nat.pos_of_ne_zero
    intro e
    have e1 := Nat.gcd_eq_zero_iff.mp e
    have e2 := Nat.gcd_eq_zero_iff.mp e1.1
    omega
  have d1 : Nat.gcd (Nat.gcd N1.natAbs N2.natAbs) N3.natAbs ∣ N1.natAbs := Nat.dvd_trans (Nat.gcd_dvd_left _ _) (Nat.gcd_dvd_left _ _)
  have d2 : Nat.gcd (Nat.gcd N1.natAbs N2.natAbs) N3.natAbs ∣ N2.natAbs := Nat.dvd_trans (Nat.gcd_dvd_left _ _) (Nat.gcd_dvd_right _ _)
  have d3 : Nat.gcd (Nat.gcd N1.natAbs N2.natAbs) N3.natAbs ∣ N3.natAbs := Nat.gcd_dvd_right _ _
  generalize hgg : Nat.gcd (Nat.gcd N1.natAbs N2.natAbs) N3.natAbs = g at *
  obtain ⟨q1, e1⟩ := Int.ofNat_dvd_left.mpr d1
  obtain ⟨q2, e2⟩ := Int.ofNat_dvd_left.mpr d2
  obtain ⟨q3, e3⟩ := Int.ofNat_dvd_left.mpr d3
  refine ⟨q1, q2, q3, hs, by omega, e1, e2, e3, ?_⟩
  unfold zP
  rw [e1, e2, e3, Int.natAbs_mul, Int.natAbs_mul, Int.natAbs_mul, Nat.gcd_mul_left, Nat.gcd_mul_left] at hgg
  simp only [Int.natAbs_natCast] at hgg
  exact Nat.eq_of_mul_eq_mul_left hg (by rw [hgg, Nat.mul_one])
/-- what is one side of the triple's plane -/
def Side (n : Nat) (X Y Z : Nat → Int) (a b c : Nat) (s : Int) : Prop := zL X Y Z a b c ∧ (s = 1 ∨ s = -1) ∧ (∀ p, p < n → s * zV X Y Z a b c p ≤ 0) ∧ ∃ p, p < n ∧ s * zV X Y Z a b c p < 0
theorem zP_neg {A B C : Int} (h : zP A B C) {s : Int} (hs : s = 1 ∨ s = -1) : zP (s * A) (s * B) (s * C) := by
  unfold zP at *
  rcases hs with rfl | rfl
  · simpa using h
  · simpa [Int.natAbs_neg] using h
theorem Side_F {X Y Z : Nat → Int} {n a b c : Nat} {s g q1 q2 q3 : Int} (ha : a < n) (hb : b < n) (hc : c < n) (hS : Side n X Y Z a b c s) (hP : PlR (zN1 X Y Z a b c) (zN2 X Y Z a b c) (zN3 X Y Z a b c) s g q1 q2 q3) : zF X Y Z n (s * q1) (s * q2) (s * q3) (s * q1 * X a + s * q2 * Y a + s * q3 * Z a) ∧ zP (s * q1) (s * q2) (s * q3) ∧ zI X Y Z (s * q1) (s * q2) (s * q3) (s * q1 * X a + s * q2 * Y a + s * q3 * Z a) a ∧ zI X Y Z (s * q1) (s * q2) (s * q3) (s * q1 * X a + s * q2 * Y a + s * q3 * Z a) b ∧ zI X Y Z (s * q1) (s * q2) (s * q3) (s * q1 * X a + s * q2 * Y a + s * q3 * Z a) c := by
  obtain ⟨hL, hs, hall, p0, hp0, hlt⟩ := hS
  obtain ⟨-, hg, e1, e2, e3, hz⟩ := hP
  have hv : ∀ p, s * zV X Y Z a b c p = g * (s * q1 * X p + s * q2 * Y p + s * q3 * Z p - (s * q1 * X a + s * q2 * Y a + s * q3 * Z a)) := by
    intro p
    unfold zV zH
    rw [e1, e2, e3]
    grind
  have iz : ∀ p, zV X Y Z a b c p = 0 → zI X Y Z (s * q1) (s * q2) (s * q3) (s * q1 * X a + s * q2 * Y a + s * q3 * Z a) p := by
    intro p h
    have := hv p
    rw [h, Int.mul_zero] at this
    have := pm_z this.symm (by omega)
    unfold zI; omega
  have ia := iz a (by unfold zV zH; simp)
  have ib := iz b (by unfold zV zH zN1 zN2 zN3; grind)
  have ic := iz c (by unfold zV zH zN1 zN2 zN3; grind)
  refine ⟨⟨?_, ⟨p0, hp0, ?_⟩, a, b, c, ha, hb, hc, ia, ib, ic, hL⟩, zP_neg hz hs, ia, ib, ic⟩
  · intro p hp
    have h1 := hall p hp
    rw [hv] at h1
    apply Classical.byContradiction
    intro h2
    have := Int.mul_pos (show 0 < g by omega) (show 0 < s * q1 * X p + s * q2 * Y p + s * q3 * Z p - (s * q1 * X a + s * q2 * Y a + s * q3 * Z a) by omega)
    omega
  · rw [hv] at hlt
    apply Classical.byContradiction
    intro h2
    have := Int.mul_nonneg (show 0 ≤ g by omega) (show 0 ≤ s * q1 * X p0 + s * q2 * Y p0 + s * q3 * Z p0 - (s * q1 * X a + s * q2 * Y a + s * q3 * Z a) by omega)
    omega
