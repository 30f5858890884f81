/-! ===== the machine's numbers and the geometry ===== -/
def tI (xs : Nat → Int32) : Nat → Int := fun k => (xs k).toInt
/-- coordinates within reach -/
def Bd (n : Nat) (xs ys zs : Nat → Int32) : Prop := zM (tI xs) (tI ys) (tI zs) n
theorem acI_R {us vs : Nat → Int32} {a b c : Nat} (ua : -512 ≤ (us a).toInt ∧ (us a).toInt ≤ 512) (ub : -512 ≤ (us b).toInt ∧ (us b).toInt ≤ 512) (uc : -512 ≤ (us c).toInt ∧ (us c).toInt ≤ 512) (va : -512 ≤ (vs a).toInt ∧ (vs a).toInt ≤ 512) (vb : -512 ≤ (vs b).toInt ∧ (vs b).toInt ≤ 512) (vc : -512 ≤ (vs c).toInt ∧ (vs c).toInt ≤ 512) : R64 (acI us vs a b c) ((tI us b - tI us a) * (tI vs c - tI vs a) - (tI vs b - tI vs a) * (tI us c - tI us a)) 2097152 := by
  have d : ∀ {x y : Int32}, (-512 ≤ x.toInt ∧ x.toInt ≤ 512) → (-512 ≤ y.toInt ∧ y.toInt ≤ 512) → R64 (x - y).toInt64 (x.toInt - y.toInt) 1024 := by
    intro x y hx hy
    have e := sub32 hx hy
    exact (R64.i32 (x := x - y) (B := 1024) (by rw [e]; omega)).to e
  exact (((d ub ua).mul (d vc va) (by decide)).sub ((d vb va).mul (d uc ua) (by decide)) (by decide))
section MN
variable {xs ys zs : Nat → Int32} {n a b c p : Nat}
theorem Bd.x (h : Bd n xs ys zs) (hp : p < n) : -512 ≤ (xs p).toInt ∧ (xs p).toInt ≤ 512 := (h p hp).1
theorem Bd.y (h : Bd n xs ys zs) (hp : p < n) : -512 ≤ (ys p).toInt ∧ (ys p).toInt ≤ 512 := (h p hp).2.1
theorem Bd.z (h : Bd n xs ys zs) (hp : p < n) : -512 ≤ (zs p).toInt ∧ (zs p).toInt ≤ 512 := (h p hp).2.2
theorem ac1 (h : Bd n xs ys zs) (ha : a < n) (hb : b < n) (hc : c < n) : R64 (acI ys zs a b c) (zN1 (tI xs) (tI ys) (tI zs) a b c) 2097152 := acI_R (h.y ha) (h.y hb) (h.y hc) (h.z ha) (h.z hb) (h.z hc)
theorem ac2 (h : Bd n xs ys zs) (ha : a < n) (hb : b < n) (hc : c < n) : R64 (acI zs xs a b c) (zN2 (tI xs) (tI ys) (tI zs) a b c) 2097152 := acI_R (h.z ha) (h.z hb) (h.z hc) (h.x ha) (h.x hb) (h.x hc)
theorem ac3 (h : Bd n xs ys zs) (ha : a < n) (hb : b < n) (hc : c < n) : R64 (acI xs ys a b c) (zN3 (tI xs) (tI ys) (tI zs) a b c) 2097152 := acI_R (h.x ha) (h.x hb) (h.x hc) (h.y ha) (h.y hb) (h.y hc)
/-- the reference's product is the class's -/
theorem acx_I {us vs : Nat → Int32} {u v : Nat → Int64} (ua : -512 ≤ (us a).toInt ∧ (us a).toInt ≤ 512) (ub : -512 ≤ (us b).toInt ∧ (us b).toInt ≤ 512) (uc : -512 ≤ (us c).toInt ∧ (us c).toInt ≤ 512) (va : -512 ≤ (vs a).toInt ∧ (vs a).toInt ≤ 512) (vb : -512 ≤ (vs b).toInt ∧ (vs b).toInt ≤ 512) (vc : -512 ≤ (vs c).toInt ∧ (vs c).toInt ≤ 512) (eua : u a = (us a).toInt64) (eub : u b = (us b).toInt64) (euc : u c = (us c).toInt64) (eva : v a = (vs a).toInt64) (evb : v b = (vs b).toInt64) (evc : v c = (vs c).toInt64) : acx u v a b c = acI us vs a b c := by
  have r := acI_R ua ub uc va vb vc
  have r2 : R64 (acx u v a b c) ((tI us b - tI us a) * (tI vs c - tI vs a) - (tI vs b - tI vs a) * (tI us c - tI us a)) 2097152 := by
    unfold acx
    rw [eua, eub, euc, eva, evb, evc]
    exact ((((R64.i32 ub).sub (R64.i32 ua) (by decide)).mul ((R64.i32 vc).sub (R64.i32 va) (by decide)) (by decide)).sub (((R64.i32 vb).sub (R64.i32 va) (by decide)).mul ((R64.i32 uc).sub (R64.i32 ua) (by decide)) (by decide)) (by decide))
  exact r2.inj r
/-- the reference's copy of the points -/
def Cpy (n : Nat) (xs ys zs : Nat → Int32) (hx hy hz : Nat → Int64) : Prop := ∀ k, k < n → hx k = (xs k).toInt64 ∧ hy k = (ys k).toInt64 ∧ hz k = (zs k).toInt64
variable {hx hy hz : Nat → Int64}
theorem cx1 (h : Bd n xs ys zs) (e : Cpy n xs ys zs hx hy hz) (ha : a < n) (hb : b < n) (hc : c < n) : acx hy hz a b c = acI ys zs a b c := acx_I (h.y ha) (h.y hb) (h.y hc) (h.z ha) (h.z hb) (h.z hc) (e a ha).2.1 (e b hb).2.1 (e c hc).2.1 (e a ha).2.2 (e b hb).2.2 (e c hc).2.2
theorem cx2 (h : Bd n xs ys zs) (e : Cpy n xs ys zs hx hy hz) (ha : a < n) (hb : b < n) (hc : c < n) : acx hz hx a b c = acI zs xs a b c := acx_I (h.z ha) (h.z hb) (h.z hc) (h.x ha) (h.x hb) (h.x hc) (e a ha).2.2 (e b hb).2.2 (e c hc).2.2 (e a ha).1 (e b hb).1 (e c hc).1
theorem cx3 (h : Bd n xs ys zs) (e : Cpy n xs ys zs hx hy hz) (ha : a < n) (hb : b < n) (hc : c < n) : acx hx hy a b c = acI xs ys a b c := acx_I (h.x ha) (h.x hb) (h.x hc) (h.y ha) (h.y hb) (h.y hc) (e a ha).1 (e b hb).1 (e c hc).1 (e a ha).2.1 (e b hb).2.1 (e c hc).2.1
theorem abv_R (h : Bd n xs ys zs) (e : Cpy n xs ys zs hx hy hz) (ha : a < n) (hb : b < n) (hc : c < n) (hp : p < n) : R64 (abvL hx hy hz a b c p) (zV (tI xs) (tI ys) (tI zs) a b c p) 6442450944 := by
  unfold abvL dot3
  rw [cx1 h e ha hb hc, cx2 h e ha hb hc, cx3 h e ha hb hc, (e p hp).1, (e p hp).2.1, (e p hp).2.2, (e a ha).1, (e a ha).2.1, (e a ha).2.2]
  exact ((((ac1 h ha hb hc).mul ((R64.i32 (h.x hp)).sub (R64.i32 (h.x ha)) (by decide)) (by decide)).add ((ac2 h ha hb hc).mul ((R64.i32 (h.y hp)).sub (R64.i32 (h.y ha)) (by decide)) (by decide)) (by decide)).add ((ac3 h ha hb hc).mul ((R64.i32 (h.z hp)).sub (R64.i32 (h.z ha)) (by decide)) (by decide)) (by decide))
theorem lyD_R (h : Bd n xs ys zs) (ha : a < n) (hb : b < n) (hc : c < n) : R64 (lyD xs ys zs a b c) (zN1 (tI xs) (tI ys) (tI zs) a b c * tI xs a + zN2 (tI xs) (tI ys) (tI zs) a b c * tI ys a + zN3 (tI xs) (tI ys) (tI zs) a b c * tI zs a) 3221225472 := by
  unfold lyD
  exact ((((ac1 h ha hb hc).mul (R64.i32 (h.x ha)) (by decide)).add ((ac2 h ha hb hc).mul (R64.i32 (h.y ha)) (by decide)) (by decide)).add ((ac3 h ha hb hc).mul (R64.i32 (h.z ha)) (by decide)) (by decide))
theorem ptH_R (h : Bd n xs ys zs) (ha : a < n) (hb : b < n) (hc : c < n) (hp : p < n) : R64 (ptH xs ys zs a b c p) (zV (tI xs) (tI ys) (tI zs) a b c p) 6442450944 := by
  unfold ptH htL
  refine (((((ac1 h ha hb hc).mul (R64.i32 (h.x hp)) (by decide)).add ((ac2 h ha hb hc).mul (R64.i32 (h.y hp)) (by decide)) (by decide)).add ((ac3 h ha hb hc).mul (R64.i32 (h.z hp)) (by decide)) (by decide)).sub (lyD_R h ha hb hc) (by decide)).to ?_
  unfold zV zH tI
  grind
theorem vlL_R {d : Nat} (h : Bd n xs ys zs) (ha : a < n) (hb : b < n) (hc : c < n) (hd : d < n) : R64 (vlL xs ys zs a b c d) (zV (tI xs) (tI ys) (tI zs) a b c d) 6442450944 := by
  have d32 : ∀ {x y : Int32}, (-512 ≤ x.toInt ∧ x.toInt ≤ 512) → (-512 ≤ y.toInt ∧ y.toInt ≤ 512) → R64 (x - y).toInt64 (x.toInt - y.toInt) 1024 := by
    intro x y hx hy
    have e := sub32 hx hy
    exact (R64.i32 (x := x - y) (B := 1024) (by rw [e]; omega)).to e
  exact ((((ac1 h ha hb hc).mul (d32 (h.x hd) (h.x ha)) (by decide)).add ((ac2 h ha hb hc).mul (d32 (h.y hd) (h.y ha)) (by decide)) (by decide)).add ((ac3 h ha hb hc).mul (d32 (h.z hd) (h.z ha)) (by decide)) (by decide))
/-- four points in no plane -/
def Sld (n : Nat) (xs ys zs : Nat → Int32) : Prop := ∃ a b c d, a < n ∧ b < n ∧ c < n ∧ d < n ∧ zV (tI xs) (tI ys) (tI zs) a b c d ≠ 0
end MN
section MN2
variable {X Y Z : Nat → Int} {a b c d p : Nat}
theorem zV_s1 : zV X Y Z b a c d = - zV X Y Z a b c d := by unfold zV zH zN1 zN2 zN3; grind
theorem zV_s2 : zV X Y Z a c b d = - zV X Y Z a b c d := by unfold zV zH zN1 zN2 zN3; grind
theorem zV_s3 : zV X Y Z a b d c = - zV X Y Z a b c d := by unfold zV zH zN1 zN2 zN3; grind
theorem zV_e1 : zV X Y Z a a c d = 0 := by unfold zV zH zN1 zN2 zN3; grind
theorem zV_e2 : zV X Y Z a b b d = 0 := by unfold zV zH zN1 zN2 zN3; grind
theorem zV_e3 : zV X Y Z a b c c = 0 := by unfold zV zH zN1 zN2 zN3; grind
/-- .. in their order -/
theorem zV_sort {n : Nat} (h : ∃ a b c d, a < n ∧ b < n ∧ c < n ∧ d < n ∧ zV X Y Z a b c d ≠ 0) : ∃ a b c d, a < b ∧ b < c ∧ c < d ∧ d < n ∧ zV X Y Z a b c d ≠ 0 := by
  obtain ⟨a, b, c, d, ha, hb, hc, hd, hv⟩ := h
  have w1 : ∃ a b c d, a < b ∧ a < c ∧ a < d ∧ a < n ∧ b < n ∧ c < n ∧ d < n ∧ zV X Y Z a b c d ≠ 0 := by
    have n1 : a ≠ b := fun e => hv (by subst e; exact zV_e1)
    have n2 : a ≠ c := fun e => hv (by subst e; rw [← Int.neg_inj, Int.neg_zero, ← zV_s2]; exact zV_e1)
    have n3 : a ≠ d := fun e => hv (by subst e; rw [← Int.neg_inj, Int.neg_zero, ← zV_s3, ← Int.neg_inj, Int.neg_zero, ← zV_s2]; exact zV_e1)
    have n4 : b ≠ c := fun e => hv (by subst e; exact zV_e2)
    have n5 : b ≠ d := fun e => hv (by subst e; rw [← Int.neg_inj, Int.neg_zero, ← zV_s3]; exact zV_e2)
    have n6 : c ≠ d := fun e => hv (by subst e; exact zV_e3)
    by_cases q1 : a < b ∧ a < c ∧ a < d
    · exact ⟨a, b, c, d, q1.1, q1.2.1, q1.2.2, ha, hb, hc, hd, hv⟩
    · by_cases q2 : b < a ∧ b < c ∧ b < d
      · exact ⟨b, a, c, d, q2.1, q2.2.1, q2.2.2, hb, ha, hc, hd, by rw [zV_s1]; omega⟩
      · by_cases q3 : c < a ∧ c < b ∧ c < d
        · exact ⟨c, a, b, d, q3.1, q3.2.1, q3.2.2, hc, ha, hb, hd, by rw [zV_s1, zV_s2]; omega⟩
        · exact ⟨d, a, b, c, by omega, by omega, by omega, hd, ha, hb, hc, by rw [zV_s1, zV_s2, zV_s3]; omega⟩
  obtain ⟨a, b, c, d, h1, h2, h3, ha, hb, hc, hd, hv⟩ := w1
  have w2 : ∃ a b c d, a < b ∧ b < c ∧ b < d ∧ c < n ∧ d < n ∧ zV X Y Z a b c d ≠ 0 := by
    have n4 : b ≠ c := fun e => hv (by subst e; exact zV_e2)
    have n5 : b ≠ d := fun e => hv (by subst e; rw [← Int.neg_inj, Int.neg_zero, ← zV_s3]; exact zV_e2)
    by_cases q1 : b < c ∧ b < d
    · exact ⟨a, b, c, d, h1, q1.1, q1.2, hc, hd, hv⟩
    · by_cases q2 : c < b ∧ c < d
      · exact ⟨a, c, b, d, h2, q2.1, q2.2, hb, hd, by rw [zV_s2]; omega⟩
      · have n6 : c ≠ d := fun e => hv (by subst e; exact zV_e3)
        exact ⟨a, d, b, c, h3, by omega, by omega, hb, hc, by rw [zV_s2, zV_s3]; omega⟩
  obtain ⟨a, b, c, d, h1, h2, h3, hc, hd, hv⟩ := w2
  have n6 : c ≠ d := fun e => hv (by subst e; exact zV_e3)
  by_cases q : c < d
  · exact ⟨a, b, c, d, h1, h2, q, hd, hv⟩
  · exact ⟨a, b, d, c, h1, h3, by omega, hc, by rw [zV_s3]; omega⟩
end MN2
section MN3
variable {xs ys zs : Nat → Int32} {n : Nat}
theorem sldB_iff (h : Bd n xs ys zs) : sldB n xs ys zs = true ↔ Sld n xs ys zs := by
  constructor
  · intro hs
    simp only [sldB, slA, slB, slC, slD, anyB_iff] at hs
    obtain ⟨a, ha, i, hi, j, hj, k, hk, hne⟩ := hs
    refine ⟨a, a + 1 + i, a + 1 + i + 1 + j, a + 1 + i + 1 + j + 1 + k, by omega, by omega, by omega, by omega, ?_⟩
    intro e
    have := (vlL_R (d := a + 1 + i + 1 + j + 1 + k) h (by omega) (by omega) (by omega) (by omega)).eq0.mpr e
    rw [this] at hne
    simp at hne
  · intro hs
    obtain ⟨a, b, c, d, h1, h2, h3, h4, hv⟩ := zV_sort hs
    simp only [sldB, slA, slB, slC, slD, anyB_iff]
    refine ⟨a, by omega, b - (a + 1), by omega, c - (b + 1), by omega, d - (c + 1), by omega, ?_⟩
    rw [show a + 1 + (b - (a + 1)) = b by omega, show b + 1 + (c - (b + 1)) = c by omega, show c + 1 + (d - (c + 1)) = d by omega]
    have : vlL xs ys zs a b c d ≠ 0 := fun e => hv ((vlL_R h (by omega) (by omega) (by omega) (by omega)).eq0.mp e)
    simpa using this
theorem lyB_iff {a b c : Nat} (h : Bd n xs ys zs) (ha : a < n) (hb : b < n) (hc : c < n) : lyB xs ys zs a b c = true ↔ zL (tI xs) (tI ys) (tI zs) a b c := by
  unfold lyB zL
  simp only [Bool.or_eq_true, Bool.not_eq_true', decide_eq_false_iff_not]
  rw [(ac1 h ha hb hc).eq0, (ac2 h ha hb hc).eq0, (ac3 h ha hb hc).eq0]
  exact or_assoc
/-- all in one line -/
theorem zV_line {X Y Z : Nat → Int} {o e a b c d : Nat} (he : X o ≠ X e ∨ Y o ≠ Y e ∨ Z o ≠ Z e) (ha : zN1 X Y Z o e a = 0 ∧ zN2 X Y Z o e a = 0 ∧ zN3 X Y Z o e a = 0) (hb : zN1 X Y Z o e b = 0 ∧ zN2 X Y Z o e b = 0 ∧ zN3 X Y Z o e b = 0) (hc : zN1 X Y Z o e c = 0 ∧ zN2 X Y Z o e c = 0 ∧ zN3 X Y Z o e c = 0) : zV X Y Z a b c d = 0 := by
  obtain ⟨a1, a2, a3⟩ := ha; obtain ⟨b1, b2, b3⟩ := hb; obtain ⟨c1, c2, c3⟩ := hc
  have he' : X e - X o ≠ 0 ∨ Y e - Y o ≠ 0 ∨ Z e - Z o ≠ 0 := by omega
  have k : zN1 X Y Z a b c = 0 ∧ zN2 X Y Z a b c = 0 ∧ zN3 X Y Z a b c = 0 := by
    unfold zN1 zN2 zN3 at *
    have r1 : ∀ f : Nat → Int, f b - f a = (f b - f o) - (f a - f o) := fun f => by omega
    have r2 : ∀ f : Nat → Int, f c - f a = (f c - f o) - (f a - f o) := fun f => by omega
    rw [r1 X, r1 Y, r1 Z, r2 X, r2 Y, r2 Z]
    clear r1 r2 he
    generalize X e - X o = e1 at *; generalize Y e - Y o = e2 at *; generalize Z e - Z o = e3 at *
    generalize X a - X o = p1 at *; generalize Y a - Y o = p2 at *; generalize Z a - Z o = p3 at *
    generalize X b - X o = q1 at *; generalize Y b - Y o = q2 at *; generalize Z b - Z o = q3 at *
    generalize X c - X o = s1 at *; generalize Y c - Y o = s2 at *; generalize Z c - Z o = s3 at *
    have pz : ∀ u v : Int, u ≠ 0 → u * (u * v) = 0 → v = 0 := fun u v h1 h2 => (Int.mul_eq_zero.mp ((Int.mul_eq_zero.mp h2).resolve_left h1)).resolve_left h1
    rcases he' with h | h | h
    · exact ⟨pz e1 _ h (by clear h pz; grind), pz e1 _ h (by clear h pz; grind), pz e1 _ h (by clear h pz; grind)⟩
    · exact ⟨pz e2 _ h (by clear h pz; grind), pz e2 _ h (by clear h pz; grind), pz e2 _ h (by clear h pz; grind)⟩
    · exact ⟨pz e3 _ h (by clear h pz; grind), pz e3 _ h (by clear h pz; grind), pz e3 _ h (by clear h pz; grind)⟩
  unfold zV
  rw [k.1, k.2.1, k.2.2]
  unfold zH
  simp
/-- all in one plane -/
theorem zV_plane {X Y Z : Nat → Int} {A B C : Int} {o a b c d : Nat} (hN : A ≠ 0 ∨ B ≠ 0 ∨ C ≠ 0) (ha : zH X Y Z A B C o a = 0) (hb : zH X Y Z A B C o b = 0) (hc : zH X Y Z A B C o c = 0) (hd : zH X Y Z A B C o d = 0) : zV X Y Z a b c d = 0 := by
  unfold zV zN1 zN2 zN3 zH at *
  have r : ∀ (f : Nat → Int) (x : Nat), f x - f a = (f x - f o) - (f a - f o) := fun f x => by omega
  rw [r X b, r Y b, r Z b, r X c, r Y c, r Z c, r X d, r Y d, r Z d]
  clear r
  generalize X a - X o = p1 at *; generalize Y a - Y o = p2 at *; generalize Z a - Z o = p3 at *
  generalize X b - X o = q1 at *; generalize Y b - Y o = q2 at *; generalize Z b - Z o = q3 at *
  generalize X c - X o = s1 at *; generalize Y c - Y o = s2 at *; generalize Z c - Z o = s3 at *
  generalize X d - X o = t1 at *; generalize Y d - Y o = t2 at *; generalize Z d - Z o = t3 at *
  have pz : ∀ u v : Int, u ≠ 0 → u * v = 0 → v = 0 := fun u v h1 h2 => (Int.mul_eq_zero.mp h2).resolve_left h1
  rcases hN with h | h | h
  · exact pz A _ h (by clear h pz; grind)
  · exact pz B _ h (by clear h pz; grind)
  · exact pz C _ h (by clear h pz; grind)
theorem flR_t (h : Bd n xs ys zs) (hD : zD (tI xs) (tI ys) (tI zs) n) : ∀ k p, 2 ≤ p → (flR n xs ys zs k p = false → Sld n xs ys zs) ∧ (flR n xs ys zs k p = true → (∀ q, 2 ≤ q → q < p → q < n → ¬ zL (tI xs) (tI ys) (tI zs) 0 1 q) → n ≤ p + k → ¬ Sld n xs ys zs) := by
  intro k
  induction k with
  | zero =>
    intro p hp
    refine ⟨fun e => by simp [flR] at e, ?_⟩
    intro _ hl hn
    rintro ⟨a, b, c, d, ha, hb, hc, hd, hv⟩
    have l1 : ∀ q, q < n → zN1 (tI xs) (tI ys) (tI zs) 0 1 q = 0 ∧ zN2 (tI xs) (tI ys) (tI zs) 0 1 q = 0 ∧ zN3 (tI xs) (tI ys) (tI zs) 0 1 q = 0 := by
      intro q hq
      rcases (show q = 0 ∨ q = 1 ∨ 2 ≤ q by omega) with e | e | e
      · subst e; unfold zN1 zN2 zN3; simp
      · subst e; unfold zN1 zN2 zN3; grind
      · have := hl q e (by omega) hq
        unfold zL at this
        refine ⟨?_, ?_, ?_⟩ <;> (apply Classical.byContradiction; intro h9; exact this (by first | exact Or.inl h9 | exact Or.inr (Or.inl h9) | exact Or.inr (Or.inr h9)))
    have hn2 : 2 ≤ n := by
      apply Classical.byContradiction
      intro h9
      have : a = b := by omega
      subst this
      exact hv zV_e1
    exact hv (zV_line (hD 0 1 (by omega) (by omega) (by omega)) (l1 a ha) (l1 b hb) (l1 c hc))
  | succ k ih =>
    intro p hp
    by_cases hpn : p < n
    · by_cases hly : lyB xs ys zs 0 1 p = true
      · have hL := (lyB_iff h (by omega) (by omega) hpn).mp hly
        have e : flR n xs ys zs (k + 1) p = allB n (fun q => ptH xs ys zs 0 1 p q == 0) := by simp [flR, hpn, hly]
        rw [e]
        constructor
        · intro h9
          obtain ⟨q, hq, hne⟩ : ∃ q, q < n ∧ zV (tI xs) (tI ys) (tI zs) 0 1 p q ≠ 0 := by
            apply Classical.byContradiction
            intro hno
            have : allB n (fun q => ptH xs ys zs 0 1 p q == 0) = true := allB_iff.mpr (fun q hq => by
              have h8 : zV (tI xs) (tI ys) (tI zs) 0 1 p q = 0 := by
                apply Classical.byContradiction
                intro h7; exact hno ⟨q, hq, h7⟩
              simp [(ptH_R h (by omega) (by omega) hpn hq).eq0.mpr h8])
            rw [h9] at this; cases this
          exact ⟨0, 1, p, q, by omega, by omega, hpn, hq, hne⟩
        · intro h9 _ _
          have hz : ∀ q, q < n → zV (tI xs) (tI ys) (tI zs) 0 1 p q = 0 := fun q hq => (ptH_R h (by omega) (by omega) hpn hq).eq0.mp (by have := allB_iff.mp h9 q hq; simpa using this)
          rintro ⟨a, b, c, d, ha, hb, hc, hd, hv⟩
          exact hv (zV_plane (o := 0) hL (hz a ha) (hz b hb) (hz c hc) (hz d hd))
      · have e : flR n xs ys zs (k + 1) p = flR n xs ys zs k (p + 1) := by simp [flR, hpn, hly]
        rw [e]
        refine ⟨(ih (p + 1) (by omega)).1, fun h9 hl hn => (ih (p + 1) (by omega)).2 h9 ?_ (by omega)⟩
        intro q hq1 hq2 hq3
        by_cases eq : q = p
        · subst eq
          intro hL
          exact hly ((lyB_iff h (by omega) (by omega) hq3).mpr hL)
        · exact hl q hq1 (by omega) hq3
    · have e : flR n xs ys zs (k + 1) p = true := by simp [flR, hpn]
      refine ⟨fun h9 => (by rw [e] at h9; cases h9), fun _ hl hn => ?_⟩
      exact (ih p hp).2 (by
        cases k with
        | zero => simp [flR]
        | succ k => simp [flR, hpn]) hl (by omega)
theorem flB_iff (h : Bd n xs ys zs) (hD : zD (tI xs) (tI ys) (tI zs) n) : flB n xs ys zs = !sldB n xs ys zs := by
  have k := flR_t h hD (n + 1) 2 (by omega)
  unfold flB
  cases e : flR n xs ys zs (n + 1) 2 with
  | false =>
    rw [(sldB_iff h).mpr (k.1 e)]; rfl
  | true =>
    cases e2 : sldB n xs ys zs with
    | false => rfl
    | true => exact absurd ((sldB_iff h).mp e2) (k.2 e (fun q h1 h2 _ => by omega) (by omega))
end MN3
