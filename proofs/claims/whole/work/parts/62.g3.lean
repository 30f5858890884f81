section ZE2
variable {X Y Z : Nat → Int} {n : Nat} {A B C D A' B' C' D' : Int} {a b c d p q u v w : Nat}
/-- .. and one before it -/
theorem zPred (hD : zD X Y Z n) (hN : A ≠ 0 ∨ B ≠ 0 ∨ C ≠ 0) (hx : zX X Y Z n A B C D a) (ho : ∃ c, c < n ∧ c ≠ a ∧ zI X Y Z A B C D c) : ∃ b, zE X Y Z n A B C D b a := by
  obtain ⟨ha, ia, f1, f2, f3, hf⟩ := hx
  obtain ⟨b, hb, ⟨hba, ib⟩, hR⟩ := finMin (fun c => c < n ∧ c ≠ a ∧ zI X Y Z A B C D c) (fun b c => 0 < zO X Y Z A B C a c b ∨ (zO X Y Z A B C a c b = 0 ∧ zH X Y Z f1 f2 f3 a b ≤ zH X Y Z f1 f2 f3 a c)) (by
      intro i j hi hj
      have e := zO_sw2 (X := X) (Y := Y) (Z := Z) (A := A) (B := B) (C := C) (a := a) (b := i) (c := j)
      omega) (by
      rintro k j i ⟨hk, hk1, hk2⟩ ⟨hj, hj1, hj2⟩ ⟨hi, hi1, hi2⟩ h2 h1
      have ti := hf i hi hi1 hi2
      have tj := hf j hj hj1 hj2
      have tk := hf k hk hk1 hk2
      have pl := zPl3 f1 f2 f3 (zH_0 ia hi2) (zH_0 ia hj2) (zH_0 ia hk2)
      generalize zO X Y Z A B C a i k = oik at *
      generalize zO X Y Z A B C a i j = oij at *
      generalize zO X Y Z A B C a j k = ojk at *
      generalize zH X Y Z f1 f2 f3 a i = si at *
      generalize zH X Y Z f1 f2 f3 a j = sj at *
      generalize zH X Y Z f1 f2 f3 a k = sk at *
      have pl2 : (-sj) * oik = (-si) * ojk + (-sk) * oij := by
        rw [Int.neg_mul, Int.neg_mul, Int.neg_mul]; omega
      have hij : 0 ≤ oij := by omega
      have hjk : 0 ≤ ojk := by omega
      have m1 : 0 ≤ (-si) * ojk := Int.mul_nonneg (by omega) hjk
      have m2 : 0 ≤ (-sk) * oij := Int.mul_nonneg (by omega) hij
      have hik : 0 ≤ oik := pm_nn (x := -sj) (by omega) (by omega)
      rcases Int.lt_or_eq_of_le hik with h | h
      · exact Or.inl h
      · right
        refine ⟨h.symm, ?_⟩
        rw [← h, Int.mul_zero] at pl2
        have z1 : (-si) * ojk = 0 := by omega
        have z2 : (-sk) * oij = 0 := by omega
        have z3 := pm_z z1 (by omega)
        have z4 := pm_z z2 (by omega)
        omega) n (by obtain ⟨c, h1, h2, h3⟩ := ho; exact ⟨c, h1, h1, h2, h3⟩)
  refine ⟨b, hb, ha, ib.1, ib.2, ia, fun c hc hcb hca ic => ?_⟩
  rw [show zO X Y Z A B C b a c = zO X Y Z A B C a c b from zO_cyc]
  rcases hR c hc ⟨hc, hca, ic⟩ with h | ⟨h, h2⟩
  · exact Or.inl h
  · have e := zO_sw2 (X := X) (Y := Y) (Z := Z) (A := A) (B := B) (C := C) (a := a) (b := b) (c := c)
    have r := zRay f1 f2 f3 hD ha hb hc (fun e => hcb e.symm) (zO_line hN (zH_0 ia ib.2) (zH_0 ia ic) (by omega)) (hf b hb ib.1 ib.2) (hf c hc hca ic) h2
    refine Or.inr ⟨h, ?_⟩
    have : zB X Y Z b a c = zB X Y Z a b c := by unfold zB; grind
    omega
theorem bd_e {x1 x2 x3 y1 y2 y3 : Int} (h1 : -1024 ≤ x1 ∧ x1 ≤ 1024) (h2 : -1024 ≤ x2 ∧ x2 ≤ 1024) (h3 : -1024 ≤ x3 ∧ x3 ≤ 1024) (k1 : -1024 ≤ y1 ∧ y1 ≤ 1024) (k2 : -1024 ≤ y2 ∧ y2 ≤ 1024) (k3 : -1024 ≤ y3 ∧ y3 ≤ 1024) : -8388608 < x1 * y1 + x2 * y2 + x3 * y3 := by
  have f : ∀ x y : Int, -1024 ≤ x ∧ x ≤ 1024 → -1024 ≤ y ∧ y ≤ 1024 → -1048576 ≤ x * y := by
    intro x y hx hy
    have h1 := Int.mul_nonneg (show 0 ≤ 1024 + x by omega) (show 0 ≤ 1024 + y by omega)
    have h2 := Int.mul_nonneg (show 0 ≤ 1024 - x by omega) (show 0 ≤ 1024 - y by omega)
    have e1 : (1024 + x) * (1024 + y) + (1024 - x) * (1024 - y) = 2097152 + 2 * (x * y) := by grind
    omega
  have := f x1 y1 h1 k1; have := f x2 y2 h2 k2; have := f x3 y3 h3 k3
  omega
/-- the ends of a step stand out -/
theorem zE_X2 (hM : zM X Y Z n) (hD : zD X Y Z n) (h : zE X Y Z n A B C D a b) : zX X Y Z n A B C D b := by
  obtain ⟨ha, hb, hab, ia, ib, hc⟩ := h
  have hE : ∀ c, c < n → c ≠ b → zI X Y Z A B C D c → (0 < zO X Y Z A B C a b c ∨ (zO X Y Z A B C a b c = 0 ∧ zB X Y Z a b c ≤ 0)) := by
    intro c h1 h2 h3
    by_cases e : c = a
    · subst e; exact Or.inr ⟨zO_r, by unfold zB; simp⟩
    · rcases hc c h1 e h2 h3 with h | h
      · exact Or.inl h
      · exact Or.inr ⟨h.1, by omega⟩
  refine ⟨hb, ib, -(8388608 * (B * (Z b - Z a) - C * (Y b - Y a))) + (X b - X a), -(8388608 * (C * (X b - X a) - A * (Z b - Z a))) + (Y b - Y a), -(8388608 * (A * (Y b - Y a) - B * (X b - X a))) + (Z b - Z a), ?_⟩
  intro c h1 h2 h3
  have key : zH X Y Z (-(8388608 * (B * (Z b - Z a) - C * (Y b - Y a))) + (X b - X a)) (-(8388608 * (C * (X b - X a) - A * (Z b - Z a))) + (Y b - Y a)) (-(8388608 * (A * (Y b - Y a) - B * (X b - X a))) + (Z b - Z a)) b c = -(8388608 * zO X Y Z A B C a b c) - ((X b - X a) * (X b - X c) + (Y b - Y a) * (Y b - Y c) + (Z b - Z a) * (Z b - Z c)) := by
    unfold zH zO zN1 zN2 zN3; grind
  rw [key]
  have m1 := hM a ha; have m2 := hM b hb; have m3 := hM c h1
  rcases hE c h1 h2 h3 with h | ⟨h, hB⟩
  · have := bd_e (x1 := X b - X a) (x2 := Y b - Y a) (x3 := Z b - Z a) (y1 := X b - X c) (y2 := Y b - Y c) (y3 := Z b - Z c) (by omega) (by omega) (by omega) (by omega) (by omega) (by omega)
    omega
  · rw [h]
    have k2 : (X b - X a) * (X b - X c) + (Y b - Y a) * (Y b - Y c) + (Z b - Z a) * (Z b - Z c) = ((X b - X c) * (X b - X c) + (Y b - Y c) * (Y b - Y c) + (Z b - Z c) * (Z b - Z c)) - zB X Y Z a b c := by unfold zB; grind
    have := sq_pos (A := X b - X c) (B := Y b - Y c) (C := Z b - Z c) (by rcases hD b c hb h1 (fun e => h2 e.symm) with h | h | h <;> omega)
    omega
theorem zE_X1 (hM : zM X Y Z n) (hD : zD X Y Z n) (h : zE X Y Z n A B C D a b) : zX X Y Z n A B C D a := by
  obtain ⟨ha, hb, hab, ia, ib, hc⟩ := h
  have hE : ∀ c, c < n → c ≠ a → zI X Y Z A B C D c → (0 < zO X Y Z A B C a b c ∨ (zO X Y Z A B C a b c = 0 ∧ zB X Y Z a b c ≤ 0)) := by
    intro c h1 h2 h3
    by_cases e : c = b
    · subst e; exact Or.inr ⟨zO_r2, by unfold zB; simp⟩
    · rcases hc c h1 h2 e h3 with h | h
      · exact Or.inl h
      · exact Or.inr ⟨h.1, by omega⟩
  refine ⟨ha, ia, -(8388608 * (B * (Z b - Z a) - C * (Y b - Y a))) - (X b - X a), -(8388608 * (C * (X b - X a) - A * (Z b - Z a))) - (Y b - Y a), -(8388608 * (A * (Y b - Y a) - B * (X b - X a))) - (Z b - Z a), ?_⟩
  intro c h1 h2 h3
  have key : zH X Y Z (-(8388608 * (B * (Z b - Z a) - C * (Y b - Y a))) - (X b - X a)) (-(8388608 * (C * (X b - X a) - A * (Z b - Z a))) - (Y b - Y a)) (-(8388608 * (A * (Y b - Y a) - B * (X b - X a))) - (Z b - Z a)) a c = -(8388608 * zO X Y Z A B C a b c) - ((X b - X a) * (X c - X a) + (Y b - Y a) * (Y c - Y a) + (Z b - Z a) * (Z c - Z a)) := by
    unfold zH zO zN1 zN2 zN3; grind
  rw [key]
  have m1 := hM a ha; have m2 := hM b hb; have m3 := hM c h1
  rcases hE c h1 h2 h3 with h | ⟨h, hB⟩
  · have := bd_e (x1 := X b - X a) (x2 := Y b - Y a) (x3 := Z b - Z a) (y1 := X c - X a) (y2 := Y c - Y a) (y3 := Z c - Z a) (by omega) (by omega) (by omega) (by omega) (by omega) (by omega)
    omega
  · rw [h]
    have k2 : (X b - X a) * (X c - X a) + (Y b - Y a) * (Y c - Y a) + (Z b - Z a) * (Z c - Z a) = ((X c - X a) * (X c - X a) + (Y c - Y a) * (Y c - Y a) + (Z c - Z a) * (Z c - Z a)) - zB X Y Z a b c := by unfold zB; grind
    have := sq_pos (A := X c - X a) (B := Y c - Y a) (C := Z c - Z a) (by rcases hD c a h1 ha h2 with h | h | h <;> omega)
    omega
theorem zE_u1 (h : zE X Y Z n A B C D a b) (h' : zE X Y Z n A B C D a c) : b = c := by
  by_cases e : b = c
  · exact e
  · exfalso
    have k1 := h.2.2.2.2.2 c h'.2.1 (fun q => h'.2.2.1 q.symm) (fun q => e q.symm) h'.2.2.2.2.1
    have k2 := h'.2.2.2.2.2 b h.2.1 (fun q => h.2.2.1 q.symm) e h.2.2.2.2.1
    have e2 := zO_sw2 (X := X) (Y := Y) (Z := Z) (A := A) (B := B) (C := C) (a := a) (b := b) (c := c)
    have e3 : zB X Y Z a b c + zB X Y Z a c b = (X c - X b) * (X c - X b) + (Y c - Y b) * (Y c - Y b) + (Z c - Z b) * (Z c - Z b) := by unfold zB; grind
    have s1 := sq_nn (X c - X b); have s2 := sq_nn (Y c - Y b); have s3 := sq_nn (Z c - Z b)
    omega
theorem zE_u2 (h : zE X Y Z n A B C D a b) (h' : zE X Y Z n A B C D c b) : a = c := by
  by_cases e : a = c
  · exact e
  · exfalso
    have k1 := h.2.2.2.2.2 c h'.1 (fun q => e q.symm) h'.2.2.1 h'.2.2.2.1
    have k2 := h'.2.2.2.2.2 a h.1 e h.2.2.1 h.2.2.2.1
    have e2 : zO X Y Z A B C c b a = - zO X Y Z A B C a b c := by unfold zO zN1 zN2 zN3; grind
    have e3 : zB X Y Z a b c + zB X Y Z c b a = (X c - X a) * (X c - X a) + (Y c - Y a) * (Y c - Y a) + (Z c - Z a) * (Z c - Z a) := by unfold zB; grind
    have s1 := sq_nn (X c - X a); have s2 := sq_nn (Y c - Y a); have s3 := sq_nn (Z c - Z a)
    omega
/-- a point that stands out isn't between two others -/
theorem zX_btw (hx : zX X Y Z n A B C D c) (ha : a < n) (hb : b < n) (hca : a ≠ c) (hcb : b ≠ c) (ia : zI X Y Z A B C D a) (ib : zI X Y Z A B C D b) (hN : A ≠ 0 ∨ B ≠ 0 ∨ C ≠ 0) (h : zO X Y Z A B C a b c = 0) (hB : zB X Y Z a b c < 0) : False := by
  obtain ⟨hc, ic, f1, f2, f3, hf⟩ := hx
  have ta := hf a ha hca ia
  have tb := hf b hb hcb ib
  obtain ⟨l1, l2, l3⟩ := zO_line (a := c) (b := a) (c := b) hN (zH_0 ic ia) (zH_0 ic ib) (by rw [← h]; exact zO_cyc)
  unfold zN1 at l1; unfold zN2 at l2; unfold zN3 at l3
  unfold zB at hB
  unfold zH at ta tb
  have e : (X c - X a) * (X c - X b) + (Y c - Y a) * (Y c - Y b) + (Z c - Z a) * (Z c - Z b) = (X a - X c) * (X b - X c) + (Y a - Y c) * (Y b - Y c) + (Z a - Z c) * (Z b - Z c) := by grind
  rw [e] at hB
  clear e
  generalize X a - X c = a1 at *; generalize Y a - Y c = a2 at *; generalize Z a - Z c = a3 at *
  generalize X b - X c = b1 at *; generalize Y b - Y c = b2 at *; generalize Z b - Z c = b3 at *
  generalize hs : f1 * a1 + f2 * a2 + f3 * a3 = s at *
  generalize ht : f1 * b1 + f2 * b2 + f3 * b3 = t at *
  have e1 : s * b1 = t * a1 := by rw [← hs, ← ht]; clear ta tb hB hs ht; grind
  have e2 : s * b2 = t * a2 := by rw [← hs, ← ht]; clear ta tb hB hs ht e1; grind
  have e3 : s * b3 = t * a3 := by rw [← hs, ← ht]; clear ta tb hB hs ht e1 e2; grind
  have key : (-s) * (-(a1 * b1 + a2 * b2 + a3 * b3)) = t * (a1 * a1 + a2 * a2 + a3 * a3) := by
    clear hB ta tb hs ht
    grind
  have s1 := sq_nn a1; have s2 := sq_nn a2; have s3 := sq_nn a3
  have p1 : 0 < (-s) * (-(a1 * b1 + a2 * b2 + a3 * b3)) := Int.mul_pos (by omega) (by omega)
  have p2 : 0 ≤ (-t) * (a1 * a1 + a2 * a2 + a3 * a3) := Int.mul_nonneg (by omega) (by omega)
  rw [Int.neg_mul] at p2
  omega
/-- in a facet some point is off the line a b -/
theorem zOff (h : zF X Y Z n A B C D) (hab : X a ≠ X b ∨ Y a ≠ Y b ∨ Z a ≠ Z b) (ia : zI X Y Z A B C D a) (ib : zI X Y Z A B C D b) : ∃ d, d < n ∧ zI X Y Z A B C D d ∧ zO X Y Z A B C a b d ≠ 0 := by
  obtain ⟨x, y, z, hx, hy, hz, ix, iy, iz, hL⟩ := h.2.2
  have hN := zF_ne h
  by_cases h1 : zO X Y Z A B C a b x = 0
  · by_cases h2 : zO X Y Z A B C a b y = 0
    · by_cases h3 : zO X Y Z A B C a b z = 0
      · exfalso
        obtain ⟨p1, p2, p3⟩ := zO_line hN (zH_0 ia ib) (zH_0 ia ix) h1
        obtain ⟨q1, q2, q3⟩ := zO_line hN (zH_0 ia ib) (zH_0 ia iy) h2
        obtain ⟨r1, r2, r3⟩ := zO_line hN (zH_0 ia ib) (zH_0 ia iz) h3
        unfold zL at hL
        unfold zN1 at *; unfold zN2 at *; unfold zN3 at *
        have ex : ∀ f : Nat → Int, f y - f x = (f y - f a) - (f x - f a) := fun f => by omega
        have ez : ∀ f : Nat → Int, f z - f x = (f z - f a) - (f x - f a) := fun f => by omega
        rw [ex X, ex Y, ex Z, ez X, ez Y, ez Z] at hL
        have hab' : X b - X a ≠ 0 ∨ Y b - Y a ≠ 0 ∨ Z b - Z a ≠ 0 := by omega
        clear ex ez hab h1 h2 h3 h hN ia ib ix iy iz
        generalize X b - X a = b1 at *; generalize Y b - Y a = b2 at *; generalize Z b - Z a = b3 at *
        generalize X x - X a = x1 at *; generalize Y x - Y a = x2 at *; generalize Z x - Z a = x3 at *
        generalize X y - X a = y1 at *; generalize Y y - Y a = y2 at *; generalize Z y - Z a = y3 at *
        generalize X z - X a = z1 at *; generalize Y z - Y a = z2 at *; generalize Z z - Z a = z3 at *
        have pz : ∀ u v : Int, u ≠ 0 → u * v = 0 → v = 0 := fun u v h1 h2 => (Int.mul_eq_zero.mp h2).resolve_left h1
        rcases hab' with hb | hb | hb
        · rcases hL with hL | hL | hL
          · exact hL (pz b1 _ hb (pz b1 _ hb (by clear hb hL pz; grind)))
          · exact hL (pz b1 _ hb (pz b1 _ hb (by clear hb hL pz; grind)))
          · exact hL (pz b1 _ hb (pz b1 _ hb (by clear hb hL pz; grind)))
        · rcases hL with hL | hL | hL
          · exact hL (pz b2 _ hb (pz b2 _ hb (by clear hb hL pz; grind)))
          · exact hL (pz b2 _ hb (pz b2 _ hb (by clear hb hL pz; grind)))
          · exact hL (pz b2 _ hb (pz b2 _ hb (by clear hb hL pz; grind)))
        · rcases hL with hL | hL | hL
          · exact hL (pz b3 _ hb (pz b3 _ hb (by clear hb hL pz; grind)))
          · exact hL (pz b3 _ hb (pz b3 _ hb (by clear hb hL pz; grind)))
          · exact hL (pz b3 _ hb (pz b3 _ hb (by clear hb hL pz; grind)))
      · exact ⟨z, hz, iz, h3⟩
    · exact ⟨y, hy, iy, h2⟩
  · exact ⟨x, hx, ix, h1⟩
theorem zTurn (hM : zM X Y Z n) (hD : zD X Y Z n) (hF : zF X Y Z n A B C D) (h1 : zE X Y Z n A B C D u v) (h2 : zE X Y Z n A B C D v w) : 0 < zO X Y Z A B C v w u := by
  by_cases e : u = w
  · exfalso
    subst e
    obtain ⟨d, hd, id, hO⟩ := zOff hF (hD u v h1.1 h1.2.1 h1.2.2.1) h1.2.2.2.1 h1.2.2.2.2.1
    have k1 := zE_ge h1 hd id
    have k2 := zE_ge h2 hd id
    have := zO_sw (X := X) (Y := Y) (Z := Z) (A := A) (B := B) (C := C) (a := u) (b := v) (c := d)
    omega
  · rcases h2.2.2.2.2.2 u h1.1 h1.2.2.1 e h1.2.2.2.1 with h | ⟨h, hB⟩
    · exact h
    · exfalso
      exact zX_btw (zE_X1 hM hD h1) h2.1 h2.2.1 (fun q => h1.2.2.1 q.symm) (fun q => e q.symm) h2.2.2.2.1 h2.2.2.2.2.1 (zF_ne hF) h hB
/-- a point of the ring with both neighbours no higher is highest of the facet -/
theorem zLocal (f1 f2 f3 : Int) (hM : zM X Y Z n) (hD : zD X Y Z n) (hF : zF X Y Z n A B C D) (h1 : zE X Y Z n A B C D u v) (h2 : zE X Y Z n A B C D v w) (tu : zH X Y Z f1 f2 f3 v u ≤ 0) (tw : zH X Y Z f1 f2 f3 v w ≤ 0) (hc : c < n) (ic : zI X Y Z A B C D c) : zH X Y Z f1 f2 f3 v c ≤ 0 := by
  have ht := zTurn hM hD hF h1 h2
  have iv := h1.2.2.2.2.1
  have pl := zPl3 (v := v) (a := w) (b := c) (c := u) f1 f2 f3 (zH_0 iv h2.2.2.2.2.1) (zH_0 iv ic) (zH_0 iv h1.2.2.2.1)
  have k1 := zE_ge h1 hc ic
  have k2 := zE_ge h2 hc ic
  have e1 : zO X Y Z A B C v c u = zO X Y Z A B C u v c := zO_cyc.symm
  rw [e1] at pl
  generalize zO X Y Z A B C v w u = o1 at *
  generalize zO X Y Z A B C u v c = o2 at *
  generalize zO X Y Z A B C v w c = o3 at *
  generalize zH X Y Z f1 f2 f3 v w = sw at *
  generalize zH X Y Z f1 f2 f3 v u = su at *
  generalize zH X Y Z f1 f2 f3 v c = sc at *
  have m1 := Int.mul_nonneg (show 0 ≤ -sw by omega) k1
  have m2 := Int.mul_nonneg (show 0 ≤ -su by omega) k2
  rw [Int.neg_mul] at m1 m2
  have : 0 ≤ o1 * (-sc) := by rw [Int.mul_neg, Int.mul_comm]; omega
  have := pm_nn this ht
  omega
end ZE2
