section M4a
variable {xs ys zs : Nat → Int32} {n a b c : Nat} {hx hy hz : Nat → Int64}
theorem tC_ok (h : Bd n xs ys zs) (e : Cpy n xs ys zs hx hy hz) {F : FT} (hM : MI xs ys zs n F) (ha : a < n) (hb : b < n) : ∀ k, k ≤ n - (b + 1) → MI xs ys zs n (tC n hx hy hz a b F k) ∧ FX F (tC n hx hy hz a b F k) ∧ ∀ c, b + 1 ≤ c → c < b + 1 + k → ∀ s, Side n (tI xs) (tI ys) (tI zs) a b c s → Fnd xs ys zs (tC n hx hy hz a b F k) a b c := by
  intro k
  induction k with
  | zero => intro _; exact ⟨hM, FX.rf F, fun c h1 h2 => by omega⟩
  | succ k ih =>
    intro hk
    obtain ⟨m1, m2, m3⟩ := ih (by omega)
    obtain ⟨s1, s2, s3⟩ := tri_step h e m1 ha hb (show b + 1 + k < n by omega)
    refine ⟨s1, m2.tr s2, fun c h1 h2 s hS => ?_⟩
    rcases Nat.lt_or_ge c (b + 1 + k) with h3 | h3
    · exact (m3 c h1 h3 s hS).up s2
    · have : c = b + 1 + k := by omega
      subst this
      exact s3 s hS
theorem tB_ok (h : Bd n xs ys zs) (e : Cpy n xs ys zs hx hy hz) {F : FT} (hM : MI xs ys zs n F) (ha : a < n) : ∀ k, k ≤ n - (a + 1) → MI xs ys zs n (tB n hx hy hz a F k) ∧ FX F (tB n hx hy hz a F k) ∧ ∀ b c, a + 1 ≤ b → b < a + 1 + k → b < c → c < n → ∀ s, Side n (tI xs) (tI ys) (tI zs) a b c s → Fnd xs ys zs (tB n hx hy hz a F k) a b c := by
  intro k
  induction k with
  | zero => intro _; exact ⟨hM, FX.rf F, fun b c h1 h2 => by omega⟩
  | succ k ih =>
    intro hk
    obtain ⟨m1, m2, m3⟩ := ih (by omega)
    obtain ⟨s1, s2, s3⟩ := tC_ok h e m1 ha (show a + 1 + k < n by omega) (n - (a + 1 + k + 1)) (Nat.le_refl _)
    refine ⟨s1, m2.tr s2, fun b c h1 h2 h4 h5 s hS => ?_⟩
    rcases Nat.lt_or_ge b (a + 1 + k) with h3 | h3
    · exact (m3 b c h1 h3 h4 h5 s hS).up s2
    · have : b = a + 1 + k := by omega
      subst this
      exact s3 c (by omega) (by omega) s hS
theorem tA_ok (h : Bd n xs ys zs) (e : Cpy n xs ys zs hx hy hz) {F : FT} (hM : MI xs ys zs n F) : ∀ k, k ≤ n → MI xs ys zs n (tA n hx hy hz F k) ∧ FX F (tA n hx hy hz F k) ∧ ∀ a b c, a < k → a < b → b < c → c < n → ∀ s, Side n (tI xs) (tI ys) (tI zs) a b c s → Fnd xs ys zs (tA n hx hy hz F k) a b c := by
  intro k
  induction k with
  | zero => intro _; exact ⟨hM, FX.rf F, fun a b c h1 => by omega⟩
  | succ k ih =>
    intro hk
    obtain ⟨m1, m2, m3⟩ := ih (by omega)
    obtain ⟨s1, s2, s3⟩ := tB_ok h e m1 (show k < n by omega) (n - (k + 1)) (Nat.le_refl _)
    refine ⟨s1, m2.tr s2, fun a b c h1 h2 h4 h5 s hS => ?_⟩
    rcases Nat.lt_or_ge a k with h3 | h3
    · exact (m3 a b c h3 h2 h4 h5 s hS).up s2
    · have : a = k := by omega
      subst this
      exact s3 b c (by omega) (by omega) h4 h5 s hS
theorem Side_s1 {X Y Z : Nat → Int} {s : Int} (h : Side n X Y Z a b c s) : Side n X Y Z b a c (-s) := by
  obtain ⟨h1, h2, h3, p, hp, h4⟩ := h
  refine ⟨?_, by omega, fun p hp => ?_, p, hp, ?_⟩
  · have e1 : zN1 X Y Z b a c = - zN1 X Y Z a b c := by unfold zN1; grind
    have e2 : zN2 X Y Z b a c = - zN2 X Y Z a b c := by unfold zN2; grind
    have e3 : zN3 X Y Z b a c = - zN3 X Y Z a b c := by unfold zN3; grind
    unfold zL at *; rw [e1, e2, e3]; omega
  · have := h3 p hp
    rw [zV_s1, Int.neg_mul_neg]; exact this
  · rw [zV_s1, Int.neg_mul_neg]; exact h4
theorem Side_s2 {X Y Z : Nat → Int} {s : Int} (h : Side n X Y Z a b c s) : Side n X Y Z a c b (-s) := by
  obtain ⟨h1, h2, h3, p, hp, h4⟩ := h
  refine ⟨?_, by omega, fun p hp => ?_, p, hp, ?_⟩
  · have e1 : zN1 X Y Z a c b = - zN1 X Y Z a b c := by unfold zN1; grind
    have e2 : zN2 X Y Z a c b = - zN2 X Y Z a b c := by unfold zN2; grind
    have e3 : zN3 X Y Z a c b = - zN3 X Y Z a b c := by unfold zN3; grind
    unfold zL at *; rw [e1, e2, e3]; omega
  · have := h3 p hp
    rw [zV_s2, Int.neg_mul_neg]; exact this
  · rw [zV_s2, Int.neg_mul_neg]; exact h4
theorem zL_ne {X Y Z : Nat → Int} (h : zL X Y Z a b c) : a ≠ b ∧ a ≠ c ∧ b ≠ c := by
  refine ⟨?_, ?_, ?_⟩ <;> intro e <;> subst e <;> unfold zL zN1 zN2 zN3 at h
  · simp at h
  · simp at h
  · grind
/-- every supporting triple, in whatever order, has its face -/
theorem Fnd_all {F : FT} (h : ∀ a b c, a < b → b < c → c < n → ∀ s, Side n (tI xs) (tI ys) (tI zs) a b c s → Fnd xs ys zs F a b c) : ∀ a b c, a < n → b < n → c < n → ∀ s, Side n (tI xs) (tI ys) (tI zs) a b c s → Fnd xs ys zs F a b c := by
  intro a b c ha hb hc s hS
  have f1 : ∀ {a b c}, Fnd xs ys zs F b a c → Fnd xs ys zs F a b c := by rintro a b c ⟨k, hk, i, j, l⟩; exact ⟨k, hk, j, i, l⟩
  have f2 : ∀ {a b c}, Fnd xs ys zs F a c b → Fnd xs ys zs F a b c := by rintro a b c ⟨k, hk, i, j, l⟩; exact ⟨k, hk, i, l, j⟩
  obtain ⟨n1, n2, n3⟩ := zL_ne hS.1
  by_cases h1 : a < b
  · by_cases h2 : b < c
    · exact h a b c h1 h2 hc s hS
    · by_cases h3 : a < c
      · exact f2 (h a c b h3 (by omega) hb _ (Side_s2 hS))
      · exact f2 (f1 (h c a b (by omega) h1 hb _ (Side_s1 (Side_s2 hS))))
  · by_cases h2 : a < c
    · exact f1 (h b a c (by omega) h2 hc _ (Side_s1 hS))
    · by_cases h3 : b < c
      · exact f1 (f2 (h b c a h3 (by omega) ha _ (Side_s2 (Side_s1 hS))))
      · exact f1 (f2 (f1 (h c b a (by omega) (by omega) ha _ (Side_s1 (Side_s2 (Side_s1 hS))))))
/-- the reference's faces, when all is tried: all facets, each once -/
theorem tA_S (h : Bd n xs ys zs) (e : Cpy n xs ys zs hx hy hz) (hS : Sld n xs ys zs) (F : FT) (hF : F.1 = 0) : MI xs ys zs n (tA n hx hy hz F n) ∧ zS (tI xs) (tI ys) (tI zs) n (fA (tA n hx hy hz F n)) (fB (tA n hx hy hz F n)) (fC (tA n hx hy hz F n)) (fD (tA n hx hy hz F n)) (tA n hx hy hz F n).1 := by
  have hM : MI xs ys zs n F := ⟨fun k hk => by omega, fun j k hj => by omega⟩
  obtain ⟨m1, m2, m3⟩ := tA_ok h e hM n (Nat.le_refl _)
  refine ⟨m1, fun f hf => ⟨(m1.1 f hf).1, (m1.1 f hf).2.1⟩, m1.2, ?_⟩
  intro a b c ha hb hc hL hV
  have hside : Side n (tI xs) (tI ys) (tI zs) a b c (-1) := by
    refine ⟨hL, Or.inr rfl, fun p hp => by have := hV p hp; omega, ?_⟩
    apply Classical.byContradiction
    intro hno
    have hz : ∀ p, p < n → zV (tI xs) (tI ys) (tI zs) a b c p = 0 := by
      intro p hp
      apply Classical.byContradiction
      intro h9
      exact hno ⟨p, hp, by have := hV p hp; omega⟩
    obtain ⟨x, y, z, w, h1, h2, h3, h4, hv⟩ := hS
    exact hv (zV_plane (o := a) hL (hz x h1) (hz y h2) (hz z h3) (hz w h4))
  exact Fnd_all (fun a b c h1 h2 h3 s hs => m3 a b c (by omega) h1 h2 h3 s hs) a b c ha hb hc _ hside
theorem Sld_4 (hS : Sld n xs ys zs) : 4 ≤ n := by
  obtain ⟨a, b, c, d, h1, h2, h3, h4, _⟩ := zV_sort hS
  omega
theorem tA_44 (h : Bd n xs ys zs) (hD : zD (tI xs) (tI ys) (tI zs) n) (hn : n ≤ 24) (e : Cpy n xs ys zs hx hy hz) (hS : Sld n xs ys zs) (F : FT) (hF : F.1 = 0) : (tA n hx hy hz F n).1 ≤ 44 := by
  have := zFaces (tA_S h e hS F hF).2 h hD (by have := Sld_4 hS; omega)
  omega
/-- counts only grow -/
theorem triF_le (F : FT) : F.1 ≤ (triF F n hx hy hz a b c).1 := by
  unfold triF
  split
  · exact Nat.le_refl _
  · exact (addF_FX F _ _ _ _).1
theorem tC_le (F : FT) : ∀ k j, j ≤ k → (tC n hx hy hz a b F j).1 ≤ (tC n hx hy hz a b F k).1 := by
  intro k
  induction k with
  | zero => intro j hj; rw [show j = 0 by omega]; exact Nat.le_refl _
  | succ k ih =>
    intro j hj
    rcases Nat.lt_or_ge j (k + 1) with h | h
    · exact Nat.le_trans (ih j (by omega)) (triF_le _)
    · rw [show j = k + 1 by omega]; exact Nat.le_refl _
theorem tB_le (F : FT) : ∀ k j, j ≤ k → (tB n hx hy hz a F j).1 ≤ (tB n hx hy hz a F k).1 := by
  intro k
  induction k with
  | zero => intro j hj; rw [show j = 0 by omega]; exact Nat.le_refl _
  | succ k ih =>
    intro j hj
    rcases Nat.lt_or_ge j (k + 1) with h | h
    · exact Nat.le_trans (ih j (by omega)) (tC_le (tB n hx hy hz a F k) _ 0 (Nat.zero_le _))
    · rw [show j = k + 1 by omega]; exact Nat.le_refl _
theorem tA_le (F : FT) : ∀ k j, j ≤ k → (tA n hx hy hz F j).1 ≤ (tA n hx hy hz F k).1 := by
  intro k
  induction k with
  | zero => intro j hj; rw [show j = 0 by omega]; exact Nat.le_refl _
  | succ k ih =>
    intro j hj
    rcases Nat.lt_or_ge j (k + 1) with h | h
    · exact Nat.le_trans (ih j (by omega)) (tB_le (tA n hx hy hz F k) _ 0 (Nat.zero_le _))
    · rw [show j = k + 1 by omega]; exact Nat.le_refl _
theorem tAll_le (F : FT) (ha : a < n) (hb : a + 1 ≤ b) (hbn : b < n) (hc : b + 1 ≤ c) (hcn : c < n) : (tC n hx hy hz a b (tB n hx hy hz a (tA n hx hy hz F a) (b - (a + 1))) (c - (b + 1))).1 ≤ (tA n hx hy hz F n).1 := by
  have h1 := tC_le (n := n) (hx := hx) (hy := hy) (hz := hz) (a := a) (b := b) (tB n hx hy hz a (tA n hx hy hz F a) (b - (a + 1))) (n - (b + 1)) (c - (b + 1)) (by omega)
  have h2 : (tC n hx hy hz a b (tB n hx hy hz a (tA n hx hy hz F a) (b - (a + 1))) (n - (b + 1))) = tB n hx hy hz a (tA n hx hy hz F a) (b + 1 - (a + 1)) := (tB_s n hx hy hz a b _ hb).symm
  have h3 := tB_le (n := n) (hx := hx) (hy := hy) (hz := hz) (a := a) (tA n hx hy hz F a) (n - (a + 1)) (b + 1 - (a + 1)) (by omega)
  have h4 : tB n hx hy hz a (tA n hx hy hz F a) (n - (a + 1)) = tA n hx hy hz F (a + 1) := rfl
  have h5 := tA_le (n := n) (hx := hx) (hy := hy) (hz := hz) F n (a + 1) (by omega)
  rw [h2] at h1
  rw [h4] at h3
  omega
end M4a
