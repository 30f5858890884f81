/-! ===== the reference's faces are the facets ===== -/
theorem cntB_0 {n : Nat} {p : Nat → Bool} : cntB n p = 0 ↔ ∀ k, k < n → p k = false := by
  induction n with
  | zero => simp [cntB]
  | succ n ih =>
    simp only [cntB]
    constructor
    · intro h k hk
      have h1 : cntB n p = 0 := by omega
      rcases Nat.lt_or_ge k n with h2 | h2
      · exact ih.mp h1 k h2
      · have : k = n := by omega
        subst this
        cases e : p k with
        | false => rfl
        | true => rw [e] at h; simp at h
    · intro h
      rw [ih.mpr (fun k hk => h k (by omega)), h n (by omega)]
      rfl
def fA (F : FT) (k : Nat) : Int := (F.2.1 k).toInt
def fB (F : FT) (k : Nat) : Int := (F.2.2.1 k).toInt
def fC (F : FT) (k : Nat) : Int := (F.2.2.2.1 k).toInt
def fD (F : FT) (k : Nat) : Int := (F.2.2.2.2 k).toInt
section M3a
variable {xs ys zs : Nat → Int32} {n a b c : Nat} {hx hy hz : Nat → Int64}
theorem ovr_0 (h : Bd n xs ys zs) (e : Cpy n xs ys zs hx hy hz) (ha : a < n) (hb : b < n) (hc : c < n) : ovr n hx hy hz a b c = 0 ↔ ∀ p, p < n → zV (tI xs) (tI ys) (tI zs) a b c p ≤ 0 := by
  unfold ovr
  rw [cntB_0]
  constructor
  · intro h1 p hp
    have := h1 p hp
    simp only [decide_eq_false_iff_not] at this
    rw [(abv_R h e ha hb hc hp).gt0] at this
    omega
  · intro h1 p hp
    simp only [decide_eq_false_iff_not]
    rw [(abv_R h e ha hb hc hp).gt0]
    have := h1 p hp
    omega
theorem und_0 (h : Bd n xs ys zs) (e : Cpy n xs ys zs hx hy hz) (ha : a < n) (hb : b < n) (hc : c < n) : und n hx hy hz a b c = 0 ↔ ∀ p, p < n → 0 ≤ zV (tI xs) (tI ys) (tI zs) a b c p := by
  unfold und
  rw [cntB_0]
  constructor
  · intro h1 p hp
    have := h1 p hp
    simp only [decide_eq_false_iff_not] at this
    rw [(abv_R h e ha hb hc hp).lt0] at this
    omega
  · intro h1 p hp
    simp only [decide_eq_false_iff_not]
    rw [(abv_R h e ha hb hc hp).lt0]
    have := h1 p hp
    omega
theorem triNo_iff (h : Bd n xs ys zs) (e : Cpy n xs ys zs hx hy hz) (ha : a < n) (hb : b < n) (hc : c < n) : triNo n hx hy hz a b c = false ↔ Side n (tI xs) (tI ys) (tI zs) a b c (if ovr n hx hy hz a b c = 0 then 1 else -1) := by
  have o := ovr_0 h e ha hb hc
  have u := und_0 h e ha hb hc
  unfold triNo Side zL
  rw [cx1 h e ha hb hc, cx2 h e ha hb hc, cx3 h e ha hb hc]
  rw [Bool.or_eq_false_iff, Bool.or_eq_false_iff]
  have l : (acI ys zs a b c == 0 && acI zs xs a b c == 0 && acI xs ys a b c == 0) = false ↔ (zN1 (tI xs) (tI ys) (tI zs) a b c ≠ 0 ∨ zN2 (tI xs) (tI ys) (tI zs) a b c ≠ 0 ∨ zN3 (tI xs) (tI ys) (tI zs) a b c ≠ 0) := by
    rw [Bool.and_eq_false_iff, Bool.and_eq_false_iff, beq_eq_false_iff_ne, beq_eq_false_iff_ne, beq_eq_false_iff_ne]
    have k1 := (ac1 h ha hb hc).eq0; have k2 := (ac2 h ha hb hc).eq0; have k3 := (ac3 h ha hb hc).eq0
    rw [ne_eq, ne_eq, ne_eq, k1, k2, k3, or_assoc]
  rw [l]
  by_cases h1 : ovr n hx hy hz a b c = 0
  · rw [if_pos h1]
    have h1' := o.mp h1
    constructor
    · rintro ⟨⟨k1, k2⟩, k3⟩
      refine ⟨k1, Or.inl rfl, fun p hp => by have := h1' p hp; omega, ?_⟩
      apply Classical.byContradiction
      intro hno
      have : und n hx hy hz a b c = 0 := u.mpr (fun p hp => by
        apply Classical.byContradiction
        intro h9
        exact hno ⟨p, hp, by omega⟩)
      rw [h1, this] at k2
      simp at k2
    · rintro ⟨k1, -, k2, p, hp, k3⟩
      refine ⟨⟨k1, ?_⟩, by rw [h1]; rfl⟩
      have : und n hx hy hz a b c ≠ 0 := fun e => by have := u.mp e p hp; omega
      simp [h1, this]
  · rw [if_neg h1]
    constructor
    · rintro ⟨⟨k1, k2⟩, k3⟩
      have hu : und n hx hy hz a b c = 0 := by
        apply Classical.byContradiction
        intro h9
        simp [h1, h9] at k3
      have hu' := u.mp hu
      refine ⟨k1, Or.inr rfl, fun p hp => by have := hu' p hp; omega, ?_⟩
      apply Classical.byContradiction
      intro hno
      exact h1 (o.mpr (fun p hp => by
        apply Classical.byContradiction
        intro h9
        exact hno ⟨p, hp, by omega⟩))
    · rintro ⟨k1, -, k2, p, hp, k3⟩
      have hu : und n hx hy hz a b c = 0 := u.mpr (fun p hp => by have := k2 p hp; omega)
      exact ⟨⟨k1, by simp [h1, hu]⟩, by simp [h1, hu]⟩
theorem Side_u {X Y Z : Nat → Int} {s s' : Int} (h : Side n X Y Z a b c s) (h' : Side n X Y Z a b c s') : s = s' := by
  obtain ⟨-, hs, h1, p, hp, h2⟩ := h
  obtain ⟨-, hs', h1', p', hp', h2'⟩ := h'
  have k1 := h1 p' hp'
  have k2 := h1' p hp
  rcases hs with rfl | rfl <;> rcases hs' with rfl | rfl <;> omega
theorem triNo_of (h : Bd n xs ys zs) (e : Cpy n xs ys zs hx hy hz) (ha : a < n) (hb : b < n) (hc : c < n) {s : Int} (hS : Side n (tI xs) (tI ys) (tI zs) a b c s) : triNo n hx hy hz a b c = false ∧ s = if ovr n hx hy hz a b c = 0 then 1 else -1 := by
  have o := ovr_0 h e ha hb hc
  have e2 : s = if ovr n hx hy hz a b c = 0 then 1 else -1 := by
    obtain ⟨-, hs, h1, p, hp, h2⟩ := hS
    by_cases h0 : ovr n hx hy hz a b c = 0
    · rw [if_pos h0]
      have := o.mp h0 p hp
      rcases hs with rfl | rfl
      · rfl
      · omega
    · rw [if_neg h0]
      rcases hs with rfl | rfl
      · exact absurd (o.mpr (fun p hp => by have := h1 p hp; omega)) h0
      · rfl
  exact ⟨(triNo_iff h e ha hb hc).mpr (e2 ▸ hS), e2⟩
/-- the plane that the reference makes of a triple -/
theorem pl_model (h : Bd n xs ys zs) (e : Cpy n xs ys zs hx hy hz) (ha : a < n) (hb : b < n) (hc : c < n) {s q1 q2 q3 : Int} (hs : s = if ovr n hx hy hz a b c = 0 then 1 else -1) (hP : PlR (zN1 (tI xs) (tI ys) (tI zs) a b c) (zN2 (tI xs) (tI ys) (tI zs) a b c) (zN3 (tI xs) (tI ys) (tI zs) a b c) s ((Nat.gcd (Nat.gcd (zN1 (tI xs) (tI ys) (tI zs) a b c).natAbs (zN2 (tI xs) (tI ys) (tI zs) a b c).natAbs) (zN3 (tI xs) (tI ys) (tI zs) a b c).natAbs : Nat) : Int) q1 q2 q3) : R64 (acx hy hz a b c / triBy n hx hy hz a b c) (s * q1) 2097152 ∧ R64 (acx hz hx a b c / triBy n hx hy hz a b c) (s * q2) 2097152 ∧ R64 (acx hx hy a b c / triBy n hx hy hz a b c) (s * q3) 2097152 ∧ R64 (acx hy hz a b c / triBy n hx hy hz a b c * hx a + acx hz hx a b c / triBy n hx hy hz a b c * hy a + acx hx hy a b c / triBy n hx hy hz a b c * hz a) (s * q1 * tI xs a + s * q2 * tI ys a + s * q3 * tI zs a) 3221225472 := by
  have r1 := ac1 h ha hb hc; have r2 := ac2 h ha hb hc; have r3 := ac3 h ha hb hc
  obtain ⟨hs1, hg, e1, e2, e3, -⟩ := hP
  have hby : R64 (triBy n hx hy hz a b c) (s * ((Nat.gcd (Nat.gcd (zN1 (tI xs) (tI ys) (tI zs) a b c).natAbs (zN2 (tI xs) (tI ys) (tI zs) a b c).natAbs) (zN3 (tI xs) (tI ys) (tI zs) a b c).natAbs : Nat) : Int)) 2097152 := by
    unfold triBy
    rw [cx1 h e ha hb hc, cx2 h e ha hb hc, cx3 h e ha hb hc]
    have g := gcd3_R r1 r2 r3
    have rs : R64 (if ovr n hx hy hz a b c = 0 then 1 else -1 : Int64) s 1 := by
      rw [hs]
      split
      · exact ⟨rfl, by omega, by omega⟩
      · exact ⟨rfl, by omega, by omega⟩
    exact (rs.mul g (by decide)).mono (by omega)
  rw [cx1 h e ha hb hc, cx2 h e ha hb hc, cx3 h e ha hb hc]
  generalize ((Nat.gcd (Nat.gcd (zN1 (tI xs) (tI ys) (tI zs) a b c).natAbs (zN2 (tI xs) (tI ys) (tI zs) a b c).natAbs) (zN3 (tI xs) (tI ys) (tI zs) a b c).natAbs : Nat) : Int) = g at *
  have hne : s * g ≠ 0 := by rcases hs1 with h | h <;> rw [h] <;> omega
  have ss : s * s = 1 := by rcases hs1 with h | h <;> rw [h] <;> rfl
  have d1 := div_R r1 hby hne (by decide) (q := s * q1) (by rw [e1]; grind)
  have d2 := div_R r2 hby hne (by decide) (q := s * q2) (by rw [e2]; grind)
  have d3 := div_R r3 hby hne (by decide) (q := s * q3) (by rw [e3]; grind)
  refine ⟨d1, d2, d3, ?_⟩
  rw [(e a ha).1, (e a ha).2.1, (e a ha).2.2]
  exact (((d1.mul (R64.i32 (h.x ha)) (by decide)).add (d2.mul (R64.i32 (h.y ha)) (by decide)) (by decide)).add (d3.mul (R64.i32 (h.z ha)) (by decide)) (by decide))
/-- .. and the class -/
theorem pl_class (h : Bd n xs ys zs) (ha : a < n) (hb : b < n) (hc : c < n) {s q1 q2 q3 : Int} (u : Bool) (hs : s = if u = true then -1 else 1) (hP : PlR (zN1 (tI xs) (tI ys) (tI zs) a b c) (zN2 (tI xs) (tI ys) (tI zs) a b c) (zN3 (tI xs) (tI ys) (tI zs) a b c) s ((Nat.gcd (Nat.gcd (zN1 (tI xs) (tI ys) (tI zs) a b c).natAbs (zN2 (tI xs) (tI ys) (tI zs) a b c).natAbs) (zN3 (tI xs) (tI ys) (tI zs) a b c).natAbs : Nat) : Int) q1 q2 q3) : R64 (plV u (plG u (acI ys zs a b c) (acI zs xs a b c) (acI xs ys a b c)) (acI ys zs a b c)) (s * q1) 2097152 ∧ R64 (plV u (plG u (acI ys zs a b c) (acI zs xs a b c) (acI xs ys a b c)) (acI zs xs a b c)) (s * q2) 2097152 ∧ R64 (plV u (plG u (acI ys zs a b c) (acI zs xs a b c) (acI xs ys a b c)) (acI xs ys a b c)) (s * q3) 2097152 ∧ R64 (plV u (plG u (acI ys zs a b c) (acI zs xs a b c) (acI xs ys a b c)) (lyD xs ys zs a b c)) (s * q1 * tI xs a + s * q2 * tI ys a + s * q3 * tI zs a) 3221225472 := by
  have r1 := ac1 h ha hb hc; have r2 := ac2 h ha hb hc; have r3 := ac3 h ha hb hc
  have r4 := lyD_R h ha hb hc
  have g := plG_R u r1 r2 r3
  obtain ⟨hs1, hg, e1, e2, e3, -⟩ := hP
  generalize plG u (acI ys zs a b c) (acI zs xs a b c) (acI xs ys a b c) = G at *
  generalize ((Nat.gcd (Nat.gcd (zN1 (tI xs) (tI ys) (tI zs) a b c).natAbs (zN2 (tI xs) (tI ys) (tI zs) a b c).natAbs) (zN3 (tI xs) (tI ys) (tI zs) a b c).natAbs : Nat) : Int) = g9 at *
  have sgs : ∀ x : Int, (if u = true then -x else x) = s * x := by
    intro x; rw [hs]; split <;> omega
  have one : ∀ {v : Int64} {N q B : Int}, 2097152 ≤ B → B < 4611686018427387904 → R64 v N B → N = g9 * q → R64 (plV u G v) (s * q) B := by
    intro v N q B hB1 hB hv hN
    unfold plV
    have w := sg_R u hB hv
    rw [sgs] at w
    have g1 : (1 < G) ↔ 1 < g9 := by rw [Int64.lt_iff_toInt_lt, g.1]; rfl
    by_cases h1 : 1 < g9
    · rw [if_pos (g1.mpr h1)]
      exact div_R w (g.mono hB1) (by omega) hB (by rw [hN]; grind)
    · rw [if_neg (fun q => h1 (g1.mp q))]
      have : g9 = 1 := by omega
      subst this
      exact w.to (by rw [hN, Int.one_mul])
  exact ⟨one (by decide) (by decide) r1 e1, one (by decide) (by decide) r2 e2, one (by decide) (by decide) r3 e3, (one (q := q1 * tI xs a + q2 * tI ys a + q3 * tI zs a) (by decide) (by decide) r4 (by rw [e1, e2, e3]; grind)).to (by grind)⟩
end M3a
section M3b
variable {xs ys zs : Nat → Int32} {n a b c : Nat} {hx hy hz : Nat → Int64}
def InF (xs ys zs : Nat → Int32) (F : FT) (k p : Nat) : Prop := zI (tI xs) (tI ys) (tI zs) (fA F k) (fB F k) (fC F k) (fD F k) p
/-- the faces found so far -/
def MI (xs ys zs : Nat → Int32) (n : Nat) (F : FT) : Prop := (∀ k, k < F.1 → zF (tI xs) (tI ys) (tI zs) n (fA F k) (fB F k) (fC F k) (fD F k) ∧ zP (fA F k) (fB F k) (fC F k) ∧ (-2097152 ≤ fA F k ∧ fA F k ≤ 2097152) ∧ (-2097152 ≤ fB F k ∧ fB F k ≤ 2097152) ∧ (-2097152 ≤ fC F k ∧ fC F k ≤ 2097152) ∧ (-3221225472 ≤ fD F k ∧ fD F k ≤ 3221225472)) ∧ ∀ j k, j < F.1 → k < F.1 → fA F j = fA F k → fB F j = fB F k → fC F j = fC F k → fD F j = fD F k → j = k
def FX (F F' : FT) : Prop := F.1 ≤ F'.1 ∧ ∀ k, k < F.1 → F'.2.1 k = F.2.1 k ∧ F'.2.2.1 k = F.2.2.1 k ∧ F'.2.2.2.1 k = F.2.2.2.1 k ∧ F'.2.2.2.2 k = F.2.2.2.2 k
theorem FX.rf (F : FT) : FX F F := ⟨Nat.le_refl _, fun _ _ => ⟨rfl, rfl, rfl, rfl⟩⟩
theorem FX.tr {F G H : FT} (h1 : FX F G) (h2 : FX G H) : FX F H := ⟨Nat.le_trans h1.1 h2.1, fun k hk => by
  obtain ⟨a1, a2, a3, a4⟩ := h1.2 k hk
  obtain ⟨b1, b2, b3, b4⟩ := h2.2 k (Nat.lt_of_lt_of_le hk h1.1)
  exact ⟨b1.trans a1, b2.trans a2, b3.trans a3, b4.trans a4⟩⟩
theorem FX.inF {F G : FT} (h : FX F G) {k p : Nat} (hk : k < F.1) : InF xs ys zs G k p ↔ InF xs ys zs F k p := by
  obtain ⟨a1, a2, a3, a4⟩ := h.2 k hk
  unfold InF fA fB fC fD
  rw [a1, a2, a3, a4]
def Fnd (xs ys zs : Nat → Int32) (F : FT) (a b c : Nat) : Prop := ∃ k, k < F.1 ∧ InF xs ys zs F k a ∧ InF xs ys zs F k b ∧ InF xs ys zs F k c
theorem Fnd.up {F G : FT} (h : FX F G) (f : Fnd xs ys zs F a b c) : Fnd xs ys zs G a b c := by
  obtain ⟨k, hk, h1, h2, h3⟩ := f
  exact ⟨k, Nat.lt_of_lt_of_le hk h.1, (h.inF hk).mpr h1, (h.inF hk).mpr h2, (h.inF hk).mpr h3⟩
theorem knB_iff (F : FT) (tx ty tz o : Int64) : knB F tx ty tz o = true ↔ ∃ k, k < F.1 ∧ F.2.1 k = tx ∧ F.2.2.1 k = ty ∧ F.2.2.2.1 k = tz ∧ F.2.2.2.2 k = o := by
  unfold knB
  rw [anyB_iff]
  constructor
  · rintro ⟨k, hk, h⟩
    simp only [Bool.and_eq_true, beq_iff_eq] at h
    exact ⟨k, hk, h.1.1.1, h.1.1.2, h.1.2, h.2⟩
  · rintro ⟨k, hk, h1, h2, h3, h4⟩
    exact ⟨k, hk, by simp [h1, h2, h3, h4]⟩
theorem addF_FX (F : FT) (tx ty tz o : Int64) : FX F (addF F tx ty tz o) := by
  unfold addF
  split
  · exact FX.rf F
  · refine ⟨by simp, fun k hk => ?_⟩
    have : k ≠ F.1 := by omega
    simp [vp_updL, this]
theorem tri_step (h : Bd n xs ys zs) (e : Cpy n xs ys zs hx hy hz) {F : FT} (hM : MI xs ys zs n F) (ha : a < n) (hb : b < n) (hc : c < n) : MI xs ys zs n (triF F n hx hy hz a b c) ∧ FX F (triF F n hx hy hz a b c) ∧ ∀ s, Side n (tI xs) (tI ys) (tI zs) a b c s → Fnd xs ys zs (triF F n hx hy hz a b c) a b c := by
  unfold triF
  by_cases hno : triNo n hx hy hz a b c = true
  · rw [if_pos hno]
    refine ⟨hM, FX.rf F, fun s hS => ?_⟩
    rw [(triNo_of h e ha hb hc hS).1] at hno
    cases hno
  · rw [if_neg hno]
    have hS := (triNo_iff h e ha hb hc).mp (by simpa using hno)
    obtain ⟨s, hs⟩ : ∃ s : Int, s = if ovr n hx hy hz a b c = 0 then 1 else -1 := ⟨_, rfl⟩
    rw [← hs] at hS
    obtain ⟨q1, q2, q3, hP⟩ := PlR_ex s hS.2.1 hS.1
    obtain ⟨d1, d2, d3, d4⟩ := pl_model h e ha hb hc hs hP
    obtain ⟨f1, f2, ia, ib, ic⟩ := Side_F ha hb hc hS hP
    unfold triA
    generalize acx hy hz a b c / triBy n hx hy hz a b c = A at *
    generalize acx hz hx a b c / triBy n hx hy hz a b c = B at *
    generalize acx hx hy a b c / triBy n hx hy hz a b c = C at *
    generalize A * hx a + B * hy a + C * hz a = D at *
    refine ⟨?_, addF_FX F A B C D, ?_⟩
    · unfold addF
      split
      · exact hM
      · rename_i hkn
        have atn : ∀ k, k < F.1 → fA (F.1 + 1, vp_updL F.2.1 F.1 A, vp_updL F.2.2.1 F.1 B, vp_updL F.2.2.2.1 F.1 C, vp_updL F.2.2.2.2 F.1 D) k = fA F k ∧ fB (F.1 + 1, vp_updL F.2.1 F.1 A, vp_updL F.2.2.1 F.1 B, vp_updL F.2.2.2.1 F.1 C, vp_updL F.2.2.2.2 F.1 D) k = fB F k ∧ fC (F.1 + 1, vp_updL F.2.1 F.1 A, vp_updL F.2.2.1 F.1 B, vp_updL F.2.2.2.1 F.1 C, vp_updL F.2.2.2.2 F.1 D) k = fC F k ∧ fD (F.1 + 1, vp_updL F.2.1 F.1 A, vp_updL F.2.2.1 F.1 B, vp_updL F.2.2.2.1 F.1 C, vp_updL F.2.2.2.2 F.1 D) k = fD F k := by
          intro k hk
          have : k ≠ F.1 := by omega
          simp [fA, fB, fC, fD, vp_updL, this]
        have atl : fA (F.1 + 1, vp_updL F.2.1 F.1 A, vp_updL F.2.2.1 F.1 B, vp_updL F.2.2.2.1 F.1 C, vp_updL F.2.2.2.2 F.1 D) F.1 = s * q1 ∧ fB (F.1 + 1, vp_updL F.2.1 F.1 A, vp_updL F.2.2.1 F.1 B, vp_updL F.2.2.2.1 F.1 C, vp_updL F.2.2.2.2 F.1 D) F.1 = s * q2 ∧ fC (F.1 + 1, vp_updL F.2.1 F.1 A, vp_updL F.2.2.1 F.1 B, vp_updL F.2.2.2.1 F.1 C, vp_updL F.2.2.2.2 F.1 D) F.1 = s * q3 ∧ fD (F.1 + 1, vp_updL F.2.1 F.1 A, vp_updL F.2.2.1 F.1 B, vp_updL F.2.2.2.1 F.1 C, vp_updL F.2.2.2.2 F.1 D) F.1 = s * q1 * tI xs a + s * q2 * tI ys a + s * q3 * tI zs a := by
          simp only [fA, fB, fC, fD, vp_updL, if_true]
          exact ⟨d1.1, d2.1, d3.1, d4.1⟩
        have hnew : ∀ k, k < F.1 → ¬ (fA F k = s * q1 ∧ fB F k = s * q2 ∧ fC F k = s * q3 ∧ fD F k = s * q1 * tI xs a + s * q2 * tI ys a + s * q3 * tI zs a) := by
          rintro k hk ⟨k1, k2, k3, k4⟩
          apply hkn
          rw [knB_iff]
          refine ⟨k, hk, ?_, ?_, ?_, ?_⟩
          · exact Int64.toInt_inj.mp (k1.trans d1.1.symm)
          · exact Int64.toInt_inj.mp (k2.trans d2.1.symm)
          · exact Int64.toInt_inj.mp (k3.trans d3.1.symm)
          · exact Int64.toInt_inj.mp (k4.trans d4.1.symm)
        constructor
        · intro k hk
          rcases Nat.lt_or_ge k F.1 with hk2 | hk2
          · obtain ⟨e1, e2, e3, e4⟩ := atn k hk2
            rw [e1, e2, e3, e4]
            exact hM.1 k hk2
          · have : k = F.1 := by simp only at hk; omega
            subst this
            obtain ⟨e1, e2, e3, e4⟩ := atl
            rw [e1, e2, e3, e4]
            exact ⟨f1, f2, d1.2, d2.2, d3.2, d4.2⟩
        · intro j k hj hk h1 h2 h3 h4
          simp only at hj hk
          rcases Nat.lt_or_ge j F.1 with hj2 | hj2
          · rcases Nat.lt_or_ge k F.1 with hk2 | hk2
            · obtain ⟨e1, e2, e3, e4⟩ := atn j hj2
              obtain ⟨g1, g2, g3, g4⟩ := atn k hk2
              rw [e1, g1] at h1; rw [e2, g2] at h2; rw [e3, g3] at h3; rw [e4, g4] at h4
              exact hM.2 j k hj2 hk2 h1 h2 h3 h4
            · have : k = F.1 := by omega
              subst this
              obtain ⟨e1, e2, e3, e4⟩ := atn j hj2
              obtain ⟨g1, g2, g3, g4⟩ := atl
              rw [e1, g1] at h1; rw [e2, g2] at h2; rw [e3, g3] at h3; rw [e4, g4] at h4
              exact absurd ⟨h1, h2, h3, h4⟩ (hnew j hj2)
          · have : j = F.1 := by omega
            subst this
            rcases Nat.lt_or_ge k F.1 with hk2 | hk2
            · obtain ⟨e1, e2, e3, e4⟩ := atn k hk2
              obtain ⟨g1, g2, g3, g4⟩ := atl
              rw [e1, g1] at h1; rw [e2, g2] at h2; rw [e3, g3] at h3; rw [e4, g4] at h4
              exact absurd ⟨h1.symm, h2.symm, h3.symm, h4.symm⟩ (hnew k hk2)
            · omega
    · intro s' _
      unfold addF
      by_cases hkn : knB F A B C D = true
      · rw [if_pos hkn]
        obtain ⟨k, hk, k1, k2, k3, k4⟩ := (knB_iff F A B C D).mp hkn
        have e1 : fA F k = s * q1 := by unfold fA; rw [k1]; exact d1.1
        have e2 : fB F k = s * q2 := by unfold fB; rw [k2]; exact d2.1
        have e3 : fC F k = s * q3 := by unfold fC; rw [k3]; exact d3.1
        have e4 : fD F k = s * q1 * tI xs a + s * q2 * tI ys a + s * q3 * tI zs a := by unfold fD; rw [k4]; exact d4.1
        unfold Fnd InF
        exact ⟨k, hk, by rw [e1, e2, e3, e4]; exact ia, by rw [e1, e2, e3, e4]; exact ib, by rw [e1, e2, e3, e4]; exact ic⟩
      · rw [if_neg hkn]
        unfold Fnd InF
        refine ⟨F.1, by simp, ?_, ?_, ?_⟩ <;> simp only [fA, fB, fC, fD, vp_updL, if_true] <;> rw [d1.1, d2.1, d3.1, d4.1]
        · exact ia
        · exact ib
        · exact ic
end M3b
