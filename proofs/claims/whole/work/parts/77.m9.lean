/-! ===== corners; the class's rings ===== -/
theorem cntB_zC {p : Nat → Bool} : ∀ n, cntB n p = zC n (fun k => p k = true) := by
  intro n
  induction n with
  | zero => rfl
  | succ n ih =>
    simp only [cntB]
    by_cases h : p n = true
    · rw [zC_t (P := fun k => p k = true) h, ih, if_pos h]
    · rw [zC_f (P := fun k => p k = true) h, ih, if_neg h]; rfl
theorem zC_ext {P : Nat → Prop} {n : Nat} (h : ∀ i, P i → i < n) : ∀ m, n ≤ m → zC m P = zC n P := by
  intro m
  induction m with
  | zero => intro hm; rw [show n = 0 by omega]
  | succ m ih =>
    intro hm
    by_cases e : n = m + 1
    · rw [e]
    · rw [zC_f (fun hp => by have := h m hp; omega)]
      exact ih (by omega)
section M9a
variable {X Y Z : Nat → Int} {n : Nat} {FA FB FC FD : Nat → Int} {nf : Nat} {A B C D : Int} {a b c d p q u v w f g k i j r : Nat}
/-- a plane that supports in two points: they share a facet -/
theorem zSupp (S : zS X Y Z n FA FB FC FD nf) (hD : zD X Y Z n) {P1 P2 P3 : Int} (hv : v < n) (hr : r < n) (hvr : v ≠ r) (hN : P1 ≠ 0 ∨ P2 ≠ 0 ∨ P3 ≠ 0) (hr0 : zH X Y Z P1 P2 P3 v r = 0) (hle : ∀ p, p < n → zH X Y Z P1 P2 P3 v p ≤ 0) (hx : ∃ p, p < n ∧ zH X Y Z P1 P2 P3 v p < 0) : ∃ g, g < nf ∧ zI X Y Z (FA g) (FB g) (FC g) (FD g) v ∧ zI X Y Z (FA g) (FB g) (FC g) (FD g) r := by
  have hdr := hD v r hv hr hvr
  have fin : ∀ c, c < n → zL X Y Z v r c → (∀ p, p < n → 0 ≤ zV X Y Z v r c p) → ∃ g, g < nf ∧ zI X Y Z (FA g) (FB g) (FC g) (FD g) v ∧ zI X Y Z (FA g) (FB g) (FC g) (FD g) r := by
    intro c hc hL hV
    obtain ⟨g, hg, j1, j2, j3⟩ := S.2.2 v r c hv hr hc hL hV
    exact ⟨g, hg, j1, j2⟩
  by_cases hA : ∃ c, c < n ∧ zH X Y Z P1 P2 P3 v c = 0 ∧ zO X Y Z P1 P2 P3 v r c ≠ 0
  · obtain ⟨c, hc, hc0, hO⟩ := hA
    have key : ∀ p, (P1 * P1 + P2 * P2 + P3 * P3) * zV X Y Z v r c p = zO X Y Z P1 P2 P3 v r c * zH X Y Z P1 P2 P3 v p := by
      intro p
      clear hle hx hO hN
      unfold zV zO zN1 zN2 zN3 zH at *
      generalize X r - X v = b1 at *; generalize Y r - Y v = b2 at *; generalize Z r - Z v = b3 at *
      generalize X c - X v = c1 at *; generalize Y c - Y v = c2 at *; generalize Z c - Z v = c3 at *
      generalize X p - X v = p1 at *; generalize Y p - Y v = p2 at *; generalize Z p - Z v = p3 at *
      clear fin hdr S hD
      grind
    have hs := sq_pos hN
    by_cases hO2 : zO X Y Z P1 P2 P3 v r c < 0
    · refine fin c hc (zL_of_O hO) (fun p hp => pm_nn (x := P1 * P1 + P2 * P2 + P3 * P3) ?_ hs)
      rw [key]
      have := Int.mul_nonneg (show 0 ≤ -zO X Y Z P1 P2 P3 v r c by omega) (show 0 ≤ -zH X Y Z P1 P2 P3 v p by have := hle p hp; omega)
      rw [Int.neg_mul_neg] at this
      exact this
    · have hsw : ∀ p, zV X Y Z v c r p = - zV X Y Z v r c p := by intro p; unfold zV zN1 zN2 zN3 zH; grind
      have hL' : zL X Y Z v c r := zL_of_O (A := P1) (B := P2) (C := P3) (by rw [zO_sw2]; omega)
      obtain ⟨g, hg, j1, j2, j3⟩ := S.2.2 v c r hv hc hr hL' (fun p hp => by
        rw [hsw]
        refine pm_nn (x := P1 * P1 + P2 * P2 + P3 * P3) ?_ hs
        rw [Int.mul_neg, key]
        have := Int.mul_nonneg (show 0 ≤ zO X Y Z P1 P2 P3 v r c by omega) (show 0 ≤ -zH X Y Z P1 P2 P3 v p by have := hle p hp; omega)
        rw [Int.mul_neg] at this
        exact this)
      exact ⟨g, hg, j1, j3⟩
  · obtain ⟨c, hc, _, hV, hL⟩ := zWrap (n := n) hN hdr hr0 hle (fun p hp h0 => by
      by_cases h : zO X Y Z P1 P2 P3 v r p = 0
      · omega
      · exact absurd ⟨p, hp, h0, h⟩ hA) hx
    exact fin c hc hL hV
/-- there is a facet at the highest point -/
theorem zSome (S : zS X Y Z n FA FB FC FD nf) (hM : zM X Y Z n) (hD : zD X Y Z n) (hn : 2 ≤ n) (hsol : ∀ A B C : Int, ∀ o, (A ≠ 0 ∨ B ≠ 0 ∨ C ≠ 0) → o < n → ∃ p, p < n ∧ zH X Y Z A B C o p ≠ 0) : ∃ t g, t < n ∧ g < nf ∧ zI X Y Z (FA g) (FB g) (FC g) (FD g) t ∧ ∀ p, p < n → zh X Y Z t p ≤ 0 := by
  obtain ⟨t, b, ht, hb, tb, htop, _⟩ := zTops hM hD hn
  have hneg : ∀ p, p < n → p ≠ t → zh X Y Z t p < 0 := by
    intro p hp hpt
    have := htop p hp
    have := zh_ne hM hD ht hp (fun e => hpt e.symm)
    omega
  obtain ⟨r, hr, hrt, hR⟩ := finMin (fun r => r < n ∧ r ≠ t) (fun i j => zH X Y Z 1 0 0 t j * (-zh X Y Z t i) ≤ zH X Y Z 1 0 0 t i * (-zh X Y Z t j)) (fun i j _ _ => Int.le_total _ _) (by
    rintro i j k ⟨hi, hi2⟩ ⟨hj, hj2⟩ ⟨hk, hk2⟩ h1 h2
    have li := hneg i hi hi2; have lj := hneg j hj hj2; have lk := hneg k hk hk2
    generalize zH X Y Z 1 0 0 t i = si at *; generalize zH X Y Z 1 0 0 t j = sj at *; generalize zH X Y Z 1 0 0 t k = sk at *
    generalize zh X Y Z t i = ti at *; generalize zh X Y Z t j = tj at *; generalize zh X Y Z t k = tk at *
    have m1 := Int.mul_le_mul_of_nonneg_right h1 (show 0 ≤ -tk by omega)
    have m2 := Int.mul_le_mul_of_nonneg_right h2 (show 0 ≤ -ti by omega)
    have e : (-tj) * (si * (-tk) - sk * (-ti)) = (si * -tj * -tk - sj * -ti * -tk) + (sj * -tk * -ti - sk * -tj * -ti) := by grind
    have : 0 ≤ (-tj) * (si * (-tk) - sk * (-ti)) := by rw [e]; omega
    have := pm_nn this (by omega)
    omega) n ⟨b, hb, hb, fun e => tb e.symm⟩
  have hrn := hneg r hr hrt.2
  obtain ⟨P1, P2, P3, hP, hPne⟩ : ∃ P1 P2 P3 : Int, (∀ p, zH X Y Z P1 P2 P3 t p = (-zh X Y Z t r) * zH X Y Z 1 0 0 t p + zH X Y Z 1 0 0 t r * zh X Y Z t p) ∧ (P1 ≠ 0 ∨ P2 ≠ 0 ∨ P3 ≠ 0) := by
    refine ⟨-zh X Y Z t r + zH X Y Z 1 0 0 t r * 4194304, zH X Y Z 1 0 0 t r * 2048, zH X Y Z 1 0 0 t r, ?_, ?_⟩
    · intro p
      generalize zh X Y Z t r = a1
      generalize zH X Y Z 1 0 0 t r = a2
      unfold zh zH
      grind
    · by_cases h0 : zH X Y Z 1 0 0 t r = 0
      · left; rw [h0]; omega
      · exact Or.inr (Or.inr h0)
  have hle : ∀ p, p < n → zH X Y Z P1 P2 P3 t p ≤ 0 := by
    intro p hp
    rw [hP]
    by_cases e : p = t
    · subst e
      have h1 : zH X Y Z 1 0 0 p p = 0 := by unfold zH; simp
      have h2 : zh X Y Z p p = 0 := zh_self
      rw [h1, h2, Int.mul_zero, Int.mul_zero]; omega
    · have := hR p hp ⟨hp, e⟩
      rw [Int.mul_neg, Int.mul_neg] at this
      rw [Int.neg_mul, Int.mul_comm (zh X Y Z t r)]
      omega
  have hr0 : zH X Y Z P1 P2 P3 t r = 0 := by
    rw [hP, Int.neg_mul, Int.mul_comm]; omega
  obtain ⟨p0, hp0, hne⟩ := hsol P1 P2 P3 t hPne ht
  obtain ⟨g, hg, i1, i2⟩ := zSupp S hD ht hr (fun e => hrt.2 e.symm) hPne hr0 hle ⟨p0, hp0, by have := hle p0 hp0; omega⟩
  exact ⟨t, g, ht, hg, i1, htop⟩
/-- who lies in three facets stands out of each -/
theorem zCor (S : zS X Y Z n FA FB FC FD nf) (hM : zM X Y Z n) (hD : zD X Y Z n) (hf : f < nf) (hp : p < n) (ip : zI X Y Z (FA f) (FB f) (FC f) (FD f) p) : 3 ≤ zC nf (fun g => zI X Y Z (FA g) (FB g) (FC g) (FD g) p) ↔ zX X Y Z n (FA f) (FB f) (FC f) (FD f) p := by
  constructor
  · intro h
    obtain ⟨a, b, c, ha, hb, hc, pa, pb, pc, ab, ac, bc⟩ := zC_get3 h
    by_cases e1 : f = a
    · subst e1; exact zCor2 S hD ha hb hc ab ac bc hp pa pb pc
    · by_cases e2 : f = b
      · subst e2; exact zCor2 S hD hb ha hc e1 bc ac hp pb pa pc
      · exact zCor2 S hD hf ha hb e1 e2 ab hp ip pa pb
  · intro h
    obtain ⟨g, k, hg, hk, fg, fk, gk, i1, i2⟩ := zCor1 S hM hD hf h
    exact zC_3 (P := fun g => zI X Y Z (FA g) (FB g) (FC g) (FD g) p) hf hg hk ip i1 i2 fg fk gk
/-- round a point that stands out, 'left of' passes on -/
theorem zTrans (hx : zX X Y Z n A B C D a) (hi : i < n) (hj : j < n) (hk : k < n) (ia : i ≠ a) (ja : j ≠ a) (ka : k ≠ a) (ii : zI X Y Z A B C D i) (ij : zI X Y Z A B C D j) (ik : zI X Y Z A B C D k) (h1 : 0 ≤ zO X Y Z A B C a i j) (h2 : 0 ≤ zO X Y Z A B C a j k) : 0 ≤ zO X Y Z A B C a i k := by
  obtain ⟨ha, i0, f1, f2, f3, hf⟩ := hx
  have ti := hf i hi ia ii
  have tj := hf j hj ja ij
  have tk := hf k hk ka ik
  have pl := zPl3 f1 f2 f3 (zH_0 i0 ii) (zH_0 i0 ij) (zH_0 i0 ik)
  generalize zO X Y Z A B C a i k = oik at *
  generalize zO X Y Z A B C a i j = oij at *
  generalize zO X Y Z A B C a j k = ojk at *
  generalize zH X Y Z f1 f2 f3 a i = si at *
  generalize zH X Y Z f1 f2 f3 a j = sj at *
  generalize zH X Y Z f1 f2 f3 a k = sk at *
  have pl2 : (-sj) * oik = (-si) * ojk + (-sk) * oij := by
    rw [Int.neg_mul, Int.neg_mul, Int.neg_mul]; omega
  have m1 : 0 ≤ (-si) * ojk := Int.mul_nonneg (by omega) h2
  have m2 : 0 ≤ (-sk) * oij := Int.mul_nonneg (by omega) h1
  exact pm_nn (x := -sj) (by omega) (by omega)
end M9a
section M9b
variable {xs ys zs : Nat → Int32} {n f a b c p q : Nat} {hx hy hz : Nat → Int64} {F : FT} {S : CT}
abbrev zSF (xs ys zs : Nat → Int32) (n : Nat) (F : FT) : Prop := zS (tI xs) (tI ys) (tI zs) n (fA F) (fB F) (fC F) (fD F) F.1
theorem cor_bt (hn : n ≤ 24) (J : SI xs ys zs n S F) (hq : q < 32) : bt (coI S n) q = true ↔ q < n ∧ 3 ≤ zC F.1 (fun f => InF xs ys zs F f q) := by
  rw [coI_bt n (by omega) q hq, Bool.and_eq_true, decide_eq_true_eq, decide_eq_true_eq, cntB_zC, J.1]
  constructor
  · rintro ⟨h1, h2⟩
    refine ⟨h1, ?_⟩
    rw [zC_congr (Q := fun f => hldB (cHd S (S.2.1 f)) q = true) (fun f hf => ?_)]
    · exact h2
    · rw [hldB_bt hq]
      constructor
      · intro h; exact (J.2.2 f hf q hq).mpr ⟨h1, h⟩
      · intro h; exact ((J.2.2 f hf q hq).mp h).2
  · rintro ⟨h1, h2⟩
    refine ⟨h1, ?_⟩
    rw [zC_congr (Q := fun f => InF xs ys zs F f q) (fun f hf => ?_)]
    · exact h2
    · rw [hldB_bt hq]
      constructor
      · intro h; exact ((J.2.2 f hf q hq).mp h).2
      · intro h; exact (J.2.2 f hf q hq).mpr ⟨h1, h⟩
/-- the corners in a face, as the class has them: the points that stand out -/
theorem own_bt (h : Bd n xs ys zs) (hD : zD (tI xs) (tI ys) (tI zs) n) (hn : n ≤ 24) (S0 : zSF xs ys zs n F) (J : SI xs ys zs n S F) (hf : f < F.1) (hq : q < 32) : bt (cHd S (S.2.1 f) &&& coI S n) q = true ↔ ExF xs ys zs n F f q := by
  rw [b_and, Bool.and_eq_true, J.2.2 f hf q hq, cor_bt hn J hq]
  constructor
  · rintro ⟨⟨h1, h2⟩, _, h3⟩
    exact (zCor S0 h hD hf h1 h2).mp h3
  · intro hx
    exact ⟨⟨hx.1, hx.2.1⟩, hx.1, (zCor S0 h hD hf hx.1 hx.2.1).mpr hx⟩
theorem own_v0 (h : Bd n xs ys zs) (hD : zD (tI xs) (tI ys) (tI zs) n) (hn : n ≤ 24) (hM : MI xs ys zs n F) (S0 : zSF xs ys zs n F) (J : SI xs ys zs n S F) (hf : f < F.1) : ntF (cHd S (S.2.1 f) &&& coI S n) = nI (v0F xs ys zs n F f) ∧ v0F xs ys zs n F f < 24 := by
  obtain ⟨h1, h2⟩ := v0F_X h hD hM hf
  have hv : v0F xs ys zs n F f < 24 := by have := h1.1; omega
  refine ⟨ntF_low hv ((own_bt h hD hn S0 J hf (by omega)).mpr h1) (fun i hi => ?_), hv⟩
  cases e : bt (cHd S (S.2.1 f) &&& coI S n) i with
  | false => rfl
  | true => exact absurd ((own_bt h hD hn S0 J hf (by omega)).mp e) (h2 i hi)
theorem own_ml (h : Bd n xs ys zs) (hD : zD (tI xs) (tI ys) (tI zs) n) (hn : n ≤ 24) (S0 : zSF xs ys zs n F) (J : SI xs ys zs n S F) (hf : f < F.1) : bcF (cHd S (S.2.1 f) &&& coI S n) = nI (mlF xs ys zs n F f) := by
  rw [bcF_cnt]
  · congr 1
    rw [cntB_zC, zC_congr (Q := fun q => ExF xs ys zs n F f q) (fun q hq => own_bt h hD hn S0 J hf (by omega))]
    exact zC_ext (fun i hi => hi.1) 24 hn
  · intro i h1 h2
    cases e : bt (cHd S (S.2.1 f) &&& coI S n) i with
    | false => rfl
    | true =>
      have := ((own_bt h hD hn S0 J hf h2).mp e).1
      omega
theorem rgt_iff (h : Bd n xs ys zs) (hM : MI xs ys zs n F) (J : SI xs ys zs n S F) (hf : f < F.1) (ha : a < n) (hb : b < n) (hc : c < n) : rgtB (cNx S (S.2.1 f)) (cNy S (S.2.1 f)) (cNz S (S.2.1 f)) xs ys zs a b c = true ↔ zO (tI xs) (tI ys) (tI zs) (fA F f) (fB F f) (fC F f) a b c < 0 := by
  obtain ⟨r1, r2, r3, r4⟩ := fR hM hf
  obtain ⟨e1, e2, e3, e4⟩ := J.2.1 f hf
  unfold rgtB
  rw [e1, e2, e3, decide_eq_true_eq]
  exact ((((r1.mul (ac1 h ha hb hc) (by decide)).add (r2.mul (ac2 h ha hb hc) (by decide)) (by decide)).add (r3.mul (ac3 h ha hb hc) (by decide)) (by decide))).lt0
/-- the class's search for the next corner -/
theorem nr_inv (h : Bd n xs ys zs) (hD : zD (tI xs) (tI ys) (tI zs) n) (hn : n ≤ 24) (hM : MI xs ys zs n F) (S0 : zSF xs ys zs n F) (J : SI xs ys zs n S F) (hf : f < F.1) (hx9 : ExF xs ys zs n F f a) (w : Int32) (hw : w = cHd S (S.2.1 f) &&& coI S n) (rt : Nat → Nat → Nat → Bool) (hrt : rt = rgtB (cNx S (S.2.1 f)) (cNy S (S.2.1 f)) (cNz S (S.2.1 f)) xs ys zs) : ∀ k, k ≤ n → (nrN rt w a k = a ∧ ∀ c, c < k → ExF xs ys zs n F f c → c = a) ∨ (nrN rt w a k ≠ a ∧ ExF xs ys zs n F f (nrN rt w a k) ∧ ∀ c, c < k → ExF xs ys zs n F f c → c ≠ a → 0 ≤ zO (tI xs) (tI ys) (tI zs) (fA F f) (fB F f) (fC F f) a (nrN rt w a k) c) := by
  intro k
  induction k with
  | zero => intro _; exact Or.inl ⟨rfl, fun c hc => by omega⟩
  | succ k ih =>
    intro hk
    have hkn : k < n := by omega
    have hb : hldB w k = true ↔ ExF xs ys zs n F f k := by rw [hldB_bt (by omega), hw]; exact own_bt h hD hn S0 J hf (by omega)
    simp only [nrN]
    rcases ih (by omega) with ⟨e1, e2⟩ | ⟨e1, e2, e3⟩
    · by_cases hc : k ≠ a ∧ hldB w k = true ∧ (nrN rt w a k = a ∨ rt a (nrN rt w a k) k = true)
      · rw [if_pos hc]
        right
        refine ⟨hc.1, hb.mp hc.2.1, fun c hcl hcx hca => ?_⟩
        by_cases ec : c = k
        · subst ec; rw [zO_r2]; exact Int.le_refl _
        · exact absurd (e2 c (by omega) hcx) hca
      · rw [if_neg hc]
        left
        refine ⟨e1, fun c hcl hcx => ?_⟩
        by_cases ec : c = k
        · subst ec
          apply Classical.byContradiction
          intro hca
          exact hc ⟨hca, hb.mpr hcx, Or.inl e1⟩
        · exact e2 c (by omega) hcx
    · have hr : rt a (nrN rt w a k) k = true ↔ zO (tI xs) (tI ys) (tI zs) (fA F f) (fB F f) (fC F f) a (nrN rt w a k) k < 0 := by
        rw [hrt] at *
        exact rgt_iff h hM J hf hx9.1 e2.1 hkn
      by_cases hc : k ≠ a ∧ hldB w k = true ∧ (nrN rt w a k = a ∨ rt a (nrN rt w a k) k = true)
      · rw [if_pos hc]
        right
        have hlt : zO (tI xs) (tI ys) (tI zs) (fA F f) (fB F f) (fC F f) a (nrN rt w a k) k < 0 := by
          rcases hc.2.2 with h9 | h9
          · exact absurd h9 e1
          · exact hr.mp h9
        have hkx := hb.mp hc.2.1
        refine ⟨hc.1, hkx, fun c hcl hcx hca => ?_⟩
        by_cases ec : c = k
        · subst ec; rw [zO_r2]; exact Int.le_refl _
        · have h1 := e3 c (by omega) hcx hca
          exact zTrans hx9 hkn e2.1 hcx.1 hc.1 e1 hca hkx.2.1 e2.2.1 hcx.2.1 (by rw [zO_sw2]; omega) h1
      · rw [if_neg hc]
        right
        refine ⟨e1, e2, fun c hcl hcx hca => ?_⟩
        by_cases ec : c = k
        · subst ec
          apply Classical.byContradiction
          intro h9
          exact hc ⟨hca, hb.mpr hcx, Or.inr (hr.mpr (by omega))⟩
        · exact e3 c (by omega) hcx hca
theorem nr_next (h : Bd n xs ys zs) (hD : zD (tI xs) (tI ys) (tI zs) n) (hn : n ≤ 24) (hM : MI xs ys zs n F) (S0 : zSF xs ys zs n F) (J : SI xs ys zs n S F) (hf : f < F.1) (hE : EdF xs ys zs n F f a b) : nrN (rgtB (cNx S (S.2.1 f)) (cNy S (S.2.1 f)) (cNz S (S.2.1 f)) xs ys zs) (cHd S (S.2.1 f) &&& coI S n) a n = b := by
  have hxa := zE_X1 h hD hE
  have hxb := zE_X2 h hD hE
  rcases nr_inv h hD hn hM S0 J hf hxa _ rfl _ rfl n (Nat.le_refl _) with ⟨_, e2⟩ | ⟨e1, e2, e3⟩
  · exact absurd (e2 b hE.2.1 hxb).symm hE.2.2.1
  · generalize nrN (rgtB (cNx S (S.2.1 f)) (cNy S (S.2.1 f)) (cNz S (S.2.1 f)) xs ys zs) (cHd S (S.2.1 f) &&& coI S n) a n = r at *
    apply Classical.byContradiction
    intro hne
    have k1 := e3 b hE.2.1 hxb (fun e => hE.2.2.1 e.symm)
    have k2 := hE.2.2.2.2.2 r e2.1 e1 hne e2.2.1
    have k3 := zO_sw2 (X := tI xs) (Y := tI ys) (Z := tI zs) (A := fA F f) (B := fB F f) (C := fC F f) (a := a) (b := b) (c := r)
    rcases k2 with k2 | ⟨k2, k4⟩
    · omega
    · exact zX_btw e2 hE.1 hE.2.1 (fun e => e1 e.symm) (fun e => hne e.symm) hE.2.2.2.1 hE.2.2.2.2.1 (zF_ne (hM.1 f hf).1) k2 k4
/-- the class's ring is the reference's -/
theorem hs_ring (h : Bd n xs ys zs) (hD : zD (tI xs) (tI ys) (tI zs) n) (hn : n ≤ 24) (hM : MI xs ys zs n F) (S0 : zSF xs ys zs n F) (J : SI xs ys zs n S F) (hf : f < F.1) (v0 : Nat → Nat) (hv : v0 f = v0F xs ys zs n F f) : ∀ k, hsS n xs ys zs S (coI S n) v0 f k = rgF xs ys zs n F f k := by
  have ok := (rgF_ok h hD hM hf).2.2.2.2.1
  intro k
  unfold hsS
  induction k with
  | zero => simp only [hsN]; rw [hv]; rfl
  | succ k ih =>
    simp only [hsN]
    rw [ih]
    exact nr_next h hD hn hM S0 J hf (ok k)
theorem wrp_ex (h : Bd n xs ys zs) (hD : zD (tI xs) (tI ys) (tI zs) n) (hn : n ≤ 24) (hM : MI xs ys zs n F) (S0 : zSF xs ys zs n F) (J : SI xs ys zs n S F) (h1 : 1 ≤ F.1) : wrpOK n S (v0F xs ys zs n F) (mlF xs ys zs n F) := by
  refine ⟨hn, by rw [J.1]; exact h1, fun f hf => ?_⟩
  rw [J.1] at hf
  obtain ⟨a1, a2⟩ := own_v0 h hD hn hM S0 J hf
  have a3 := own_ml h hD hn S0 J hf
  have := (rgF_ok h hD hM hf).2.1
  exact ⟨by omega, a2, a1, a3⟩
theorem wrp_u (h : Bd n xs ys zs) (hD : zD (tI xs) (tI ys) (tI zs) n) (hn : n ≤ 24) (hM : MI xs ys zs n F) (S0 : zSF xs ys zs n F) (J : SI xs ys zs n S F) {v0 ml : Nat → Nat} (W : wrpOK n S v0 ml) (hf : f < F.1) : v0 f = v0F xs ys zs n F f ∧ ml f = mlF xs ys zs n F f := by
  obtain ⟨b1, b2, b3, b4⟩ := W.2.2 f (by rw [J.1]; exact hf)
  obtain ⟨a1, a2⟩ := own_v0 h hD hn hM S0 J hf
  have a3 := own_ml h hD hn S0 J hf
  have := (rgF_ok h hD hM hf).2.1
  have e1 : nI (v0 f) = nI (v0F xs ys zs n F f) := b3.symm.trans a1
  have e2 : nI (ml f) = nI (mlF xs ys zs n F f) := b4.symm.trans a3
  exact ⟨(nI_eq (by omega) (by omega)).mp e1, (nI_eq (by omega) (by omega)).mp e2⟩
end M9b
