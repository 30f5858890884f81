/-- how much higher q is than p, in a direction in which no two points are level -/
def zh (X Y Z : Nat → Int) (p q : Nat) : Int := zH X Y Z 4194304 2048 1 p q
section ZU2
variable {X Y Z : Nat → Int} {n : Nat} {FA FB FC FD : Nat → Int} {nf : Nat} {A B C D A' B' C' D' : Int} {a b c d p q u v w f g k : Nat}
theorem zh_ne (hM : zM X Y Z n) (hD : zD X Y Z n) (hp : p < n) (hq : q < n) (h : p ≠ q) : zh X Y Z p q ≠ 0 := by
  have m1 := hM p hp; have m2 := hM q hq; have d := hD p q hp hq h
  unfold zh zH
  intro e
  omega
theorem zh_neg : zh X Y Z p q = - zh X Y Z q p := by unfold zh zH; grind
theorem zh_tr : zh X Y Z p q + zh X Y Z q v = zh X Y Z p v := by unfold zh zH; grind
theorem zh_self : zh X Y Z p p = 0 := by unfold zh zH; grind
/-- who isn't the highest has a facet in which he isn't the highest -/
theorem zUp (S : zS X Y Z n FA FB FC FD nf) (hM : zM X Y Z n) (hD : zD X Y Z n) (hf : f < nf) (hv : v < n) (iv : zI X Y Z (FA f) (FB f) (FC f) (FD f) v) (hq : ∃ q, q < n ∧ 0 < zh X Y Z v q) : ∃ g r, g < nf ∧ r < n ∧ zI X Y Z (FA g) (FB g) (FC g) (FD g) v ∧ zI X Y Z (FA g) (FB g) (FC g) (FD g) r ∧ 0 < zh X Y Z v r := by
  have hF := (S.1 f hf).1
  by_cases hex : ∃ r, r < n ∧ zI X Y Z (FA f) (FB f) (FC f) (FD f) r ∧ 0 < zh X Y Z v r
  · obtain ⟨r, h1, h2, h3⟩ := hex
    exact ⟨f, r, hf, h1, iv, h2, h3⟩
  have hlow : ∀ r, r < n → 0 < zh X Y Z v r → zH X Y Z (FA f) (FB f) (FC f) v r < 0 := by
    intro r hr h
    exact zF_lt hF iv hr (fun i => hex ⟨r, hr, i, h⟩)
  obtain ⟨r, hr, hrp, hR⟩ := finMin (fun r => r < n ∧ 0 < zh X Y Z v r) (fun i j => (-zH X Y Z (FA f) (FB f) (FC f) v i) * zh X Y Z v j ≤ (-zH X Y Z (FA f) (FB f) (FC f) v j) * zh X Y Z v i) (fun i j _ _ => Int.le_total _ _) (by
    rintro i j k ⟨hi, hi2⟩ ⟨hj, hj2⟩ ⟨hk, hk2⟩ h1 h2
    have li := hlow i hi hi2; have lj := hlow j hj hj2; have lk := hlow k hk hk2
    generalize zH X Y Z (FA f) (FB f) (FC f) v i = si at *; generalize zH X Y Z (FA f) (FB f) (FC f) v j = sj at *; generalize zH X Y Z (FA f) (FB f) (FC f) v k = sk at *
    generalize zh X Y Z v i = ti at *; generalize zh X Y Z v j = tj at *; generalize zh X Y Z v k = tk at *
    have m1 := Int.mul_le_mul_of_nonneg_right h1 (show 0 ≤ tk by omega)
    have m2 := Int.mul_le_mul_of_nonneg_right h2 (show 0 ≤ ti by omega)
    have e : tj * ((-sk) * ti - (-si) * tk) = ((-sk) * tj * ti - (-sj) * tk * ti) + ((-sj) * ti * tk - (-si) * tj * tk) := by grind
    have : 0 ≤ tj * ((-sk) * ti - (-si) * tk) := by rw [e]; omega
    have := pm_nn this hj2
    omega) n (by obtain ⟨q, h1, h2⟩ := hq; exact ⟨q, h1, h1, h2⟩)
  have hr2 := hrp.2
  have hrN := hlow r hr hr2
  -- the supporting plane
  obtain ⟨P1, P2, P3, hP⟩ : ∃ P1 P2 P3 : Int, ∀ p, zH X Y Z P1 P2 P3 v p = zh X Y Z v r * zH X Y Z (FA f) (FB f) (FC f) v p + (-zH X Y Z (FA f) (FB f) (FC f) v r) * zh X Y Z v p := by
    refine ⟨zh X Y Z v r * FA f + (-zH X Y Z (FA f) (FB f) (FC f) v r) * 4194304, zh X Y Z v r * FB f + (-zH X Y Z (FA f) (FB f) (FC f) v r) * 2048, zh X Y Z v r * FC f + (-zH X Y Z (FA f) (FB f) (FC f) v r) * 1, ?_⟩
    intro p
    generalize zh X Y Z v r = t
    generalize zH X Y Z (FA f) (FB f) (FC f) v r = s
    unfold zh zH
    grind
  have hle : ∀ p, p < n → zH X Y Z P1 P2 P3 v p ≤ 0 := by
    intro p hp
    rw [hP]
    by_cases h : 0 < zh X Y Z v p
    · have := hR p hp ⟨hp, h⟩
      have e := Int.mul_comm (-zH X Y Z (FA f) (FB f) (FC f) v p) (zh X Y Z v r)
      rw [Int.mul_neg] at e
      omega
    · have m1 := Int.mul_nonneg (show 0 ≤ zh X Y Z v r by omega) (show 0 ≤ -zH X Y Z (FA f) (FB f) (FC f) v p by have := zF_le hF iv hp; omega)
      have m2 := Int.mul_nonneg (show 0 ≤ -zH X Y Z (FA f) (FB f) (FC f) v r by omega) (show 0 ≤ -zh X Y Z v p by omega)
      rw [Int.mul_neg] at m1 m2
      omega
  have hr0 : zH X Y Z P1 P2 P3 v r = 0 := by rw [hP]; grind
  have hx : ∃ p, p < n ∧ zH X Y Z P1 P2 P3 v p < 0 := by
    obtain ⟨c, hc, hcv, ic⟩ := zOther hF v
    refine ⟨c, hc, ?_⟩
    rw [hP, zH_0 iv ic, Int.mul_zero, Int.zero_add]
    have h1 : ¬ 0 < zh X Y Z v c := fun h => hex ⟨c, hc, ic, h⟩
    have h2 := zh_ne hM hD hv hc (fun e => hcv e.symm)
    exact Int.mul_neg_of_pos_of_neg (by omega) (by omega)
  have hN : P1 ≠ 0 ∨ P2 ≠ 0 ∨ P3 ≠ 0 := by
    by_cases h1 : P1 = 0
    · by_cases h2 : P2 = 0
      · by_cases h3 : P3 = 0
        · exfalso
          obtain ⟨p, _, h⟩ := hx
          subst h1 h2 h3
          unfold zH at h
          simp at h
        · exact Or.inr (Or.inr h3)
      · exact Or.inr (Or.inl h2)
    · exact Or.inl h1
  have hvr : v ≠ r := by intro e; subst e; rw [zh_self] at hr2; omega
  have hdr := hD v r hv hr hvr
  have fin : ∀ c, c < n → zL X Y Z v r c → (∀ p, p < n → 0 ≤ zV X Y Z v r c p) → ∃ g r, g < nf ∧ r < n ∧ zI X Y Z (FA g) (FB g) (FC g) (FD g) v ∧ zI X Y Z (FA g) (FB g) (FC g) (FD g) r ∧ 0 < zh X Y Z v r := by
    intro c hc hL hV
    obtain ⟨g, hg, j1, j2, j3⟩ := S.2.2 v r c hv hr hc hL hV
    exact ⟨g, r, hg, hr, j1, j2, hr2⟩
  by_cases hA : ∃ c, c < n ∧ zH X Y Z P1 P2 P3 v c = 0 ∧ zO X Y Z P1 P2 P3 v r c ≠ 0
  · obtain ⟨c, hc, hc0, hO⟩ := hA
    have key : ∀ p, (P1 * P1 + P2 * P2 + P3 * P3) * zV X Y Z v r c p = zO X Y Z P1 P2 P3 v r c * zH X Y Z P1 P2 P3 v p := by
      intro p
      clear hP hle hx hR hrN hr2 hrp hlow hO hN
      unfold zV zO zN1 zN2 zN3 zH at *
      generalize X r - X v = b1 at *; generalize Y r - Y v = b2 at *; generalize Z r - Z v = b3 at *
      generalize X c - X v = c1 at *; generalize Y c - Y v = c2 at *; generalize Z c - Z v = c3 at *
      generalize X p - X v = p1 at *; generalize Y p - Y v = p2 at *; generalize Z p - Z v = p3 at *
      clear hex hq fin hdr S hM hD hF iv
      grind
    have hs := sq_pos hN
    by_cases hO2 : zO X Y Z P1 P2 P3 v r c < 0
    · refine fin c hc (zL_of_O hO) (fun p hp => pm_nn (x := P1 * P1 + P2 * P2 + P3 * P3) ?_ hs)
      rw [key]
      have := Int.mul_nonneg (show 0 ≤ -zO X Y Z P1 P2 P3 v r c by omega) (show 0 ≤ -zH X Y Z P1 P2 P3 v p by have := hle p hp; omega)
      rw [Int.neg_mul_neg] at this
      exact this
    · have hsw : ∀ p, zV X Y Z v c r p = - zV X Y Z v r c p := by intro p; unfold zV zN1 zN2 zN3 zH; grind
      have hL' : zL X Y Z v c r := zL_of_O (A := P1) (B := P2) (C := P3) (by rw [zO_sw2]; omega)
      obtain ⟨g, hg, j1, j2, j3⟩ := S.2.2 v c r hv hc hr hL' (fun p hp => by
        rw [hsw]
        refine pm_nn (x := P1 * P1 + P2 * P2 + P3 * P3) ?_ hs
        rw [Int.mul_neg, key]
        have := Int.mul_nonneg (show 0 ≤ zO X Y Z P1 P2 P3 v r c by omega) (show 0 ≤ -zH X Y Z P1 P2 P3 v p by have := hle p hp; omega)
        rw [Int.mul_neg] at this
        exact this)
      exact ⟨g, r, hg, hr, j1, j3, hr2⟩
  · obtain ⟨c, hc, _, hV, hL⟩ := zWrap (n := n) hN hdr hr0 hle (fun p hp h0 => by
      by_cases h : zO X Y Z P1 P2 P3 v r p = 0
      · omega
      · exact absurd ⟨p, hp, h0, h⟩ hA) hx
    exact fin c hc hL hV
/-- .. so he has a higher neighbour -/
theorem zUpE (S : zS X Y Z n FA FB FC FD nf) (hM : zM X Y Z n) (hD : zD X Y Z n) (hf : f < nf) (hx : zX X Y Z n (FA f) (FB f) (FC f) (FD f) v) (hq : ∃ q, q < n ∧ 0 < zh X Y Z v q) : ∃ g w, g < nf ∧ (zE X Y Z n (FA g) (FB g) (FC g) (FD g) v w ∨ zE X Y Z n (FA g) (FB g) (FC g) (FD g) w v) ∧ 0 < zh X Y Z v w := by
  obtain ⟨g, r, hg, hr, jv, jr, hh⟩ := zUp S hM hD hf hx.1 hx.2.1 hq
  have hG := (S.1 g hg).1
  have hxg : zX X Y Z n (FA g) (FB g) (FC g) (FD g) v := by
    by_cases e : g = f
    · subst e; exact hx
    · obtain ⟨k1, k2, h1, h2, n1, n2, n3, i1, i2⟩ := zCor1 S hM hD hf hx
      by_cases e1 : g = k1
      · subst e1
        exact zCor2 S hD hg hf h2 e n3 n2 hx.1 jv hx.2.1 i2
      · exact zCor2 S hD hg hf h1 e e1 n1 hx.1 jv hx.2.1 i1
  obtain ⟨w, hw⟩ := zSucc hD (zF_ne hG) hxg (zOther hG v)
  obtain ⟨u, hu⟩ := zPred hD (zF_ne hG) hxg (zOther hG v)
  by_cases h1 : 0 < zh X Y Z v w
  · exact ⟨g, w, hg, Or.inl hw, h1⟩
  · by_cases h2 : 0 < zh X Y Z v u
    · exact ⟨g, u, hg, Or.inr hu, h2⟩
    · exfalso
      have := zLocal 4194304 2048 1 hM hD hG hu hw (by unfold zh at h2; omega) (by unfold zh at h1; omega) hr jr
      unfold zh at hh
      omega
/-- down through v: one facet alone -/
theorem zDown1 (S : zS X Y Z n FA FB FC FD nf) (hM : zM X Y Z n) (hD : zD X Y Z n) (hf : f < nf) (hg : g < nf) {u' w' : Nat} (h1 : zE X Y Z n (FA f) (FB f) (FC f) (FD f) u v) (h2 : zE X Y Z n (FA f) (FB f) (FC f) (FD f) v w) (h3 : zE X Y Z n (FA g) (FB g) (FC g) (FD g) u' v) (h4 : zE X Y Z n (FA g) (FB g) (FC g) (FD g) v w') (s : Int) (hs : s = 1 ∨ s = -1) (t1 : 0 < s * zh X Y Z v u) (t2 : s * zh X Y Z v w < 0) (t3 : 0 < s * zh X Y Z v u') (t4 : s * zh X Y Z v w' < 0) : f = g := by
  by_cases fg : f = g
  · exact fg
  exfalso
  have hF := (S.1 f hf).1; have hG := (S.1 g hg).1
  have iv := h1.2.2.2.2.1; have iu := h1.2.2.2.1; have iw := h2.2.2.2.2.1
  have jv := h3.2.2.2.2.1; have ju := h3.2.2.2.1; have jw := h4.2.2.2.2.1
  have o1 := zTurn hM hD hF h1 h2
  have o2 := zTurn hM hD hG h3 h4
  -- heights over the other facet
  have g1 := zF_le hG jv h1.1; have g2 := zF_le hG jv h2.2.1
  have f1 := zF_le hF iv h3.1; have f2 := zF_le hF iv h4.2.1
  have gn : zH X Y Z (FA g) (FB g) (FC g) v u < 0 ∨ zH X Y Z (FA g) (FB g) (FC g) v w < 0 := by
    by_cases e1 : zI X Y Z (FA g) (FB g) (FC g) (FD g) u
    · by_cases e2 : zI X Y Z (FA g) (FB g) (FC g) (FD g) w
      · exact absurd (zS_u S hf hg (zL_of_O (by omega : zO X Y Z (FA f) (FB f) (FC f) v w u ≠ 0)) iv iw iu jv e2 e1) fg
      · exact Or.inr (zF_lt hG jv h2.2.1 e2)
    · exact Or.inl (zF_lt hG jv h1.1 e1)
  have fn : zH X Y Z (FA f) (FB f) (FC f) v u' < 0 ∨ zH X Y Z (FA f) (FB f) (FC f) v w' < 0 := by
    by_cases e1 : zI X Y Z (FA f) (FB f) (FC f) (FD f) u'
    · by_cases e2 : zI X Y Z (FA f) (FB f) (FC f) (FD f) w'
      · exact absurd (zS_u S hf hg (zL_of_O (by omega : zO X Y Z (FA g) (FB g) (FC g) v w' u' ≠ 0)) iv e2 e1 jv jw ju) fg
      · exact Or.inr (zF_lt hF iv h4.2.1 e2)
    · exact Or.inl (zF_lt hF iv h3.1 e1)
  have zu := zH_0 iv iu; have zw := zH_0 iv iw; have zu' := zH_0 jv ju; have zw' := zH_0 jv jw
  have sF := sq_pos (zF_ne hF); have sG := sq_pos (zF_ne hG)
  have K1 : (FA f * FA f + FB f * FB f + FC f * FC f) * (zh X Y Z v u * zH X Y Z (FA g) (FB g) (FC g) v w - zh X Y Z v w * zH X Y Z (FA g) (FB g) (FC g) v u) = zO X Y Z (FA f) (FB f) (FC f) v w u * (FA g * (2048 * FC f - FB f) + FB g * (FA f - 4194304 * FC f) + FC g * (4194304 * FB f - 2048 * FA f)) := by
    clear zu' zw' gn fn f1 f2 g1 g2 o1 o2 t1 t2 t3 t4 sF sG h1 h2 h3 h4 S
    unfold zh zH zO zN1 zN2 zN3 at *
    generalize X u - X v = a1 at *; generalize Y u - Y v = a2 at *; generalize Z u - Z v = a3 at *
    generalize X w - X v = b1 at *; generalize Y w - Y v = b2 at *; generalize Z w - Z v = b3 at *
    generalize FA f = A1 at *; generalize FB f = B1 at *; generalize FC f = C1 at *
    generalize FA g = A2 at *; generalize FB g = B2 at *; generalize FC g = C2 at *
    clear hF hG iv iu iw jv ju jw hM hD
    grind
  have K2 : (FA g * FA g + FB g * FB g + FC g * FC g) * (zh X Y Z v u' * zH X Y Z (FA f) (FB f) (FC f) v w' - zh X Y Z v w' * zH X Y Z (FA f) (FB f) (FC f) v u') = - (zO X Y Z (FA g) (FB g) (FC g) v w' u' * (FA g * (2048 * FC f - FB f) + FB g * (FA f - 4194304 * FC f) + FC g * (4194304 * FB f - 2048 * FA f))) := by
    clear zu zw K1 gn fn f1 f2 g1 g2 o1 o2 t1 t2 t3 t4 sF sG h1 h2 h3 h4 S
    unfold zh zH zO zN1 zN2 zN3 at *
    generalize X u' - X v = a1 at *; generalize Y u' - Y v = a2 at *; generalize Z u' - Z v = a3 at *
    generalize X w' - X v = b1 at *; generalize Y w' - Y v = b2 at *; generalize Z w' - Z v = b3 at *
    generalize FA f = A1 at *; generalize FB f = B1 at *; generalize FC f = C1 at *
    generalize FA g = A2 at *; generalize FB g = B2 at *; generalize FC g = C2 at *
    clear hF hG iv iu iw jv ju jw hM hD
    grind
  have T1 : s * (zh X Y Z v u * zH X Y Z (FA g) (FB g) (FC g) v w - zh X Y Z v w * zH X Y Z (FA g) (FB g) (FC g) v u) < 0 := by
    generalize zH X Y Z (FA g) (FB g) (FC g) v w = y at *; generalize zH X Y Z (FA g) (FB g) (FC g) v u = x at *
    generalize zh X Y Z v u = t at *; generalize zh X Y Z v w = r at *
    have e : s * (t * y - r * x) = -((s * t) * (-y) + (-(s * r)) * (-x)) := by grind
    rw [e]
    have m1 := Int.mul_nonneg (show 0 ≤ s * t by omega) (show 0 ≤ -y by omega)
    have m2 := Int.mul_nonneg (show 0 ≤ -(s * r) by omega) (show 0 ≤ -x by omega)
    rcases gn with h | h
    · have := Int.mul_pos (show 0 < -(s * r) by omega) (show 0 < -x by omega)
      omega
    · have := Int.mul_pos (show 0 < s * t by omega) (show 0 < -y by omega)
      omega
  have T2 : s * (zh X Y Z v u' * zH X Y Z (FA f) (FB f) (FC f) v w' - zh X Y Z v w' * zH X Y Z (FA f) (FB f) (FC f) v u') < 0 := by
    generalize zH X Y Z (FA f) (FB f) (FC f) v w' = y at *; generalize zH X Y Z (FA f) (FB f) (FC f) v u' = x at *
    generalize zh X Y Z v u' = t at *; generalize zh X Y Z v w' = r at *
    have e : s * (t * y - r * x) = -((s * t) * (-y) + (-(s * r)) * (-x)) := by grind
    rw [e]
    have m1 := Int.mul_nonneg (show 0 ≤ s * t by omega) (show 0 ≤ -y by omega)
    have m2 := Int.mul_nonneg (show 0 ≤ -(s * r) by omega) (show 0 ≤ -x by omega)
    rcases fn with h | h
    · have := Int.mul_pos (show 0 < -(s * r) by omega) (show 0 < -x by omega)
      omega
    · have := Int.mul_pos (show 0 < s * t by omega) (show 0 < -y by omega)
      omega
  generalize zh X Y Z v u * zH X Y Z (FA g) (FB g) (FC g) v w - zh X Y Z v w * zH X Y Z (FA g) (FB g) (FC g) v u = y1 at *
  generalize zh X Y Z v u' * zH X Y Z (FA f) (FB f) (FC f) v w' - zh X Y Z v w' * zH X Y Z (FA f) (FB f) (FC f) v u' = y2 at *
  generalize zO X Y Z (FA f) (FB f) (FC f) v w u = q1 at *
  generalize zO X Y Z (FA g) (FB g) (FC g) v w' u' = q2 at *
  generalize FA f * FA f + FB f * FB f + FC f * FC f = nF at *
  generalize FA g * FA g + FB g * FB g + FC g * FC g = nG at *
  generalize FA g * (2048 * FC f - FB f) + FB g * (FA f - 4194304 * FC f) + FC g * (4194304 * FB f - 2048 * FA f) = dt at *
  have r1 : nF * (s * y1) = q1 * (s * dt) := by
    have : nF * (s * y1) = s * (nF * y1) := by grind
    rw [this, K1]; grind
  have r2 : nG * (s * y2) = - (q2 * (s * dt)) := by
    have : nG * (s * y2) = s * (nG * y2) := by grind
    rw [this, K2]; grind
  have n1 := Int.mul_neg_of_pos_of_neg sF T1
  have n2 := Int.mul_neg_of_pos_of_neg sG T2
  rw [r1] at n1
  rw [r2] at n2
  have p2 : 0 < s * dt := pm_pos (x := q2) (by omega) o2
  have := Int.mul_pos o1 p2
  omega
end ZU2
