/-- all facets of the points below n, each once -/
def zS (X Y Z : Nat → Int) (n : Nat) (FA FB FC FD : Nat → Int) (nf : Nat) : Prop := (∀ f, f < nf → zF X Y Z n (FA f) (FB f) (FC f) (FD f) ∧ zP (FA f) (FB f) (FC f)) ∧ (∀ f g, f < nf → g < nf → FA f = FA g → FB f = FB g → FC f = FC g → FD f = FD g → f = g) ∧ (∀ a b c, a < n → b < n → c < n → zL X Y Z a b c → (∀ p, p < n → 0 ≤ zV X Y Z a b c p) → ∃ f, f < nf ∧ zI X Y Z (FA f) (FB f) (FC f) (FD f) a ∧ zI X Y Z (FA f) (FB f) (FC f) (FD f) b ∧ zI X Y Z (FA f) (FB f) (FC f) (FD f) c)
section ZS
variable {X Y Z : Nat → Int} {n : Nat} {FA FB FC FD : Nat → Int} {nf : Nat} {A B C D : Int} {a b c d p q u v w f g k : Nat}
theorem zL_of_O (h : zO X Y Z A B C a b c ≠ 0) : zL X Y Z a b c := by
  unfold zL
  by_cases h1 : zN1 X Y Z a b c = 0
  · by_cases h2 : zN2 X Y Z a b c = 0
    · refine Or.inr (Or.inr fun h3 => h ?_)
      unfold zO; rw [h1, h2, h3]; simp
    · exact Or.inr (Or.inl h2)
  · exact Or.inl h1
theorem zS_u (S : zS X Y Z n FA FB FC FD nf) (hf : f < nf) (hg : g < nf) (hL : zL X Y Z a b c) (ia : zI X Y Z (FA f) (FB f) (FC f) (FD f) a) (ib : zI X Y Z (FA f) (FB f) (FC f) (FD f) b) (ic : zI X Y Z (FA f) (FB f) (FC f) (FD f) c) (ja : zI X Y Z (FA g) (FB g) (FC g) (FD g) a) (jb : zI X Y Z (FA g) (FB g) (FC g) (FD g) b) (jc : zI X Y Z (FA g) (FB g) (FC g) (FD g) c) : f = g := by
  obtain ⟨h1, h2, h3, h4⟩ := zUniq (S.1 f hf).1 (S.1 g hg).1 (S.1 f hf).2 (S.1 g hg).2 hL ia ib ic ja jb jc
  exact S.2.1 f g hf hg h1 h2 h3 h4
/-- three facets don't share two points -/
theorem zT (S : zS X Y Z n FA FB FC FD nf) (hD : zD X Y Z n) (hf : f < nf) (hg : g < nf) (hk : k < nf) (fg : f ≠ g) (fk : f ≠ k) (gk : g ≠ k) (hp : p < n) (hq : q < n) (hpq : p ≠ q) (ip : zI X Y Z (FA f) (FB f) (FC f) (FD f) p) (iq : zI X Y Z (FA f) (FB f) (FC f) (FD f) q) (jp : zI X Y Z (FA g) (FB g) (FC g) (FD g) p) (jq : zI X Y Z (FA g) (FB g) (FC g) (FD g) q) (kp : zI X Y Z (FA k) (FB k) (FC k) (FD k) p) (kq : zI X Y Z (FA k) (FB k) (FC k) (FD k) q) : False := by
  have hd := hD p q hp hq hpq
  obtain ⟨u, hu, iu, ou⟩ := zOff (S.1 f hf).1 hd ip iq
  obtain ⟨v, hv, iv, ov⟩ := zOff (S.1 g hg).1 hd jp jq
  obtain ⟨w, hw, iw, ow⟩ := zOff (S.1 k hk).1 hd kp kq
  have Lu := zL_of_O ou; have Lv := zL_of_O ov; have Lw := zL_of_O ow
  have m12 := zF_lt (S.1 f hf).1 ip hv (fun h => fg (zS_u S hf hg Lv ip iq h jp jq iv))
  have m13 := zF_lt (S.1 f hf).1 ip hw (fun h => fk (zS_u S hf hk Lw ip iq h kp kq iw))
  have m21 := zF_lt (S.1 g hg).1 jp hu (fun h => fg (zS_u S hf hg Lu ip iq iu jp jq h))
  have m23 := zF_lt (S.1 g hg).1 jp hw (fun h => gk (zS_u S hg hk Lw jp jq h kp kq iw))
  have m31 := zF_lt (S.1 k hk).1 kp hu (fun h => fk (zS_u S hf hk Lu ip iq iu kp kq h))
  have m32 := zF_lt (S.1 k hk).1 kp hv (fun h => gk (zS_u S hg hk Lv jp jq iv kp kq h))
  have z1 := zH_0 ip iu; have z2 := zH_0 jp iv; have z3 := zH_0 kp iw
  have e1 := zH_0 ip iq; have e2 := zH_0 jp jq; have e3 := zH_0 kp kq
  have hd' : X q - X p ≠ 0 ∨ Y q - Y p ≠ 0 ∨ Z q - Z p ≠ 0 := by omega
  clear hd iu ou iv ov iw ow Lu Lv Lw ip iq jp jq kp kq S
  unfold zH at *
  generalize FA f = A1 at *; generalize FB f = B1 at *; generalize FC f = C1 at *
  generalize FA g = A2 at *; generalize FB g = B2 at *; generalize FC g = C2 at *
  generalize FA k = A3 at *; generalize FB k = B3 at *; generalize FC k = C3 at *
  generalize X q - X p = d1 at *; generalize Y q - Y p = d2 at *; generalize Z q - Z p = d3 at *
  generalize X u - X p = u1 at *; generalize Y u - Y p = u2 at *; generalize Z u - Z p = u3 at *
  generalize X v - X p = v1 at *; generalize Y v - Y p = v2 at *; generalize Z v - Z p = v3 at *
  generalize X w - X p = w1 at *; generalize Y w - Y p = w2 at *; generalize Z w - Z p = w3 at *
  have dz : A1 * (B2 * C3 - C2 * B3) - B1 * (A2 * C3 - C2 * A3) + C1 * (A2 * B3 - B2 * A3) = 0 := by
    rcases hd' with h | h | h
    · have : d1 * (A1 * (B2 * C3 - C2 * B3) - B1 * (A2 * C3 - C2 * A3) + C1 * (A2 * B3 - B2 * A3)) = 0 := by clear h m12 m13 m21 m23 m31 m32 z1 z2 z3; grind
      exact (Int.mul_eq_zero.mp this).resolve_left h
    · have : d2 * (A1 * (B2 * C3 - C2 * B3) - B1 * (A2 * C3 - C2 * A3) + C1 * (A2 * B3 - B2 * A3)) = 0 := by clear h m12 m13 m21 m23 m31 m32 z1 z2 z3; grind
      exact (Int.mul_eq_zero.mp this).resolve_left h
    · have : d3 * (A1 * (B2 * C3 - C2 * B3) - B1 * (A2 * C3 - C2 * A3) + C1 * (A2 * B3 - B2 * A3)) = 0 := by clear h m12 m13 m21 m23 m31 m32 z1 z2 z3; grind
      exact (Int.mul_eq_zero.mp this).resolve_left h
  have dm : (A1 * v1 + B1 * v2 + C1 * v3) * (A2 * w1 + B2 * w2 + C2 * w3) * (A3 * u1 + B3 * u2 + C3 * u3) + (A1 * w1 + B1 * w2 + C1 * w3) * (A2 * u1 + B2 * u2 + C2 * u3) * (A3 * v1 + B3 * v2 + C3 * v3) = (A1 * (B2 * C3 - C2 * B3) - B1 * (A2 * C3 - C2 * A3) + C1 * (A2 * B3 - B2 * A3)) * (u1 * (v2*w3-v3*w2) - u2 * (v1*w3-v3*w1) + u3*(v1*w2-v2*w1)) := by
    clear dz hd' e1 e2 e3 m12 m13 m21 m23 m31 m32
    grind
  rw [dz, Int.zero_mul] at dm
  have t1 := Int.mul_neg_of_pos_of_neg (Int.mul_pos_of_neg_of_neg m12 m23) m31
  have t2 := Int.mul_neg_of_pos_of_neg (Int.mul_pos_of_neg_of_neg m13 m21) m32
  omega
/-- wrapping: a plane that supports in the line a b, turned until it meets a point -/
theorem zWrap (hN : A ≠ 0 ∨ B ≠ 0 ∨ C ≠ 0) (hab : X a ≠ X b ∨ Y a ≠ Y b ∨ Z a ≠ Z b) (hb : zH X Y Z A B C a b = 0) (hs : ∀ p, p < n → zH X Y Z A B C a p ≤ 0) (ho : ∀ p, p < n → zH X Y Z A B C a p = 0 → 0 ≤ zO X Y Z A B C a b p) (hx : ∃ p, p < n ∧ zH X Y Z A B C a p < 0) : ∃ c, c < n ∧ zH X Y Z A B C a c < 0 ∧ (∀ p, p < n → 0 ≤ zV X Y Z a b c p) ∧ zL X Y Z a b c := by
  obtain ⟨c, hc, hPc, hR⟩ := finMin (fun c => zH X Y Z A B C a c < 0) (fun c q => zO X Y Z A B C a b c * (-zH X Y Z A B C a q) ≤ zO X Y Z A B C a b q * (-zH X Y Z A B C a c)) (fun i j _ _ => Int.le_total _ _) (by
    intro i j k hi hj hk h1 h2
    generalize zO X Y Z A B C a b i = oi at *; generalize zO X Y Z A B C a b j = oj at *; generalize zO X Y Z A B C a b k = ok at *
    generalize zH X Y Z A B C a i = si at *; generalize zH X Y Z A B C a j = sj at *; generalize zH X Y Z A B C a k = sk at *
    have m1 := Int.mul_le_mul_of_nonneg_right h1 (show 0 ≤ -sk by omega)
    have m2 := Int.mul_le_mul_of_nonneg_right h2 (show 0 ≤ -si by omega)
    have e : (-sj) * (ok * (-si) - oi * (-sk)) = (ok * -sj * -si - oj * -sk * -si) + (oj * -si * -sk - oi * -sj * -sk) := by grind
    have : 0 ≤ (-sj) * (ok * (-si) - oi * (-sk)) := by rw [e]; omega
    have := pm_nn this (by omega)
    omega) n hx
  refine ⟨c, hc, hPc, ?_, ?_⟩
  · intro p hp
    have key : (A * A + B * B + C * C) * zV X Y Z a b c p = zH X Y Z A B C a p * zO X Y Z A B C a b c - zH X Y Z A B C a c * zO X Y Z A B C a b p := by
      unfold zV zH zO zN1 zN2 zN3 at *
      clear hR hPc ho hs hx hN hab
      generalize X b - X a = b1 at *; generalize Y b - Y a = b2 at *; generalize Z b - Z a = b3 at *
      generalize X c - X a = c1 at *; generalize Y c - Y a = c2 at *; generalize Z c - Z a = c3 at *
      generalize X p - X a = p1 at *; generalize Y p - Y a = p2 at *; generalize Z p - Z a = p3 at *
      grind
    refine pm_nn (x := A * A + B * B + C * C) ?_ (sq_pos hN)
    rw [key]
    rcases Int.lt_or_eq_of_le (hs p hp) with h | h
    · have := hR p hp h
      generalize zO X Y Z A B C a b c = oc at *; generalize zO X Y Z A B C a b p = op at *
      generalize zH X Y Z A B C a c = sc at *; generalize zH X Y Z A B C a p = sp at *
      rw [Int.mul_neg, Int.mul_neg, Int.mul_comm oc, Int.mul_comm op] at this
      omega
    · rw [h, Int.zero_mul]
      have := Int.mul_nonneg (show 0 ≤ -zH X Y Z A B C a c by omega) (ho p hp h)
      rw [Int.neg_mul] at this
      omega
  · by_cases h1 : zN1 X Y Z a b c = 0
    · by_cases h2 : zN2 X Y Z a b c = 0
      · refine Or.inr (Or.inr fun h3 => ?_)
        clear hR ho hs hx hN
        have hab' : X b - X a ≠ 0 ∨ Y b - Y a ≠ 0 ∨ Z b - Z a ≠ 0 := by omega
        have hne : zH X Y Z A B C a c ≠ 0 := by omega
        clear hPc hab
        apply hne
        unfold zN1 at h1; unfold zN2 at h2; unfold zN3 at h3
        unfold zH at *
        clear hne
        generalize X b - X a = b1 at *; generalize Y b - Y a = b2 at *; generalize Z b - Z a = b3 at *
        generalize X c - X a = c1 at *; generalize Y c - Y a = c2 at *; generalize Z c - Z a = c3 at *
        rcases hab' with h | h | h
        · exact (Int.mul_eq_zero.mp (show b1 * (A * c1 + B * c2 + C * c3) = 0 by clear h; grind)).resolve_left h
        · exact (Int.mul_eq_zero.mp (show b2 * (A * c1 + B * c2 + C * c3) = 0 by clear h; grind)).resolve_left h
        · exact (Int.mul_eq_zero.mp (show b3 * (A * c1 + B * c2 + C * c3) = 0 by clear h; grind)).resolve_left h
      · exact Or.inr (Or.inl h2)
    · exact Or.inl h1
/-- two planes through a b: the turns in one, the heights over the other -/
theorem zTwo {A' B' C' : Int} (h1 : zH X Y Z A B C a b = 0) (h2 : zH X Y Z A' B' C' a b = 0) (hv : zH X Y Z A B C a v = 0) (hw : zH X Y Z A' B' C' a w = 0) : zH X Y Z A' B' C' a v * (A * A + B * B + C * C) * zO X Y Z A' B' C' a b w + zO X Y Z A B C a b v * zH X Y Z A B C a w * (A' * A' + B' * B' + C' * C') = 0 := by
  unfold zH zO zN1 zN2 zN3 at *
  generalize X b - X a = b1 at *; generalize Y b - Y a = b2 at *; generalize Z b - Z a = b3 at *
  generalize X v - X a = v1 at *; generalize Y v - Y a = v2 at *; generalize Z v - Z a = v3 at *
  generalize X w - X a = w1 at *; generalize Y w - Y a = w2 at *; generalize Z w - Z a = w3 at *
  grind
theorem zE_off (hD : zD X Y Z n) (hF : zF X Y Z n A B C D) (h : zE X Y Z n A B C D a b) : ∃ d, d < n ∧ zI X Y Z A B C D d ∧ 0 < zO X Y Z A B C a b d := by
  obtain ⟨d, hd, id, ho⟩ := zOff hF (hD a b h.1 h.2.1 h.2.2.1) h.2.2.2.1 h.2.2.2.2.1
  have := zE_ge h hd id
  exact ⟨d, hd, id, by omega⟩
/-- the facet on the other side of a step -/
theorem zTwin (S : zS X Y Z n FA FB FC FD nf) (hD : zD X Y Z n) (hf : f < nf) (h : zE X Y Z n (FA f) (FB f) (FC f) (FD f) a b) : ∃ g, g < nf ∧ g ≠ f ∧ zE X Y Z n (FA g) (FB g) (FC g) (FD g) b a := by
  have hF := (S.1 f hf).1
  have ia := h.2.2.2.1; have ib := h.2.2.2.2.1
  obtain ⟨c, hc, hlt, hV, hL⟩ := zWrap (n := n) (zF_ne hF) (hD a b h.1 h.2.1 h.2.2.1) (zH_0 ia ib) (fun p hp => zF_le hF ia hp) (fun p hp h0 => zE_ge h hp (by rw [zH_I ia] at h0; unfold zI; omega)) (by
    obtain ⟨p, hp, hl⟩ := hF.2.1
    exact ⟨p, hp, by rw [zH_I ia]; omega⟩)
  obtain ⟨g, hg, ja, jb, jc⟩ := S.2.2 a b c h.1 h.2.1 hc hL hV
  have gf : g ≠ f := by
    intro e
    subst e
    rw [zH_0 ia jc] at hlt
    omega
  refine ⟨g, hg, gf, h.2.1, h.1, fun e => h.2.2.1 e.symm, jb, ja, ?_⟩
  obtain ⟨d, hd, id, hO⟩ := zE_off hD hF h
  have hG := (S.1 g hg).1
  have hgv := zF_lt hG ja hd (fun j => gf (zS_u S hg hf (zL_of_O (by omega : zO X Y Z (FA f) (FB f) (FC f) a b d ≠ 0)) ja jb j ia ib id))
  intro x hx hxb hxa jx
  have I := zTwo (zH_0 ia ib) (zH_0 ja jb) (zH_0 ia id) (zH_0 ja jx)
  have hfx := zF_le hF ia hx
  have sF := sq_pos (zF_ne hF); have sG := sq_pos (zF_ne hG)
  rw [zO_sw, show zB X Y Z b a x = zB X Y Z a b x by unfold zB; grind]
  have hle : zO X Y Z (FA g) (FB g) (FC g) a b x ≤ 0 ∧ (zO X Y Z (FA g) (FB g) (FC g) a b x = 0 → zH X Y Z (FA f) (FB f) (FC f) a x = 0) := by
    generalize zO X Y Z (FA g) (FB g) (FC g) a b x = og at *
    generalize zH X Y Z (FA f) (FB f) (FC f) a x = sx at *
    generalize zO X Y Z (FA f) (FB f) (FC f) a b d = of at *
    generalize zH X Y Z (FA g) (FB g) (FC g) a d = sd at *
    generalize FA f * FA f + FB f * FB f + FC f * FC f = nF at *
    generalize FA g * FA g + FB g * FB g + FC g * FC g = nG at *
    have t1 : 0 ≤ of * (-sx) * nG := Int.mul_nonneg (Int.mul_nonneg (by omega) (by omega)) (by omega)
    have e1 : of * (-sx) * nG = - (of * sx * nG) := by grind
    have t2 : 0 < (-sd) * nF := Int.mul_pos (by omega) sF
    have e2 : ((-sd) * nF) * (-og) = sd * nF * og := by grind
    constructor
    · have : 0 ≤ ((-sd) * nF) * (-og) := by rw [e2]; omega
      have := pm_nn this t2
      omega
    · intro h0
      subst h0
      rw [Int.mul_zero] at I
      have e3 : (of * nG) * (-sx) = of * (-sx) * nG := by grind
      have e4 : (of * nG) * (-sx) = 0 := by rw [e3, e1]; omega
      have := pm_z e4 (Int.mul_pos hO sG)
      omega
  rcases Int.lt_or_eq_of_le hle.1 with h0 | h0
  · exact Or.inl (by omega)
  · right
    refine ⟨by omega, ?_⟩
    have ix : zI X Y Z (FA f) (FB f) (FC f) (FD f) x := by
      have := hle.2 h0
      rw [zH_I ia] at this; unfold zI; omega
    rcases h.2.2.2.2.2 x hx hxa hxb ix with h2 | h2
    · exact absurd (zS_u S hg hf (zL_of_O (by omega : zO X Y Z (FA f) (FB f) (FC f) a b x ≠ 0)) ja jb jx ia ib ix) gf
    · exact h2.2
/-- a step belongs to one facet -/
theorem zOne (S : zS X Y Z n FA FB FC FD nf) (hD : zD X Y Z n) (hf : f < nf) (hg : g < nf) (h : zE X Y Z n (FA f) (FB f) (FC f) (FD f) a b) (h' : zE X Y Z n (FA g) (FB g) (FC g) (FD g) a b) : f = g := by
  by_cases fg : f = g
  · exact fg
  · exfalso
    have hF := (S.1 f hf).1; have hG := (S.1 g hg).1
    have ia := h.2.2.2.1; have ib := h.2.2.2.2.1
    have ja := h'.2.2.2.1; have jb := h'.2.2.2.2.1
    obtain ⟨d, hd, id, hO⟩ := zE_off hD hF h
    obtain ⟨x, hx, jx, hO'⟩ := zE_off hD hG h'
    have hgv := zF_lt hG ja hd (fun j => fg (zS_u S hf hg (zL_of_O (by omega : zO X Y Z (FA f) (FB f) (FC f) a b d ≠ 0)) ia ib id ja jb j))
    have hfx := zF_lt hF ia hx (fun j => fg (zS_u S hf hg (zL_of_O (by omega : zO X Y Z (FA g) (FB g) (FC g) a b x ≠ 0)) ia ib j ja jb jx))
    have I := zTwo (zH_0 ia ib) (zH_0 ja jb) (zH_0 ia id) (zH_0 ja jx)
    have sF := sq_pos (zF_ne hF); have sG := sq_pos (zF_ne hG)
    have t1 := Int.mul_neg_of_neg_of_pos (Int.mul_neg_of_neg_of_pos hgv sF) hO'
    have t2 := Int.mul_neg_of_neg_of_pos (Int.mul_neg_of_pos_of_neg hO hfx) sG
    omega
theorem zOther (hF : zF X Y Z n A B C D) (a : Nat) : ∃ c, c < n ∧ c ≠ a ∧ zI X Y Z A B C D c := by
  obtain ⟨x, y, z, hx, hy, hz, ix, iy, iz, hL⟩ := hF.2.2
  by_cases h : x = a
  · refine ⟨y, hy, ?_, iy⟩
    intro h2
    subst h h2
    unfold zL zN1 zN2 zN3 at hL
    simp at hL
  · exact ⟨x, hx, h, ix⟩
/-- a point that stands out of a facet lies in two more -/
theorem zCor1 (S : zS X Y Z n FA FB FC FD nf) (hM : zM X Y Z n) (hD : zD X Y Z n) (hf : f < nf) (h : zX X Y Z n (FA f) (FB f) (FC f) (FD f) p) : ∃ g k, g < nf ∧ k < nf ∧ f ≠ g ∧ f ≠ k ∧ g ≠ k ∧ zI X Y Z (FA g) (FB g) (FC g) (FD g) p ∧ zI X Y Z (FA k) (FB k) (FC k) (FD k) p := by
  have hF := (S.1 f hf).1
  obtain ⟨b, hb⟩ := zSucc hD (zF_ne hF) h (zOther hF p)
  obtain ⟨z, hz⟩ := zPred hD (zF_ne hF) h (zOther hF p)
  have ht := zTurn hM hD hF hz hb
  obtain ⟨g, hg, gf, eg⟩ := zTwin S hD hf hb
  obtain ⟨k, hk, kf, ek⟩ := zTwin S hD hf hz
  refine ⟨g, k, hg, hk, fun e => gf e.symm, fun e => kf e.symm, ?_, eg.2.2.2.2.1, ek.2.2.2.1⟩
  intro e
  subst e
  exact gf (zS_u S hg hf (zL_of_O (by omega : zO X Y Z (FA f) (FB f) (FC f) p b z ≠ 0)) eg.2.2.2.2.1 eg.2.2.2.1 ek.2.2.2.2.1 h.2.1 hb.2.2.2.2.1 hz.2.2.2.1)
theorem zCor2 (S : zS X Y Z n FA FB FC FD nf) (hD : zD X Y Z n) (hf : f < nf) (hg : g < nf) (hk : k < nf) (fg : f ≠ g) (fk : f ≠ k) (gk : g ≠ k) (hp : p < n) (ip : zI X Y Z (FA f) (FB f) (FC f) (FD f) p) (jp : zI X Y Z (FA g) (FB g) (FC g) (FD g) p) (kp : zI X Y Z (FA k) (FB k) (FC k) (FD k) p) : zX X Y Z n (FA f) (FB f) (FC f) (FD f) p := by
  refine ⟨hp, ip, FA g + FA k, FB g + FB k, FC g + FC k, ?_⟩
  intro c hc hcp ic
  have e : zH X Y Z (FA g + FA k) (FB g + FB k) (FC g + FC k) p c = zH X Y Z (FA g) (FB g) (FC g) p c + zH X Y Z (FA k) (FB k) (FC k) p c := by unfold zH; grind
  rw [e]
  by_cases jc : zI X Y Z (FA g) (FB g) (FC g) (FD g) c
  · by_cases kc : zI X Y Z (FA k) (FB k) (FC k) (FD k) c
    · exact (zT S hD hf hg hk fg fk gk hp hc (fun e => hcp e.symm) ip ic jp jc kp kc).elim
    · have := zF_lt (S.1 k hk).1 kp hc kc
      have := zF_le (S.1 g hg).1 jp hc
      omega
  · have := zF_lt (S.1 g hg).1 jp hc jc
    have := zF_le (S.1 k hk).1 kp hc
    omega
end ZS
