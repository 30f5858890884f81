/-! ===== the class finds the same faces ===== -/
theorem Side_I {X Y Z : Nat → Int} {n a b c : Nat} {s g q1 q2 q3 : Int} (hS : Side n X Y Z a b c s) (hP : PlR (zN1 X Y Z a b c) (zN2 X Y Z a b c) (zN3 X Y Z a b c) s g q1 q2 q3) (p : Nat) : zI X Y Z (s * q1) (s * q2) (s * q3) (s * q1 * X a + s * q2 * Y a + s * q3 * Z a) p ↔ zV X Y Z a b c p = 0 := by
  obtain ⟨-, hs, -, -⟩ := hS
  obtain ⟨-, hg, e1, e2, e3, hz⟩ := hP
  have hv : s * zV X Y Z a b c p = g * (s * q1 * X p + s * q2 * Y p + s * q3 * Z p - (s * q1 * X a + s * q2 * Y a + s * q3 * Z a)) := by
    unfold zV zH
    rw [e1, e2, e3]
    grind
  unfold zI
  constructor
  · intro h
    rw [show s * q1 * X p + s * q2 * Y p + s * q3 * Z p - (s * q1 * X a + s * q2 * Y a + s * q3 * Z a) = 0 by omega, Int.mul_zero] at hv
    rcases hs with rfl | rfl <;> omega
  · intro h
    rw [h, Int.mul_zero] at hv
    have := pm_z hv.symm (by omega)
    omega
abbrev cNx (S : CT) : Nat → Int64 := S.2.2.2.1
abbrev cNy (S : CT) : Nat → Int64 := S.2.2.2.2.1
abbrev cNz (S : CT) : Nat → Int64 := S.2.2.2.2.2.1
abbrev cDd (S : CT) : Nat → Int64 := S.2.2.2.2.2.2.1
abbrev cHd (S : CT) : Nat → Int32 := S.2.2.2.2.2.2.2
/-- the class's faces are the reference's -/
def SI (xs ys zs : Nat → Int32) (n : Nat) (S : CT) (F : FT) : Prop := S.1 = F.1 ∧ (∀ k, k < F.1 → cNx S (S.2.1 k) = F.2.1 k ∧ cNy S (S.2.1 k) = F.2.2.1 k ∧ cNz S (S.2.1 k) = F.2.2.2.1 k ∧ cDd S (S.2.1 k) = F.2.2.2.2 k) ∧ ∀ k, k < F.1 → ∀ q, q < 32 → (bt (cHd S (S.2.1 k)) q = true ↔ q < n ∧ InF xs ys zs F k q)
/-- no slot is used twice -/
def SL (S : CT) : Prop := (∀ i j, i < 44 → j < 44 → S.2.1 i = S.2.1 j → i = j) ∧ ∀ i, i < 44 → S.2.1 i ≠ S.2.2.1
section M8a
variable {xs ys zs : Nat → Int32} {n a b c : Nat} {hx hy hz : Nat → Int64} {F : FT} {S S' : CT}
theorem upB_iff (h : Bd n xs ys zs) (ha : a < n) (hb : b < n) (hc : c < n) : upB (ptH xs ys zs a b c) n = true ↔ ∃ p, p < n ∧ 0 < zV (tI xs) (tI ys) (tI zs) a b c p := by
  unfold upB
  rw [anyB_iff]
  constructor
  · rintro ⟨p, hp, h1⟩
    rw [decide_eq_true_eq, (ptH_R h ha hb hc hp).gt0] at h1
    exact ⟨p, hp, h1⟩
  · rintro ⟨p, hp, h1⟩
    exact ⟨p, hp, by rw [decide_eq_true_eq, (ptH_R h ha hb hc hp).gt0]; exact h1⟩
theorem dnB_iff (h : Bd n xs ys zs) (ha : a < n) (hb : b < n) (hc : c < n) : dnB (ptH xs ys zs a b c) n = true ↔ ∃ p, p < n ∧ zV (tI xs) (tI ys) (tI zs) a b c p < 0 := by
  unfold dnB
  rw [anyB_iff]
  constructor
  · rintro ⟨p, hp, h1⟩
    rw [decide_eq_true_eq, (ptH_R h ha hb hc hp).lt0] at h1
    exact ⟨p, hp, h1⟩
  · rintro ⟨p, hp, h1⟩
    exact ⟨p, hp, by rw [decide_eq_true_eq, (ptH_R h ha hb hc hp).lt0]; exact h1⟩
theorem side_class (h : Bd n xs ys zs) (hSl : Sld n xs ys zs) (ha : a < n) (hb : b < n) (hc : c < n) : (lyB xs ys zs a b c && !(upB (ptH xs ys zs a b c) n && dnB (ptH xs ys zs a b c) n)) = true ↔ ∃ s, Side n (tI xs) (tI ys) (tI zs) a b c s := by
  have u := upB_iff h ha hb hc
  have d := dnB_iff h ha hb hc
  rw [Bool.and_eq_true, lyB_iff h ha hb hc, Bool.not_eq_true', Bool.and_eq_false_iff]
  constructor
  · rintro ⟨hL, h1⟩
    have hsome : ∃ p, p < n ∧ zV (tI xs) (tI ys) (tI zs) a b c p ≠ 0 := by
      apply Classical.byContradiction
      intro hno
      have hz : ∀ p, p < n → zV (tI xs) (tI ys) (tI zs) a b c p = 0 := by
        intro p hp
        apply Classical.byContradiction
        intro h9; exact hno ⟨p, hp, h9⟩
      obtain ⟨x, y, z, w, h1, h2, h3, h4, hv⟩ := hSl
      exact hv (zV_plane (o := a) hL (hz x h1) (hz y h2) (hz z h3) (hz w h4))
    obtain ⟨p, hp, hne⟩ := hsome
    rcases h1 with h1 | h1
    · have hno : ∀ p, p < n → zV (tI xs) (tI ys) (tI zs) a b c p ≤ 0 := by
        intro p hp
        apply Classical.byContradiction
        intro h9
        rw [u.mpr ⟨p, hp, by omega⟩] at h1; cases h1
      refine ⟨1, hL, Or.inl rfl, fun p hp => by have := hno p hp; omega, p, hp, by have := hno p hp; omega⟩
    · have hno : ∀ p, p < n → 0 ≤ zV (tI xs) (tI ys) (tI zs) a b c p := by
        intro p hp
        apply Classical.byContradiction
        intro h9
        rw [d.mpr ⟨p, hp, by omega⟩] at h1; cases h1
      refine ⟨-1, hL, Or.inr rfl, fun p hp => by have := hno p hp; omega, p, hp, by have := hno p hp; omega⟩
  · rintro ⟨s, hL, hs, h1, _⟩
    refine ⟨hL, ?_⟩
    rcases hs with rfl | rfl
    · left
      cases e : upB (ptH xs ys zs a b c) n with
      | false => rfl
      | true => obtain ⟨p, hp, h2⟩ := u.mp e; have := h1 p hp; omega
    · right
      cases e : dnB (ptH xs ys zs a b c) n with
      | false => rfl
      | true => obtain ⟨p, hp, h2⟩ := d.mp e; have := h1 p hp; omega
theorem lieB_iff (J : SI xs ys zs n S F) (hn : n ≤ 24) (ha : a < n) (hb : b < n) (hc : c < n) : lieB S (set3 a b c) = true ↔ Fnd xs ys zs F a b c := by
  unfold lieB
  rw [anyB_iff, J.1]
  constructor
  · rintro ⟨k, hk, h1⟩
    rw [decide_eq_true_eq, set3_in (by omega) (by omega) (by omega)] at h1
    exact ⟨k, hk, ((J.2.2 k hk a (by omega)).mp h1.1).2, ((J.2.2 k hk b (by omega)).mp h1.2.1).2, ((J.2.2 k hk c (by omega)).mp h1.2.2).2⟩
  · rintro ⟨k, hk, h1, h2, h3⟩
    refine ⟨k, hk, ?_⟩
    rw [decide_eq_true_eq, set3_in (by omega) (by omega) (by omega)]
    exact ⟨(J.2.2 k hk a (by omega)).mpr ⟨ha, h1⟩, (J.2.2 k hk b (by omega)).mpr ⟨hb, h2⟩, (J.2.2 k hk c (by omega)).mpr ⟨hc, h3⟩⟩
theorem SI_scr (J : SI xs ys zs n S F) (sl : SL S) (h44 : F.1 ≤ 44) (v1 v2 v3 v4 : Int64) (h : Int32) : SI xs ys zs n (scrC S v1 v2 v3 v4 h) F ∧ SL (scrC S v1 v2 v3 v4 h) := by
  refine ⟨⟨J.1, fun k hk => ?_, fun k hk q hq => ?_⟩, sl⟩
  · have hne : S.2.1 k ≠ S.2.2.1 := sl.2 k (by omega)
    have := J.2.1 k hk
    simp only [cNx, cNy, cNz, cDd, scrC, vp_updL, if_neg hne]
    exact this
  · have hne : S.2.1 k ≠ S.2.2.1 := sl.2 k (by omega)
    have := J.2.2 k hk q hq
    simp only [cHd, scrC, upd, if_neg hne]
    exact this
theorem try_step (h : Bd n xs ys zs) (hn : n ≤ 24) (e : Cpy n xs ys zs hx hy hz) (hSl : Sld n xs ys zs) (hM : MI xs ys zs n F) (J : SI xs ys zs n S F) (sl : SL S) (ha : a < n) (hb : b < n) (hc : c < n) (h44 : (triF F n hx hy hz a b c).1 ≤ 44) (ht : tryR n xs ys zs S a b c S') : SI xs ys zs n S' (triF F n hx hy hz a b c) ∧ SL S' := by
  have h44' : F.1 ≤ 44 := Nat.le_trans (triF_le F) h44
  have sc := side_class h hSl ha hb hc
  have li := lieB_iff J hn ha hb hc
  -- what the reference does
  have model : (triF F n hx hy hz a b c = F ∧ addC n xs ys zs S a b c = false) ∨ (addC n xs ys zs S a b c = true ∧ ∃ s, Side n (tI xs) (tI ys) (tI zs) a b c s ∧ ¬ Fnd xs ys zs F a b c) := by
    by_cases hs : ∃ s, Side n (tI xs) (tI ys) (tI zs) a b c s
    · obtain ⟨s, hS⟩ := hs
      obtain ⟨hno, es⟩ := triNo_of h e ha hb hc hS
      by_cases hf : Fnd xs ys zs F a b c
      · left
        refine ⟨?_, ?_⟩
        · unfold triF
          rw [if_neg (by rw [hno]; simp)]
          obtain ⟨k, hk, i1, i2, i3⟩ := hf
          obtain ⟨q1, q2, q3, hP⟩ := PlR_ex s hS.2.1 hS.1
          obtain ⟨d1, d2, d3, d4⟩ := pl_model h e ha hb hc es hP
          obtain ⟨f1, f2, ia, ib, ic⟩ := Side_F ha hb hc hS hP
          obtain ⟨u1, u2, u3, u4⟩ := zUniq (hM.1 k hk).1 f1 (hM.1 k hk).2.1 f2 hS.1 i1 i2 i3 ia ib ic
          unfold triA addF
          rw [if_pos]
          rw [knB_iff]
          refine ⟨k, hk, ?_, ?_, ?_, ?_⟩
          · exact Int64.toInt_inj.mp (u1.trans d1.1.symm)
          · exact Int64.toInt_inj.mp (u2.trans d2.1.symm)
          · exact Int64.toInt_inj.mp (u3.trans d3.1.symm)
          · exact Int64.toInt_inj.mp (u4.trans d4.1.symm)
        · unfold addC
          rw [li.mpr hf]
          simp
      · right
        refine ⟨?_, s, hS, hf⟩
        have hlt : S.1 < 44 := by
          rw [J.1]
          have : (triF F n hx hy hz a b c).1 = F.1 + 1 := by
            unfold triF
            rw [if_neg (by rw [hno]; simp)]
            unfold triA addF
            rw [if_neg]
            rw [knB_iff]
            rintro ⟨k, hk, k1, k2, k3, k4⟩
            apply hf
            obtain ⟨q1, q2, q3, hP⟩ := PlR_ex s hS.2.1 hS.1
            obtain ⟨d1, d2, d3, d4⟩ := pl_model h e ha hb hc es hP
            obtain ⟨f1, f2, ia, ib, ic⟩ := Side_F ha hb hc hS hP
            have e1 : fA F k = s * q1 := by unfold fA; rw [k1]; exact d1.1
            have e2 : fB F k = s * q2 := by unfold fB; rw [k2]; exact d2.1
            have e3 : fC F k = s * q3 := by unfold fC; rw [k3]; exact d3.1
            have e4 : fD F k = s * q1 * tI xs a + s * q2 * tI ys a + s * q3 * tI zs a := by unfold fD; rw [k4]; exact d4.1
            unfold Fnd InF
            exact ⟨k, hk, by rw [e1, e2, e3, e4]; exact ia, by rw [e1, e2, e3, e4]; exact ib, by rw [e1, e2, e3, e4]; exact ic⟩
          omega
        have h1 : lieB S (set3 a b c) = false := by
          cases e9 : lieB S (set3 a b c) with
          | false => rfl
          | true => exact absurd (li.mp e9) hf
        unfold addC
        rw [h1, sc.mpr ⟨s, hS⟩]
        simp [hlt]
    · left
      constructor
      · unfold triF
        rw [if_pos]
        cases e9 : triNo n hx hy hz a b c with
        | true => rfl
        | false => exact absurd ⟨_, (triNo_iff h e ha hb hc).mp e9⟩ hs
      · have h1 : (lyB xs ys zs a b c && !(upB (ptH xs ys zs a b c) n && dnB (ptH xs ys zs a b c) n)) = false := by
          cases e9 : (lyB xs ys zs a b c && !(upB (ptH xs ys zs a b c) n && dnB (ptH xs ys zs a b c) n)) with
          | false => rfl
          | true => exact absurd (sc.mp e9) hs
        unfold addC
        rw [h1]
        simp
  rcases model with ⟨m1, m2⟩ | ⟨m1, s, hS, hf⟩
  · rw [m1]
    rcases ht with ⟨_, v1, v2, v3, v4, q, rfl⟩ | ⟨t1, _⟩
    · exact SI_scr J sl h44' v1 v2 v3 v4 q
    · rw [m2] at t1; cases t1
  · rcases ht with ⟨t1, _⟩ | ⟨_, rfl⟩
    · rw [m1] at t1; cases t1
    obtain ⟨hno, es⟩ := triNo_of h e ha hb hc hS
    obtain ⟨q1, q2, q3, hP⟩ := PlR_ex s hS.2.1 hS.1
    obtain ⟨d1, d2, d3, d4⟩ := pl_model h e ha hb hc es hP
    have hu : s = if upB (ptH xs ys zs a b c) n = true then -1 else 1 := by
      have o := ovr_0 h e ha hb hc
      by_cases h0 : ovr n hx hy hz a b c = 0
      · rw [if_pos h0] at es
        rw [es, if_neg]
        rw [upB_iff h ha hb hc]
        rintro ⟨p, hp, hlt⟩
        have := o.mp h0 p hp
        omega
      · rw [if_neg h0] at es
        rw [es, if_pos]
        rw [upB_iff h ha hb hc]
        apply Classical.byContradiction
        intro h9
        exact h0 (o.mpr (fun p hp => by
          apply Classical.byContradiction
          intro h8; exact h9 ⟨p, hp, by omega⟩))
    obtain ⟨g1, g2, g3, g4⟩ := pl_class h ha hb hc (upB (ptH xs ys zs a b c) n) hu hP
    have sI := Side_I hS hP
    have hlt : S.1 < 44 := by
      unfold addC at m1
      simp only [Bool.and_eq_true, decide_eq_true_eq] at m1
      exact m1.1
    have hkn : ¬ knB F (acx hy hz a b c / triBy n hx hy hz a b c) (acx hz hx a b c / triBy n hx hy hz a b c) (acx hx hy a b c / triBy n hx hy hz a b c) (acx hy hz a b c / triBy n hx hy hz a b c * hx a + acx hz hx a b c / triBy n hx hy hz a b c * hy a + acx hx hy a b c / triBy n hx hy hz a b c * hz a) = true := by
      rw [knB_iff]
      rintro ⟨k, hk, k1, k2, k3, k4⟩
      apply hf
      obtain ⟨f1, f2, ia, ib, ic⟩ := Side_F ha hb hc hS hP
      have e1 : fA F k = s * q1 := by unfold fA; rw [k1]; exact d1.1
      have e2 : fB F k = s * q2 := by unfold fB; rw [k2]; exact d2.1
      have e3 : fC F k = s * q3 := by unfold fC; rw [k3]; exact d3.1
      have e4 : fD F k = s * q1 * tI xs a + s * q2 * tI ys a + s * q3 * tI zs a := by unfold fD; rw [k4]; exact d4.1
      unfold Fnd InF
      exact ⟨k, hk, by rw [e1, e2, e3, e4]; exact ia, by rw [e1, e2, e3, e4]; exact ib, by rw [e1, e2, e3, e4]; exact ic⟩
    have mF : triF F n hx hy hz a b c = (F.1 + 1, vp_updL F.2.1 F.1 (acx hy hz a b c / triBy n hx hy hz a b c), vp_updL F.2.2.1 F.1 (acx hz hx a b c / triBy n hx hy hz a b c), vp_updL F.2.2.2.1 F.1 (acx hx hy a b c / triBy n hx hy hz a b c), vp_updL F.2.2.2.2 F.1 (acx hy hz a b c / triBy n hx hy hz a b c * hx a + acx hz hx a b c / triBy n hx hy hz a b c * hy a + acx hx hy a b c / triBy n hx hy hz a b c * hz a)) := by
      unfold triF
      rw [if_neg (by rw [hno]; simp)]
      unfold triA addF
      rw [if_neg hkn]
    have fx : FX F (triF F n hx hy hz a b c) := (tri_step h e hM ha hb hc).2.1
    have newIn : ∀ q, InF xs ys zs (triF F n hx hy hz a b c) F.1 q ↔ zV (tI xs) (tI ys) (tI zs) a b c q = 0 := by
      intro q
      rw [← sI q, mF]
      unfold InF
      simp only [fA, fB, fC, fD, vp_updL, if_true]
      rw [d1.1, d2.1, d3.1, d4.1]
    refine ⟨⟨?_, ?_, ?_⟩, ?_, ?_⟩
    · rw [mF]; show S.1 + 1 = F.1 + 1; rw [J.1]
    · intro k hk
      rw [mF] at hk
      have hk : k < F.1 + 1 := hk
      by_cases ek : k = F.1
      · subst ek
        rw [mF]
        simp only [cNx, cNy, cNz, cDd, newC, updN, vp_updL, J.1, if_true]
        exact ⟨g1.inj d1, g2.inj d2, g3.inj d3, g4.inj d4⟩
      · have hk2 : k < F.1 := by omega
        have hne : S.2.1 k ≠ S.2.2.1 := sl.2 k (by omega)
        have hkS : k ≠ S.1 := by rw [J.1]; exact ek
        have := J.2.1 k hk2
        obtain ⟨x1, x2, x3, x4⟩ := fx.2 k hk2
        rw [x1, x2, x3, x4]
        simp only [cNx, cNy, cNz, cDd, newC, updN, vp_updL, if_neg hkS, if_neg hne]
        exact this
    · intro k hk q hq
      rw [mF] at hk
      have hk : k < F.1 + 1 := hk
      by_cases ek : k = F.1
      · subst ek
        simp only [cHd, newC, updN, upd, J.1, if_true]
        rw [btI_bt n (by omega) q hq, Bool.and_eq_true, decide_eq_true_eq, decide_eq_true_eq, newIn q]
        constructor
        · rintro ⟨x1, x2⟩; exact ⟨x1, (ptH_R h ha hb hc x1).eq0.mp x2⟩
        · rintro ⟨x1, x2⟩; exact ⟨x1, (ptH_R h ha hb hc x1).eq0.mpr x2⟩
      · have hk2 : k < F.1 := by omega
        have hne : S.2.1 k ≠ S.2.2.1 := sl.2 k (by omega)
        have hkS : k ≠ S.1 := by rw [J.1]; exact ek
        have := J.2.2 k hk2 q hq
        rw [fx.inF hk2]
        simp only [cHd, newC, updN, upd, if_neg hkS, if_neg hne]
        exact this
    · intro i j hi hj
      simp only [newC, updN]
      by_cases e1 : i = S.1
      · rw [if_pos e1]
        by_cases e2 : j = S.1
        · intro _; omega
        · rw [if_neg e2]; intro e3; exact absurd e3.symm (sl.2 j hj)
      · rw [if_neg e1]
        by_cases e2 : j = S.1
        · rw [if_pos e2]; intro e3; exact absurd e3 (sl.2 i hi)
        · rw [if_neg e2]; exact sl.1 i j hi hj
    · intro i hi
      simp only [newC, updN]
      by_cases e1 : i = S.1
      · rw [if_pos e1]; exact fun e3 => sl.2 S.1 hlt e3.symm
      · rw [if_neg e1]; exact fun e3 => e1 (sl.1 i S.1 hi hlt e3)
theorem rC_ok (h : Bd n xs ys zs) (hn : n ≤ 24) (e : Cpy n xs ys zs hx hy hz) (hSl : Sld n xs ys zs) (hM : MI xs ys zs n F) (J : SI xs ys zs n S F) (sl : SL S) (ha : a < n) (hb : b < n) : ∀ k S', k ≤ n - (b + 1) → (tC n hx hy hz a b F k).1 ≤ 44 → rC n xs ys zs a b S k S' → SI xs ys zs n S' (tC n hx hy hz a b F k) ∧ SL S' := by
  intro k
  induction k with
  | zero => intro S' _ _ hr; rw [hr]; exact ⟨J, sl⟩
  | succ k ih =>
    intro S' hk h44 hr
    obtain ⟨S1, h1, h2⟩ := hr
    obtain ⟨j1, s1⟩ := ih S1 (by omega) (Nat.le_trans (triF_le _) h44) h1
    exact try_step h hn e hSl (tC_ok h e hM ha hb k (by omega)).1 j1 s1 ha hb (by omega) h44 h2
theorem rB_ok (h : Bd n xs ys zs) (hn : n ≤ 24) (e : Cpy n xs ys zs hx hy hz) (hSl : Sld n xs ys zs) (hM : MI xs ys zs n F) (J : SI xs ys zs n S F) (sl : SL S) (ha : a < n) : ∀ k S', k ≤ n - (a + 1) → (tB n hx hy hz a F k).1 ≤ 44 → rB n xs ys zs a S k S' → SI xs ys zs n S' (tB n hx hy hz a F k) ∧ SL S' := by
  intro k
  induction k with
  | zero => intro S' _ _ hr; rw [hr]; exact ⟨J, sl⟩
  | succ k ih =>
    intro S' hk h44 hr
    obtain ⟨S1, h1, h2⟩ := hr
    obtain ⟨j1, s1⟩ := ih S1 (by omega) (Nat.le_trans (tC_le (tB n hx hy hz a F k) _ 0 (Nat.zero_le _)) h44) h1
    exact rC_ok h hn e hSl (tB_ok h e hM ha k (by omega)).1 j1 s1 ha (by omega) _ S' (Nat.le_refl _) h44 h2
theorem rA_ok (h : Bd n xs ys zs) (hn : n ≤ 24) (e : Cpy n xs ys zs hx hy hz) (hSl : Sld n xs ys zs) (hM : MI xs ys zs n F) (J : SI xs ys zs n S F) (sl : SL S) : ∀ k S', k ≤ n → (tA n hx hy hz F k).1 ≤ 44 → rA n xs ys zs S k S' → SI xs ys zs n S' (tA n hx hy hz F k) ∧ SL S' := by
  intro k
  induction k with
  | zero => intro S' _ _ hr; rw [hr]; exact ⟨J, sl⟩
  | succ k ih =>
    intro S' hk h44 hr
    obtain ⟨S1, h1, h2⟩ := hr
    obtain ⟨j1, s1⟩ := ih S1 (by omega) (Nat.le_trans (tB_le (tA n hx hy hz F k) _ 0 (Nat.zero_le _)) h44) h1
    exact rB_ok h hn e hSl (tA_ok h e hM k (by omega)).1 j1 s1 (by omega) _ S' (Nat.le_refl _) h44 h2
end M8a
