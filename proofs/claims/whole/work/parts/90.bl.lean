/-! ===== building keeps the relation ===== -/
theorem cp_at (f g : Nat → Int32) {J k : Nat} (h : k < J) : cpI f g J k = g k := if_pos h
theorem cpL_at (f : Nat → Int64) (g : Nat → Int32) {J k : Nat} (h : k < J) : cpL f g J k = (g k).toInt64 := if_pos h
section M20a
variable {xs ys zs ax ay az : Nat → Int32} {n : Nat} {hx hy hz : Nat → Int64}
theorem tI_cp (f g : Nat → Int32) {J k : Nat} (h : k < J) : tI (cpI f g J) k = tI g k := by
  unfold tI
  rw [cp_at f g h]
theorem Bd_cp (h : Bd n xs ys zs) : Bd n (cpI ax xs n) (cpI ay ys n) (cpI az zs n) := by
  intro q hq
  rw [tI_cp _ _ hq, tI_cp _ _ hq, tI_cp _ _ hq]
  exact h q hq
theorem zD_cp (h : zD (tI xs) (tI ys) (tI zs) n) : zD (tI (cpI ax xs n)) (tI (cpI ay ys n)) (tI (cpI az zs n)) n := by
  intro q r hq hr hqr
  rw [tI_cp _ _ hq, tI_cp _ _ hq, tI_cp _ _ hq, tI_cp _ _ hr, tI_cp _ _ hr, tI_cp _ _ hr]
  exact h q r hq hr hqr
theorem Cpy_cp : Cpy n (cpI ax xs n) (cpI ay ys n) (cpI az zs n) (cpL hx xs n) (cpL hy ys n) (cpL hz zs n) := by
  intro k hk
  rw [cp_at _ _ hk, cp_at _ _ hk, cp_at _ _ hk]
  exact ⟨cpL_at _ _ hk, cpL_at _ _ hk, cpL_at _ _ hk⟩
theorem Sld_cp (h : Sld n xs ys zs) : Sld n (cpI ax xs n) (cpI ay ys n) (cpI az zs n) := by
  obtain ⟨a, b, c, d, ha, hb, hc, hd, hV⟩ := h
  refine ⟨a, b, c, d, ha, hb, hc, hd, ?_⟩
  unfold zV zH zN1 zN2 zN3 at hV ⊢
  rw [tI_cp ax xs ha, tI_cp ax xs hb, tI_cp ax xs hc, tI_cp ax xs hd, tI_cp ay ys ha, tI_cp ay ys hb, tI_cp ay ys hc, tI_cp ay ys hd, tI_cp az zs ha, tI_cp az zs hb, tI_cp az zs hc, tI_cp az zs hd]
  exact hV
end M20a
theorem ag_build (l : Launch) (D : va_G) (cI cJ cF cD : ClassId) (htr : l.stackTraces = false) (ad ba fa ra : Nat → Nat) (oa od : Nat) : AgI (Rl9 ad ba fa ra cI cJ cF) l D cI cJ cF cD oa od yL_build wsL_build ({ frames := 7, cells := 1, slots := 6, locals := 141 }) [.ref (ba 0), .ref oa] 1 6 yX4_build wsX4_build ({ frames := 4, cells := 0, slots := 0, locals := 112 }) [.ref (ad 0)] := by
  intro thr wm wb ov dv hR
  obtain ⟨np, nh, b, bds, tx, ty, tz, xs, ys, zs, F, o, z, p, g, E, hx, hy, hz, S, co, G, sx, ax, ay, az, al, mo, sz, rn, rfl, rfl, hP, hB, hF0, hF1⟩ := hR
  obtain ⟨⟨b1, b2, b3⟩, ⟨b4, b5, b6, b7, b8⟩, c1, c2, c3, c4, c5, c6⟩ := id hB
  have hfl := flB_iff hP.2.1 hP.2.2
  cases hs : sldB np xs ys zs with
  | false =>
    rw [hs] at hfl
    have hfl : flB np xs ys zs = true := hfl
    refine ⟨_, _, l_build l D cI cJ cF cD htr (h3_build l D cI cJ cF cD htr (S := S) hP.1 c1 c4 c3 (fun h => by rw [hfl] at h; cases h)) rfl ?_ ?_ ?_, c4_build_no l D cI cJ cF cD (F := F) hP.1 hs, ?_⟩
    · rintro E9 w9 ⟨h, _⟩; exact h
    · rintro v9 w9 ⟨h, _⟩; rw [hfl] at h; cases h
    · rintro E9 w9 ⟨_, _, v1, v2, v3, v4, h⟩; rw [h, wB_len, wB_len]
    · rintro r w v wm' hC ⟨rfl, rfl⟩
      rcases hC with ⟨_, v', w0, ⟨h, _⟩, _⟩ | ⟨rfl, w0, ⟨_, _, v1, v2, v3, v4, rfl⟩, rfl⟩
      · rw [hfl] at h; cases h
      · refine ⟨_, ov, dv, rfl, ?_, fun h => absurd h r1_0⟩
        rw [hs, goT_0]
        exact ⟨np, nh, b, bds, tx, ty, tz, xs, ys, zs, F, o, z, p, g, E, hx, hy, hz, scrC S v1 v2 v3 v4 (S.2.2.2.2.2.2.2 S.2.2.1), co, G, sx, ax, ay, az, al, mo, sz, rn, rfl, rfl, hP, ⟨⟨b1, b2, b3⟩, ⟨b4, b5, b6, b7, b8⟩, scr_inv c1 v1 v2 v3 v4 _, scr_SL c2 v1 v2 v3 v4 _, c3, c4, c5, c6⟩, hF0, fun hb => Hul_scr (hF1 hb) b2 c2 v1 v2 v3 v4 _⟩
  | true =>
    rw [hs] at hfl
    have hfl : flB np xs ys zs = false := hfl
    have hBd : Bd np (cpI ax xs np) (cpI ay ys np) (cpI az zs np) := Bd_cp hP.2.1
    have hDD : zD (tI (cpI ax xs np)) (tI (cpI ay ys np)) (tI (cpI az zs np)) np := zD_cp hP.2.2
    have hCp : Cpy np (cpI ax xs np) (cpI ay ys np) (cpI az zs np) (cpL hx xs np) (cpL hy ys np) (cpL hz zs np) := Cpy_cp
    have hSl : Sld np (cpI ax xs np) (cpI ay ys np) (cpI az zs np) := Sld_cp ((sldB_iff hP.2.1).mp hs)
    obtain ⟨hM, S0⟩ := tA_S hBd hCp hSl (F0' F) rfl
    have h44 := tA_44 hBd hDD hP.1 hCp hSl (F0' F) rfl
    have h1 := T_pos hBd hDD hSl S0
    have hbl := bld_ok hBd hDD hP.1 hCp hSl (F0' F) rfl o z p E.2.1 E.2.2.1 E.2.2.2
    have hcl : ∀ (v1 v2 v3 v4 : Int64) (S8 : CT), rA np (cpI ax xs np) (cpI ay ys np) (cpI az zs np) (0, (scrC S v1 v2 v3 v4 (S.2.2.2.2.2.2.2 S.2.2.1)).2) np S8 → SI (cpI ax xs np) (cpI ay ys np) (cpI az zs np) np S8 (tA np (cpL hx xs np) (cpL hy ys np) (cpL hz zs np) (F0' F) np) ∧ SL S8 := by
      intro v1 v2 v3 v4 S8 hr
      have hM0 : MI (cpI ax xs np) (cpI ay ys np) (cpI az zs np) np (F0' F) := ⟨fun k hk => absurd hk (Nat.not_lt_zero k), fun j k hj => absurd hj (Nat.not_lt_zero j)⟩
      have J0 : SI (cpI ax xs np) (cpI ay ys np) (cpI az zs np) np (0, (scrC S v1 v2 v3 v4 (S.2.2.2.2.2.2.2 S.2.2.1)).2) (F0' F) := ⟨rfl, fun k hk => absurd hk (Nat.not_lt_zero k), fun k hk => absurd hk (Nat.not_lt_zero k)⟩
      have sl0 : SL ((0, (scrC S v1 v2 v3 v4 (S.2.2.2.2.2.2.2 S.2.2.1)).2) : CT) := c2
      exact rA_ok hBd hP.1 hCp hSl hM0 J0 sl0 np S8 (Nat.le_refl _) h44 hr
    refine ⟨_, _, l_build l D cI cJ cF cD htr (h3_build l D cI cJ cF cD htr (S := S) hP.1 c1 c4 c3 (fun _ v1 v2 v3 v4 S8 hr _ => ⟨_, _, wrp_ex hBd hDD hP.1 hM S0 (hcl v1 v2 v3 v4 S8 hr).1 h1⟩)) rfl ?_ ?_ ?_, c4_build_yes l D cI cJ cF cD (F := F) hP.1 b4 b5 b6 hs hbl, ?_⟩
    · rintro E9 w9 ⟨h, _⟩; exact h
    · rintro v9 w9 ⟨_, v1, v2, v3, v4, S8, v0, ml, _, _, _, _, h⟩; rw [h, wB_len, wB_len]
    · rintro E9 w9 ⟨_, h, _⟩; rw [hfl] at h; cases h
    · rintro r w v wm' hC ⟨t1, t2, t3, rfl, rfl⟩
      rcases hC with ⟨rfl, v', w0, ⟨_, v1, v2, v3, v4, S8, v0, ml, hr8, hi8, hw8, rfl, rfl⟩, rfl⟩ | ⟨_, w0, ⟨_, h, _⟩, _⟩
      · obtain ⟨J, sl⟩ := hcl v1 v2 v3 v4 S8 hr8
        have H := hul_ok (o := o) (z := z) (p := p) (sz := sz) (el := G.2.1) (eh := G.2.2) hBd hDD hP.1 hCp hSl hM S0 h44 J sl hw8 c4 al E.2.1 c5 E.2.2.1 E.2.2.2 mo
        have hR : ∀ f, f < (tA np (cpL hx xs np) (cpL hy ys np) (cpL hz zs np) (F0' F) np).1 → ringOK (tA np (cpL hx xs np) (cpL hy ys np) (cpL hz zs np) (F0' F) np) np (cpL hx xs np) (cpL hy ys np) (cpL hz zs np) f (rgF (cpI ax xs np) (cpI ay ys np) (cpI az zs np) np (tA np (cpL hx xs np) (cpL hy ys np) (cpL hz zs np) (F0' F) np) f) (mlF (cpI ax xs np) (cpI ay ys np) (cpI az zs np) np (tA np (cpL hx xs np) (cpL hy ys np) (cpL hz zs np) (F0' F) np) f) := fun f hf => rgF_ring hBd hDD hP.1 hCp hM hf
        have q1 := rgA_lt hP.1 b4 hR _ (Nat.le_refl _)
        have q2 := szA_le b5 hR _ (Nat.le_refl _)
        have q3 := ordL_lt (lt := erlB (rgA o (rgF (cpI ax xs np) (cpI ay ys np) (cpI az zs np) np (tA np (cpL hx xs np) (cpL hy ys np) (cpL hz zs np) (F0' F) np)) (mlF (cpI ax xs np) (cpI ay ys np) (cpI az zs np) np (tA np (cpL hx xs np) (cpL hy ys np) (cpL hz zs np) (F0' F) np)) (tA np (cpL hx xs np) (cpL hy ys np) (cpL hz zs np) (F0' F) np).1)) b6 (tA np (cpL hx xs np) (cpL hy ys np) (cpL hz zs np) (F0' F) np).1 (by omega)
        have q4 := gzA_le (pm := S8.2.1) c3 (fun f hf => (hw8.2.2 f hf).1) S8.1 (Nat.le_refl _)
        have q5 := grn_lt (xs := cpI ax xs np) (ys := cpI ay ys np) (zs := cpI az zs np) hP.1 hw8 c4 (coI S8 np)
        refine ⟨_, _, dv, rfl, ?_, fun _ => ?_⟩
        · rw [hs, goT_11]
          refine ⟨np, np, true, bds + nI 1, t1, t2, t3, xs, ys, zs, _, _, _, _, g, _, _, _, _, _, _, _, _, _, _, _, _, _, _, _, rfl, rfl, hP, ?_, fun h => absurd h (by decide), fun _ => H⟩
          refine ⟨⟨hP.1, h44, ?_⟩, ⟨q1, q2, q3, edgE_okE (E := (0, E.2.1, E.2.2.1, E.2.2.2)) hP.1 b7 np, b8⟩, ⟨hi8.1, fun j => ordS_lt hi8.2.1 _ j, hi8.2.2⟩, ordS_SJ sl (S8.1 - 1) (by have := hi8.1; omega), q4, q5, edgC_okC (E := (0, G.2.1, G.2.2)) hP.1 c5 np, edgC_le (Nat.zero_le _) np⟩
          rw [← H.1.2.2]
          exact edgC_le (Nat.zero_le _) np
        · rw [updL_i, J.1]
      · rw [hfl] at h; cases h
