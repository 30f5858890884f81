/-! ===== each call keeps the relation, with one answer ===== -/
theorem eAS : eIA ≠ eIS := by decide +kernel
theorem eAB : eIA ≠ eIB := by decide +kernel
theorem eSB : eIS ≠ eIB := by decide +kernel
theorem hull_t {b : Bool} {n : Nat} {P : Prop} (h : b = false → n = 0 ∧ P) (hn : n ≠ 0) : b = true := by
  cases b with
  | true => rfl
  | false => exact absurd (h rfl).1 hn
theorem hull_f {b : Bool} {m n : Nat} {P Q : Prop} (h : b = true → (1 ≤ m ∧ n = m ∧ P) ∧ Q) (hn : n = 0) : b = false := by
  cases b with
  | false => rfl
  | true => have h1 := (h rfl).1.1; have h2 := (h rfl).1.2.1; omega
theorem and_l {a b : Bool} (h : (a && b) = true) : a = true := by cases a <;> simp_all
theorem and_r {a b : Bool} (h : (a && b) = true) : b = true := by cases a <;> simp_all
theorem lcI_cg {H H' : Nat → Int64} {n : Nat} (h : ∀ j, j < n → H j = H' j) : ∀ k j r, lcI H n k j r = lcI H' n k j r := by
  intro k
  induction k with
  | zero => intro j r; rfl
  | succ k ih =>
    intro j r
    simp only [lcI]
    by_cases hj : j < n
    · rw [if_pos hj, if_pos hj, h j hj, ih]
    · rw [if_neg hj, if_neg hj]
theorem vfu_i (f : Nat → UInt64) (v : UInt64) : vf_upd f 0 v 0 = v := rfl
theorem r1_0 : ¬ (nI 1 = 0) := by decide
theorem r2_0 : ¬ (nI 2 = 0) := by decide

theorem ag_face (l : Launch) (D : va_G) (cI cJ cF cD : ClassId) (htr : l.stackTraces = false) (ad ba fa ra : Nat → Nat) (oa od : Nat) : ∀ x y : Int32, AgI (Rl9 ad ba fa ra cI cJ cF) l D cI cJ cF cD oa od yL_face wsL_face ({ frames := 8, cells := 3, slots := 18, locals := 134 }) [.ref (ba 0), .int x, .int y, .ref oa] 3 18 yX4_face wsX4_face ({ frames := 1, cells := 0, slots := 0, locals := 22 }) [.ref (ad 0), .int x, .int y] := by
  intro q1 q2
  intro thr wm wb ov dv hR
  obtain ⟨np, nh, b, bds, tx, ty, tz, xs, ys, zs, F, o, z, p, g, E, hx, hy, hz, S, co, G, sx, ax, ay, az, al, mo, sz, rn, rfl, rfl, hP, hB, hF0, hF1⟩ := hR
  obtain ⟨⟨b1, b2, b3⟩, ⟨b4, b5, b6, b7, b8⟩, c1, c2, c3, c4, c5, c6⟩ := id hB
  refine ⟨_, _, l_face l D cI cJ cF cD htr (h3_face l D cI cJ cF cD htr q1 q2 c1.1 b1 c6 hP.1 c1.2.1 c4 c3 c5.1 c5.2) rfl ?_ ?_ ?_, c4_face l D cI cJ cF cD q1 q2 (by omega) b4 b5 b6, ?_⟩
  · rintro E9 w9 ⟨(⟨h, _⟩ | ⟨h, _⟩), _⟩
    · exact Or.inl h
    · exact Or.inr h
  · rintro v9 w9 ⟨_, _, h⟩; rw [h]
  · rintro E9 w9 ⟨_, h⟩; rw [h]
  · rintro r w v wm' hC ⟨rfl, rfl⟩
    rcases hC with ⟨rfl, v', w0, ⟨⟨hnf, hc⟩, rfl, rfl⟩, rfl⟩ | ⟨rfl, w0, ⟨hX, rfl⟩, rfl⟩ | ⟨rfl, w0, ⟨hX, rfl⟩, rfl⟩
    · have hb := hull_t hF0 hnf
      subst hb
      obtain ⟨⟨e1, e2, e3⟩, e4, e5, e6, e7, e8, e9, e10, e11, ⟨V, e12, e13, e14⟩, e15⟩ := hF1 rfl
      have hc2 : (rngB F.1 q1 && whB 3 q2) = true := by rw [← e2, wh_rng (by decide)]; exact hc
      obtain ⟨j, hj, hq, hqj⟩ := rngB_t (n := S.1) (by omega) (and_l hc)
      have f6 := e6 j (by omega)
      refine ⟨_, _, dv, rfl, ?_, fun _ => ?_⟩
      · rw [hc2, goT_11]
        exact ⟨np, nh, true, bds, tx, ty, tz, xs, ys, zs, F, o, z, p, g, E, hx, hy, hz, S, co, G, sx, ax, ay, az, al, mo, sz, rn, rfl, rfl, hP, hB, hF0, hF1⟩
      · rw [updL_i, hc2, if_pos (by decide)]
        have g1 : S.2.2.2.1 (S.2.1 j) = F.2.1 (p j) := f6.1
        have g2 : S.2.2.2.2.1 (S.2.1 j) = F.2.2.1 (p j) := f6.2.1
        have g3 : S.2.2.2.2.2.1 (S.2.1 j) = F.2.2.2.1 (p j) := f6.2.2.1
        have g4 : sz (S.2.1 j) = z (p j) := f6.2.2.2.2.1
        rw [hqj]
        unfold fcC fcV
        rw [g1, g2, g3, g4]
    · rcases hX with ⟨_, h0⟩ | ⟨h, _⟩
      · have hb := hull_f hF1 h0
        subst hb
        exact ⟨_, ov, dv, rfl, ⟨np, nh, false, bds, tx, ty, tz, xs, ys, zs, F, o, z, p, g, E, hx, hy, hz, S, co, G, sx, ax, ay, az, al, mo, sz, rn, rfl, rfl, hP, hB, hF0, hF1⟩, fun h => absurd h r1_0⟩
      · exact absurd h eSB
    · rcases hX with ⟨h, _⟩ | ⟨_, hnf, hc⟩
      · exact absurd h (Ne.symm eSB)
      · have hb := hull_t hF0 hnf
        subst hb
        obtain ⟨⟨e1, e2, e3⟩, e4, e5, e6, e7, e8, e9, e10, e11, ⟨V, e12, e13, e14⟩, e15⟩ := hF1 rfl
        have hc2 : (rngB F.1 q1 && whB 3 q2) = false := by rw [← e2, wh_rng (by decide)]; exact hc
        refine ⟨_, ov, dv, rfl, ?_, fun h => absurd h r2_0⟩
        rw [hc2, goT_10]
        exact ⟨np, nh, true, bds, tx, ty, tz, xs, ys, zs, F, o, z, p, g, E, hx, hy, hz, S, co, G, sx, ax, ay, az, al, mo, sz, rn, rfl, rfl, hP, hB, hF0, hF1⟩
theorem ag_offset (l : Launch) (D : va_G) (cI cJ cF cD : ClassId) (htr : l.stackTraces = false) (ad ba fa ra : Nat → Nat) (oa od : Nat) : ∀ x : Int32, AgL (Rl9 ad ba fa ra cI cJ cF) l D cI cJ cF cD oa od yL_offset wsL_offset ({ frames := 8, cells := 2, slots := 12, locals := 132 }) [.ref (ba 0), .int x, .ref oa] 2 12 yX4_offset wsX4_offset ({ frames := 1, cells := 0, slots := 0, locals := 22 }) [.ref (ad 0), .int x] := by
  intro q1
  intro thr wm wb ov dv hR
  obtain ⟨np, nh, b, bds, tx, ty, tz, xs, ys, zs, F, o, z, p, g, E, hx, hy, hz, S, co, G, sx, ax, ay, az, al, mo, sz, rn, rfl, rfl, hP, hB, hF0, hF1⟩ := hR
  obtain ⟨⟨b1, b2, b3⟩, ⟨b4, b5, b6, b7, b8⟩, c1, c2, c3, c4, c5, c6⟩ := id hB
  refine ⟨_, _, l_offset l D cI cJ cF cD htr (h3_offset l D cI cJ cF cD htr q1 c1.1 b1 c6 hP.1 c1.2.1 c4 c3 c5.1 c5.2) rfl ?_ ?_ ?_, c4_offset l D cI cJ cF cD q1 (by omega) b4 b5 b6, ?_⟩
  · rintro E9 w9 ⟨(⟨h, _⟩ | ⟨h, _⟩), _⟩
    · exact Or.inl h
    · exact Or.inr h
  · rintro v9 w9 ⟨_, _, h⟩; rw [h]
  · rintro E9 w9 ⟨_, h⟩; rw [h]
  · rintro r w v wm' hC ⟨rfl, rfl⟩
    rcases hC with ⟨rfl, v', w0, ⟨⟨hnf, hc⟩, rfl, rfl⟩, rfl⟩ | ⟨rfl, w0, ⟨hX, rfl⟩, rfl⟩ | ⟨rfl, w0, ⟨hX, rfl⟩, rfl⟩
    · have hb := hull_t hF0 hnf
      subst hb
      obtain ⟨⟨e1, e2, e3⟩, e4, e5, e6, e7, e8, e9, e10, e11, ⟨V, e12, e13, e14⟩, e15⟩ := hF1 rfl
      have hc2 : rngB F.1 q1 = true := by rw [← e2]; exact hc
      obtain ⟨j, hj, hq, hqj⟩ := rngB_t (n := S.1) (by omega) hc
      have f6 := e6 j (by omega)
      refine ⟨_, _, dv, rfl, ?_, fun _ => ?_⟩
      · rw [hc2, goT_11]
        exact ⟨np, nh, true, bds, tx, ty, tz, xs, ys, zs, F, o, z, p, g, E, hx, hy, hz, S, co, G, sx, ax, ay, az, al, mo, sz, rn, rfl, rfl, hP, hB, hF0, hF1⟩
      · rw [updL_i, hc2, if_pos (by decide)]
        have g1 : S.2.2.2.2.2.2.1 (S.2.1 j) = F.2.2.2.2 (p j) := f6.2.2.2.1
        rw [hqj]
        exact g1
    · rcases hX with ⟨_, h0⟩ | ⟨h, _⟩
      · have hb := hull_f hF1 h0
        subst hb
        exact ⟨_, ov, dv, rfl, ⟨np, nh, false, bds, tx, ty, tz, xs, ys, zs, F, o, z, p, g, E, hx, hy, hz, S, co, G, sx, ax, ay, az, al, mo, sz, rn, rfl, rfl, hP, hB, hF0, hF1⟩, fun h => absurd h r1_0⟩
      · exact absurd h eSB
    · rcases hX with ⟨h, _⟩ | ⟨_, hnf, hc⟩
      · exact absurd h (Ne.symm eSB)
      · have hb := hull_t hF0 hnf
        subst hb
        obtain ⟨⟨e1, e2, e3⟩, e4, e5, e6, e7, e8, e9, e10, e11, ⟨V, e12, e13, e14⟩, e15⟩ := hF1 rfl
        have hc2 : rngB F.1 q1 = false := by rw [← e2]; exact hc
        refine ⟨_, ov, dv, rfl, ?_, fun h => absurd h r2_0⟩
        rw [hc2, goT_10]
        exact ⟨np, nh, true, bds, tx, ty, tz, xs, ys, zs, F, o, z, p, g, E, hx, hy, hz, S, co, G, sx, ax, ay, az, al, mo, sz, rn, rfl, rfl, hP, hB, hF0, hF1⟩
theorem ag_corner (l : Launch) (D : va_G) (cI cJ cF cD : ClassId) (htr : l.stackTraces = false) (ad ba fa ra : Nat → Nat) (oa od : Nat) : ∀ x y : Int32, AgI (Rl9 ad ba fa ra cI cJ cF) l D cI cJ cF cD oa od yL_corner wsL_corner ({ frames := 8, cells := 3, slots := 18, locals := 133 }) [.ref (ba 0), .int x, .int y, .ref oa] 3 18 yX4_corner wsX4_corner ({ frames := 1, cells := 0, slots := 0, locals := 22 }) [.ref (ad 0), .int x, .int y] := by
  intro q1 q2
  intro thr wm wb ov dv hR
  obtain ⟨np, nh, b, bds, tx, ty, tz, xs, ys, zs, F, o, z, p, g, E, hx, hy, hz, S, co, G, sx, ax, ay, az, al, mo, sz, rn, rfl, rfl, hP, hB, hF0, hF1⟩ := hR
  obtain ⟨⟨b1, b2, b3⟩, ⟨b4, b5, b6, b7, b8⟩, c1, c2, c3, c4, c5, c6⟩ := id hB
  refine ⟨_, _, l_corner l D cI cJ cF cD htr (h3_corner l D cI cJ cF cD htr q1 q2 c1.1 b1 c6 hP.1 c1.2.1 c4 c3 c5.1 c5.2) rfl ?_ ?_ ?_, c4_corner l D cI cJ cF cD q1 q2 (by omega) b4 b5 b6, ?_⟩
  · rintro E9 w9 ⟨(⟨h, _⟩ | ⟨h, _⟩), _⟩
    · exact Or.inl h
    · exact Or.inr h
  · rintro v9 w9 ⟨_, _, h⟩; rw [h]
  · rintro E9 w9 ⟨_, h⟩; rw [h]
  · rintro r w v wm' hC ⟨rfl, rfl⟩
    rcases hC with ⟨rfl, v', w0, ⟨⟨hnf, hc⟩, rfl, rfl⟩, rfl⟩ | ⟨rfl, w0, ⟨hX, rfl⟩, rfl⟩ | ⟨rfl, w0, ⟨hX, rfl⟩, rfl⟩
    · have hb := hull_t hF0 hnf
      subst hb
      obtain ⟨⟨e1, e2, e3⟩, e4, e5, e6, e7, e8, e9, e10, e11, ⟨V, e12, e13, e14⟩, e15⟩ := hF1 rfl
      obtain ⟨j, hj, hq, hqj⟩ := rngB_t (n := S.1) (by omega) (and_l hc)
      have f6 := e6 j (by omega)
      have hs : sz (S.2.1 q1.toNatClampNeg) = z (p q1.toNatClampNeg) := by rw [hqj]; exact f6.2.2.2.2.1
      rw [hs] at hc
      have hc2 : (rngB F.1 q1 && rngB (z (p q1.toNatClampNeg)) q2) = true := by rw [← e2]; exact hc
      refine ⟨_, _, dv, rfl, ?_, fun _ => ?_⟩
      · rw [hc2, goT_11]
        exact ⟨np, nh, true, bds, tx, ty, tz, xs, ys, zs, F, o, z, p, g, E, hx, hy, hz, S, co, G, sx, ax, ay, az, al, mo, sz, rn, rfl, rfl, hP, hB, hF0, hF1⟩
      · rw [updL_i, hc2, if_pos (by decide)]
        have hz24 := b5 (p q1.toNatClampNeg)
        obtain ⟨i, hi, _, hqi⟩ := rngB_t (n := z (p q1.toNatClampNeg)) (by omega) (and_r hc)
        rw [hqj] at hi ⊢
        rw [hqi, f6.2.2.2.2.2 i hi]
    · rcases hX with ⟨_, h0⟩ | ⟨h, _⟩
      · have hb := hull_f hF1 h0
        subst hb
        exact ⟨_, ov, dv, rfl, ⟨np, nh, false, bds, tx, ty, tz, xs, ys, zs, F, o, z, p, g, E, hx, hy, hz, S, co, G, sx, ax, ay, az, al, mo, sz, rn, rfl, rfl, hP, hB, hF0, hF1⟩, fun h => absurd h r1_0⟩
      · exact absurd h eSB
    · rcases hX with ⟨h, _⟩ | ⟨_, hnf, hc⟩
      · exact absurd h (Ne.symm eSB)
      · have hb := hull_t hF0 hnf
        subst hb
        obtain ⟨⟨e1, e2, e3⟩, e4, e5, e6, e7, e8, e9, e10, e11, ⟨V, e12, e13, e14⟩, e15⟩ := hF1 rfl
        have hc2 : (rngB F.1 q1 && rngB (z (p q1.toNatClampNeg)) q2) = false := by
          rw [← e2]
          cases hr : rngB S.1 q1 with
          | false => rfl
          | true =>
            rw [hr] at hc
            obtain ⟨j, hj, hq, hqj⟩ := rngB_t (n := S.1) (by omega) hr
            have hs : sz (S.2.1 q1.toNatClampNeg) = z (p q1.toNatClampNeg) := by rw [hqj]; exact (e6 j (by omega)).2.2.2.2.1
            rw [hs] at hc
            exact hc
        refine ⟨_, ov, dv, rfl, ?_, fun h => absurd h r2_0⟩
        rw [hc2, goT_10]
        exact ⟨np, nh, true, bds, tx, ty, tz, xs, ys, zs, F, o, z, p, g, E, hx, hy, hz, S, co, G, sx, ax, ay, az, al, mo, sz, rn, rfl, rfl, hP, hB, hF0, hF1⟩
theorem ag_edge (l : Launch) (D : va_G) (cI cJ cF cD : ClassId) (htr : l.stackTraces = false) (ad ba fa ra : Nat → Nat) (oa od : Nat) : ∀ x y : Int32, AgI (Rl9 ad ba fa ra cI cJ cF) l D cI cJ cF cD oa od yL_edge wsL_edge ({ frames := 8, cells := 3, slots := 18, locals := 135 }) [.ref (ba 0), .int x, .int y, .ref oa] 3 18 yX4_edge wsX4_edge ({ frames := 1, cells := 0, slots := 0, locals := 22 }) [.ref (ad 0), .int x, .int y] := by
  intro q1 q2
  intro thr wm wb ov dv hR
  obtain ⟨np, nh, b, bds, tx, ty, tz, xs, ys, zs, F, o, z, p, g, E, hx, hy, hz, S, co, G, sx, ax, ay, az, al, mo, sz, rn, rfl, rfl, hP, hB, hF0, hF1⟩ := hR
  obtain ⟨⟨b1, b2, b3⟩, ⟨b4, b5, b6, b7, b8⟩, c1, c2, c3, c4, c5, c6⟩ := id hB
  refine ⟨_, _, l_edge l D cI cJ cF cD htr (h3_edge l D cI cJ cF cD htr q1 q2 c1.1 b1 c6 hP.1 c1.2.1 c4 c3 c5.1 c5.2) rfl ?_ ?_ ?_, c4_edge l D cI cJ cF cD q1 q2 (by omega) (fun i => by have := b7 i; omega), ?_⟩
  · rintro E9 w9 ⟨(⟨h, _⟩ | ⟨h, _⟩), _⟩
    · exact Or.inl h
    · exact Or.inr h
  · rintro v9 w9 ⟨_, _, h⟩; rw [h]
  · rintro E9 w9 ⟨_, h⟩; rw [h]
  · rintro r w v wm' hC ⟨rfl, rfl⟩
    rcases hC with ⟨rfl, v', w0, ⟨⟨hnf, hc⟩, rfl, rfl⟩, rfl⟩ | ⟨rfl, w0, ⟨hX, rfl⟩, rfl⟩ | ⟨rfl, w0, ⟨hX, rfl⟩, rfl⟩
    · have hb := hull_t hF0 hnf
      subst hb
      obtain ⟨⟨e1, e2, e3⟩, e4, e5, e6, e7, e8, e9, e10, e11, ⟨V, e12, e13, e14⟩, e15⟩ := hF1 rfl
      have hc2 : (rngB E.1 q1 && whB 3 q2) = true := by rw [← e3, wh_rng (by decide)]; exact hc
      obtain ⟨j, hj, hq, hqj⟩ := rngB_t (n := G.1) (by omega) (and_l hc)
      have f7 := e7 j (by omega)
      refine ⟨_, _, dv, rfl, ?_, fun _ => ?_⟩
      · rw [hc2, goT_11]
        exact ⟨np, nh, true, bds, tx, ty, tz, xs, ys, zs, F, o, z, p, g, E, hx, hy, hz, S, co, G, sx, ax, ay, az, al, mo, sz, rn, rfl, rfl, hP, hB, hF0, hF1⟩
      · rw [updL_i, hc2, if_pos (by decide)]
        rw [hqj]
        unfold egC egV
        rw [f7.2.2.1, f7.2.2.2, f7.1, f7.2.1]
    · rcases hX with ⟨_, h0⟩ | ⟨h, _⟩
      · have hb := hull_f hF1 h0
        subst hb
        exact ⟨_, ov, dv, rfl, ⟨np, nh, false, bds, tx, ty, tz, xs, ys, zs, F, o, z, p, g, E, hx, hy, hz, S, co, G, sx, ax, ay, az, al, mo, sz, rn, rfl, rfl, hP, hB, hF0, hF1⟩, fun h => absurd h r1_0⟩
      · exact absurd h eSB
    · rcases hX with ⟨h, _⟩ | ⟨_, hnf, hc⟩
      · exact absurd h (Ne.symm eSB)
      · have hb := hull_t hF0 hnf
        subst hb
        obtain ⟨⟨e1, e2, e3⟩, e4, e5, e6, e7, e8, e9, e10, e11, ⟨V, e12, e13, e14⟩, e15⟩ := hF1 rfl
        have hc2 : (rngB E.1 q1 && whB 3 q2) = false := by rw [← e3, wh_rng (by decide)]; exact hc
        refine ⟨_, ov, dv, rfl, ?_, fun h => absurd h r2_0⟩
        rw [hc2, goT_10]
        exact ⟨np, nh, true, bds, tx, ty, tz, xs, ys, zs, F, o, z, p, g, E, hx, hy, hz, S, co, G, sx, ax, ay, az, al, mo, sz, rn, rfl, rfl, hP, hB, hF0, hF1⟩
theorem ag_support (l : Launch) (D : va_G) (cI cJ cF cD : ClassId) (htr : l.stackTraces = false) (ad ba fa ra : Nat → Nat) (oa od : Nat) : ∀ x y z : Int32, AgI (Rl9 ad ba fa ra cI cJ cF) l D cI cJ cF cD oa od yL_support wsL_support ({ frames := 8, cells := 2, slots := 12, locals := 136 }) [.ref (ba 0), .int x, .int y, .int z, .ref oa] 2 12 yX4_support wsX4_support ({ frames := 1, cells := 0, slots := 0, locals := 23 }) [.ref (ad 0), .int x, .int y, .int z] := by
  intro q1 q2 q3
  intro thr wm wb ov dv hR
  obtain ⟨np, nh, b, bds, tx, ty, tz, xs, ys, zs, F, o, z, p, g, E, hx, hy, hz, S, co, G, sx, ax, ay, az, al, mo, sz, rn, rfl, rfl, hP, hB, hF0, hF1⟩ := hR
  obtain ⟨⟨b1, b2, b3⟩, ⟨b4, b5, b6, b7, b8⟩, c1, c2, c3, c4, c5, c6⟩ := id hB
  refine ⟨_, _, l_support l D cI cJ cF cD htr (h3_support l D cI cJ cF cD htr q1 q2 q3 c1.1 b1 c6 hP.1 c1.2.1 c4 c3 c5.1 c5.2) rfl ?_ ?_ ?_, c4_support l D cI cJ cF cD q1 q2 q3 b1 (by omega) (fun i => by have := b7 i; omega), ?_⟩
  · rintro E9 w9 ⟨(⟨h, _⟩ | ⟨h, _⟩), _⟩
    · exact Or.inl h
    · exact Or.inr h
  · rintro v9 w9 ⟨_, _, h⟩; rw [h]
  · rintro E9 w9 ⟨_, h⟩; rw [h]
  · rintro r w v wm' hC ⟨rfl, rfl⟩
    rcases hC with ⟨rfl, v', w0, ⟨⟨hnf, hc⟩, rfl, rfl⟩, rfl⟩ | ⟨rfl, w0, ⟨hX, rfl⟩, rfl⟩ | ⟨rfl, w0, ⟨hX, rfl⟩, rfl⟩
    · have hb := hull_t hF0 hnf
      subst hb
      obtain ⟨⟨e1, e2, e3⟩, e4, e5, e6, e7, e8, e9, e10, e11, ⟨V, e12, e13, e14⟩, e15⟩ := hF1 rfl
      have hc2 := hc
      refine ⟨_, _, dv, rfl, ?_, fun _ => ?_⟩
      · rw [hc2, goT_11]
        exact ⟨np, nh, true, bds, tx, ty, tz, xs, ys, zs, F, o, z, p, g, E, hx, hy, hz, S, co, G, sx, ax, ay, az, al, mo, sz, rn, rfl, rfl, hP, hB, hF0, hF1⟩
      · rw [updL_i, hc2, if_pos (by decide)]
        have s1 : ∀ k, k < nh → hldB co k = icB E.1 E.2.1 (nI k) := by
          intro k hk
          rw [hldB_bt (by omega), Bool.eq_iff_iff, e8 k (by omega)]
          exact ⟨fun h => h.2, fun h => ⟨hk, h⟩⟩
        have s2 : ∀ k, k < nh → q1.toInt64 * (ax k).toInt64 + q2.toInt64 * (ay k).toInt64 + q3.toInt64 * (az k).toInt64 = q1.toInt64 * hx k + q2.toInt64 * hy k + q3.toInt64 * hz k := by
          intro k hk
          rw [(e9 k hk).1, (e9 k hk).2.1, (e9 k hk).2.2]
        rw [(sup_ok (ic := fun k => icB E.1 E.2.1 (nI k)) (d := fun k => q1.toInt64 * (ax k).toInt64 + q2.toInt64 * (ay k).toInt64 + q3.toInt64 * (az k).toInt64) (d' := fun k => q1.toInt64 * hx k + q2.toInt64 * hy k + q3.toInt64 * hz k) nh b1 s1 s2).1]
    · rcases hX with ⟨_, h0⟩ | ⟨h, _⟩
      · have hb := hull_f hF1 h0
        subst hb
        exact ⟨_, ov, dv, rfl, ⟨np, nh, false, bds, tx, ty, tz, xs, ys, zs, F, o, z, p, g, E, hx, hy, hz, S, co, G, sx, ax, ay, az, al, mo, sz, rn, rfl, rfl, hP, hB, hF0, hF1⟩, fun h => absurd h r1_0⟩
      · exact absurd h (Ne.symm eAS)
    · rcases hX with ⟨h, _⟩ | ⟨_, hnf, hc⟩
      · exact absurd h eAS
      · have hb := hull_t hF0 hnf
        subst hb
        obtain ⟨⟨e1, e2, e3⟩, e4, e5, e6, e7, e8, e9, e10, e11, ⟨V, e12, e13, e14⟩, e15⟩ := hF1 rfl
        have hc2 := hc
        refine ⟨_, ov, dv, rfl, ?_, fun h => absurd h r2_0⟩
        rw [hc2, goT_10]
        exact ⟨np, nh, true, bds, tx, ty, tz, xs, ys, zs, F, o, z, p, g, E, hx, hy, hz, S, co, G, sx, ax, ay, az, al, mo, sz, rn, rfl, rfl, hP, hB, hF0, hF1⟩
theorem ag_side (l : Launch) (D : va_G) (cI cJ cF cD : ClassId) (htr : l.stackTraces = false) (ad ba fa ra : Nat → Nat) (oa od : Nat) : ∀ x y z : Int32, AgI (Rl9 ad ba fa ra cI cJ cF) l D cI cJ cF cD oa od yL_side wsL_side ({ frames := 8, cells := 2, slots := 12, locals := 136 }) [.ref (ba 0), .int x, .int y, .int z, .ref oa] 2 12 yX4_side wsX4_side ({ frames := 1, cells := 0, slots := 0, locals := 22 }) [.ref (ad 0), .int x, .int y, .int z] := by
  intro q1 q2 q3
  intro thr wm wb ov dv hR
  obtain ⟨np, nh, b, bds, tx, ty, tz, xs, ys, zs, F, o, z, p, g, E, hx, hy, hz, S, co, G, sx, ax, ay, az, al, mo, sz, rn, rfl, rfl, hP, hB, hF0, hF1⟩ := hR
  obtain ⟨⟨b1, b2, b3⟩, ⟨b4, b5, b6, b7, b8⟩, c1, c2, c3, c4, c5, c6⟩ := id hB
  refine ⟨_, _, l_side l D cI cJ cF cD htr (h3_side l D cI cJ cF cD htr q1 q2 q3 c1.1 b1 c6 hP.1 c1.2.1 c4 c3 c5.1 c5.2) rfl ?_ ?_ ?_, c4_side l D cI cJ cF cD q1 q2 q3 (by omega) b4 b5 b6, ?_⟩
  · rintro E9 w9 ⟨(⟨h, _⟩ | ⟨h, _⟩), _⟩
    · exact Or.inl h
    · exact Or.inr h
  · rintro v9 w9 ⟨_, _, h⟩; rw [h]
  · rintro E9 w9 ⟨_, h⟩; rw [h]
  · rintro r w v wm' hC ⟨rfl, rfl⟩
    rcases hC with ⟨rfl, v', w0, ⟨⟨hnf, hc⟩, rfl, rfl⟩, rfl⟩ | ⟨rfl, w0, ⟨hX, rfl⟩, rfl⟩ | ⟨rfl, w0, ⟨hX, rfl⟩, rfl⟩
    · have hb := hull_t hF0 hnf
      subst hb
      obtain ⟨⟨e1, e2, e3⟩, e4, e5, e6, e7, e8, e9, e10, e11, ⟨V, e12, e13, e14⟩, e15⟩ := hF1 rfl
      have hc2 := hc
      refine ⟨_, _, dv, rfl, ?_, fun _ => ?_⟩
      · rw [hc2, goT_11]
        exact ⟨np, nh, true, bds, tx, ty, tz, xs, ys, zs, F, o, z, p, g, E, hx, hy, hz, S, co, G, sx, ax, ay, az, al, mo, sz, rn, rfl, rfl, hP, hB, hF0, hF1⟩
      · rw [updL_i, hc2, if_pos (by decide)]
        rw [← side_ok (d := fun f => F.2.1 f * q1.toInt64 + F.2.2.1 f * q2.toInt64 + F.2.2.2.1 f * q3.toInt64 - F.2.2.2.2 f) e4 e5, e2]
        congr 1
        apply lcI_cg
        intro j hj
        have f6 := e6 j hj
        have g1 : S.2.2.2.1 (S.2.1 j) = F.2.1 (p j) := f6.1
        have g2 : S.2.2.2.2.1 (S.2.1 j) = F.2.2.1 (p j) := f6.2.1
        have g3 : S.2.2.2.2.2.1 (S.2.1 j) = F.2.2.2.1 (p j) := f6.2.2.1
        have g4 : S.2.2.2.2.2.2.1 (S.2.1 j) = F.2.2.2.2 (p j) := f6.2.2.2.1
        show htL _ _ _ _ _ _ _ = _
        rw [g1, g2, g3, g4]
        rfl
    · rcases hX with ⟨_, h0⟩ | ⟨h, _⟩
      · have hb := hull_f hF1 h0
        subst hb
        exact ⟨_, ov, dv, rfl, ⟨np, nh, false, bds, tx, ty, tz, xs, ys, zs, F, o, z, p, g, E, hx, hy, hz, S, co, G, sx, ax, ay, az, al, mo, sz, rn, rfl, rfl, hP, hB, hF0, hF1⟩, fun h => absurd h r1_0⟩
      · exact absurd h (Ne.symm eAS)
    · rcases hX with ⟨h, _⟩ | ⟨_, hnf, hc⟩
      · exact absurd h eAS
      · have hb := hull_t hF0 hnf
        subst hb
        obtain ⟨⟨e1, e2, e3⟩, e4, e5, e6, e7, e8, e9, e10, e11, ⟨V, e12, e13, e14⟩, e15⟩ := hF1 rfl
        have hc2 := hc
        refine ⟨_, ov, dv, rfl, ?_, fun h => absurd h r2_0⟩
        rw [hc2, goT_10]
        exact ⟨np, nh, true, bds, tx, ty, tz, xs, ys, zs, F, o, z, p, g, E, hx, hy, hz, S, co, G, sx, ax, ay, az, al, mo, sz, rn, rfl, rfl, hP, hB, hF0, hF1⟩
theorem ag_centre (l : Launch) (D : va_G) (cI cJ cF cD : ClassId) (htr : l.stackTraces = false) (ad ba fa ra : Nat → Nat) (oa od : Nat) : ∀ x : Int32, AgL (Rl9 ad ba fa ra cI cJ cF) l D cI cJ cF cD oa od yL_centre wsL_centre ({ frames := 8, cells := 2, slots := 12, locals := 132 }) [.ref (ba 0), .int x, .ref oa] 2 12 yX4_centre wsX4_centre ({ frames := 1, cells := 0, slots := 0, locals := 32 }) [.ref (ad 0), .int x] := by
  intro q1
  intro thr wm wb ov dv hR
  obtain ⟨np, nh, b, bds, tx, ty, tz, xs, ys, zs, F, o, z, p, g, E, hx, hy, hz, S, co, G, sx, ax, ay, az, al, mo, sz, rn, rfl, rfl, hP, hB, hF0, hF1⟩ := hR
  obtain ⟨⟨b1, b2, b3⟩, ⟨b4, b5, b6, b7, b8⟩, c1, c2, c3, c4, c5, c6⟩ := id hB
  refine ⟨_, _, l_centre l D cI cJ cF cD htr (h3_centre l D cI cJ cF cD htr q1 c1.1 b1 c6 hP.1 c1.2.1 c4 c3 c5.1 c5.2) rfl ?_ ?_ ?_, c4_centre l D cI cJ cF cD q1 (by omega) b4 b5 b6, ?_⟩
  · rintro E9 w9 ⟨(⟨h, _⟩ | ⟨h, _⟩), _⟩
    · exact Or.inl h
    · exact Or.inr h
  · rintro v9 w9 ⟨_, _, h⟩; rw [h]
  · rintro E9 w9 ⟨_, h⟩; rw [h]
  · rintro r w v wm' hC ⟨rfl, rfl⟩
    rcases hC with ⟨rfl, v', w0, ⟨⟨hnf, hc⟩, rfl, rfl⟩, rfl⟩ | ⟨rfl, w0, ⟨hX, rfl⟩, rfl⟩ | ⟨rfl, w0, ⟨hX, rfl⟩, rfl⟩
    · have hb := hull_t hF0 hnf
      subst hb
      obtain ⟨⟨e1, e2, e3⟩, e4, e5, e6, e7, e8, e9, e10, e11, ⟨V, e12, e13, e14⟩, e15⟩ := hF1 rfl
      have hc2 : whB 2 q1 = true := by rw [wh_rng (by decide)]; exact hc
      obtain ⟨j, hj, hq, hqj⟩ := rngB_t (n := 3) (by decide) hc
      refine ⟨_, _, dv, rfl, ?_, fun _ => ?_⟩
      · rw [hc2, goT_11]
        exact ⟨np, nh, true, bds, tx, ty, tz, xs, ys, zs, F, o, z, p, g, E, hx, hy, hz, S, co, G, sx, ax, ay, az, al, mo, sz, rn, rfl, rfl, hP, hB, hF0, hF1⟩
      · rw [updL_i, hc2, if_pos (by decide)]
        rw [hqj, hq]
        exact e11 j hj
    · rcases hX with ⟨_, h0⟩ | ⟨h, _⟩
      · have hb := hull_f hF1 h0
        subst hb
        exact ⟨_, ov, dv, rfl, ⟨np, nh, false, bds, tx, ty, tz, xs, ys, zs, F, o, z, p, g, E, hx, hy, hz, S, co, G, sx, ax, ay, az, al, mo, sz, rn, rfl, rfl, hP, hB, hF0, hF1⟩, fun h => absurd h r1_0⟩
      · exact absurd h eSB
    · rcases hX with ⟨h, _⟩ | ⟨_, hnf, hc⟩
      · exact absurd h (Ne.symm eSB)
      · have hb := hull_t hF0 hnf
        subst hb
        obtain ⟨⟨e1, e2, e3⟩, e4, e5, e6, e7, e8, e9, e10, e11, ⟨V, e12, e13, e14⟩, e15⟩ := hF1 rfl
        have hc2 : whB 2 q1 = false := by rw [wh_rng (by decide)]; exact hc
        refine ⟨_, ov, dv, rfl, ?_, fun h => absurd h r2_0⟩
        rw [hc2, goT_10]
        exact ⟨np, nh, true, bds, tx, ty, tz, xs, ys, zs, F, o, z, p, g, E, hx, hy, hz, S, co, G, sx, ax, ay, az, al, mo, sz, rn, rfl, rfl, hP, hB, hF0, hF1⟩
theorem ag_middle (l : Launch) (D : va_G) (cI cJ cF cD : ClassId) (htr : l.stackTraces = false) (ad ba fa ra : Nat → Nat) (oa od : Nat) : ∀ x : Int32, AgD (Rl9 ad ba fa ra cI cJ cF) l D cI cJ cF cD oa od yL_middle wsL_middle ({ frames := 8, cells := 2, slots := 12, locals := 134 }) [.ref (ba 0), .int x, .ref od] 2 12 yX4_middle wsX4_middle ({ frames := 1, cells := 0, slots := 0, locals := 32 }) [.ref (ad 0), .int x] := by
  intro q1
  intro thr wm wb ov dv hR
  obtain ⟨np, nh, b, bds, tx, ty, tz, xs, ys, zs, F, o, z, p, g, E, hx, hy, hz, S, co, G, sx, ax, ay, az, al, mo, sz, rn, rfl, rfl, hP, hB, hF0, hF1⟩ := hR
  obtain ⟨⟨b1, b2, b3⟩, ⟨b4, b5, b6, b7, b8⟩, c1, c2, c3, c4, c5, c6⟩ := id hB
  have hm1 : S.1 ≠ 0 → vf_n64 (FP.dmul c4D (FP.l2d sx)) := fun h => by
    obtain ⟨_, _, _, _, _, _, _, _, _, ⟨V, e12, e13, e14⟩, _⟩ := hF1 (hull_t hF0 h)
    exact (md_ok e14 e12 e13 0).2.1
  have hm2 : S.1 ≠ 0 → ∀ k, vf_n64 (FP.ddiv (FP.l2d (mo k)) (FP.dmul c4D (FP.l2d sx))) := fun h k => by
    obtain ⟨_, _, _, _, _, _, _, _, _, ⟨V, e12, e13, e14⟩, _⟩ := hF1 (hull_t hF0 h)
    exact (md_ok e14 e12 e13 (mo k)).2.2.1
  have hm3 : (b && whB 2 q1) = true → vf_n64 (FP.ddiv (FP.l2d (sum1 o z hx hy hz q1 F.1)) (FP.l2d (4 * sum1 o z hx hy hz (-1) F.1))) := fun h => by
    obtain ⟨_, _, _, _, _, _, _, e10, _, ⟨V, e12, e13, e14⟩, _⟩ := hF1 (and_l h)
    rw [← e10]
    exact (md_ok e14 e12 e13 _).2.2.2
  refine ⟨_, _, l_middle l D cI cJ cF cD htr (h3_middle l D cI cJ cF cD htr q1 c1.1 b1 c6 hP.1 c1.2.1 c4 c3 c5.1 c5.2 hm1 hm2) rfl ?_ ?_ ?_, c4_middle l D cI cJ cF cD q1 (by omega) b4 b5 b6 hm3, ?_⟩
  · rintro E9 w9 ⟨(⟨h, _⟩ | ⟨h, _⟩), _⟩
    · exact Or.inl h
    · exact Or.inr h
  · rintro v9 w9 ⟨_, _, h⟩; rw [h]
  · rintro E9 w9 ⟨_, h⟩; rw [h]
  · rintro r w v wm' hC ⟨rfl, rfl⟩
    rcases hC with ⟨rfl, v', w0, ⟨⟨hnf, hc⟩, rfl, rfl⟩, rfl⟩ | ⟨rfl, w0, ⟨hX, rfl⟩, rfl⟩ | ⟨rfl, w0, ⟨hX, rfl⟩, rfl⟩
    · have hb := hull_t hF0 hnf
      subst hb
      obtain ⟨⟨e1, e2, e3⟩, e4, e5, e6, e7, e8, e9, e10, e11, ⟨V, e12, e13, e14⟩, e15⟩ := hF1 rfl
      have hc2 : whB 2 q1 = true := by rw [wh_rng (by decide)]; exact hc
      obtain ⟨j, hj, hq, hqj⟩ := rngB_t (n := 3) (by decide) hc
      refine ⟨_, ov, _, rfl, ?_, fun _ => ?_⟩
      · rw [hc2, goT_11]
        exact ⟨np, nh, true, bds, tx, ty, tz, xs, ys, zs, F, o, z, p, g, E, hx, hy, hz, S, co, G, sx, ax, ay, az, al, mo, sz, rn, rfl, rfl, hP, hB, hF0, hF1⟩
      · rw [vfu_i, hc2, if_pos (by decide)]
        rw [hqj, hq, ← e11 j hj, ← e10]
        exact (md_ok e14 e12 e13 (mo j)).1
    · rcases hX with ⟨_, h0⟩ | ⟨h, _⟩
      · have hb := hull_f hF1 h0
        subst hb
        exact ⟨_, ov, dv, rfl, ⟨np, nh, false, bds, tx, ty, tz, xs, ys, zs, F, o, z, p, g, E, hx, hy, hz, S, co, G, sx, ax, ay, az, al, mo, sz, rn, rfl, rfl, hP, hB, hF0, hF1⟩, fun h => absurd h r1_0⟩
      · exact absurd h eSB
    · rcases hX with ⟨h, _⟩ | ⟨_, hnf, hc⟩
      · exact absurd h (Ne.symm eSB)
      · have hb := hull_t hF0 hnf
        subst hb
        obtain ⟨⟨e1, e2, e3⟩, e4, e5, e6, e7, e8, e9, e10, e11, ⟨V, e12, e13, e14⟩, e15⟩ := hF1 rfl
        have hc2 : whB 2 q1 = false := by rw [wh_rng (by decide)]; exact hc
        refine ⟨_, ov, dv, rfl, ?_, fun h => absurd h r2_0⟩
        rw [hc2, goT_10]
        exact ⟨np, nh, true, bds, tx, ty, tz, xs, ys, zs, F, o, z, p, g, E, hx, hy, hz, S, co, G, sx, ax, ay, az, al, mo, sz, rn, rfl, rfl, hP, hB, hF0, hF1⟩
theorem ag_steps (l : Launch) (D : va_G) (cI cJ cF cD : ClassId) (htr : l.stackTraces = false) (ad ba fa ra : Nat → Nat) (oa od : Nat) : ∀ x y : Int32, AgI (Rl9 ad ba fa ra cI cJ cF) l D cI cJ cF cD oa od yL_steps wsL_steps ({ frames := 9, cells := 5, slots := 30, locals := 154 }) [.ref (ba 0), .int x, .int y, .ref oa] 5 30 yX4_steps wsX4_steps ({ frames := 1, cells := 0, slots := 0, locals := 23 }) [.ref (ad 0), .int x, .int y] := by
  intro q1 q2
  intro thr wm wb ov dv hR
  obtain ⟨np, nh, b, bds, tx, ty, tz, xs, ys, zs, F, o, z, p, g, E, hx, hy, hz, S, co, G, sx, ax, ay, az, al, mo, sz, rn, rfl, rfl, hP, hB, hF0, hF1⟩ := hR
  obtain ⟨⟨b1, b2, b3⟩, ⟨b4, b5, b6, b7, b8⟩, c1, c2, c3, c4, c5, c6⟩ := id hB
  have hcor : b = true → ((rngB 24 q1 && hldB co q1.toNatClampNeg) && (rngB 24 q2 && hldB co q2.toNatClampNeg)) = (rngB nh q1 && (rngB nh q2 && (icB E.1 E.2.1 q1 && icB E.1 E.2.1 q2))) := fun hb => by
    obtain ⟨_, _, _, _, _, e8, _⟩ := hF1 hb
    rw [cor_ok b1 e8 q1, cor_ok b1 e8 q2]
    cases rngB nh q1 <;> cases rngB nh q2 <;> cases icB E.1 E.2.1 q1 <;> cases icB E.1 E.2.1 q2 <;> rfl
  refine ⟨_, _, l_steps l D cI cJ cF cD htr (h3_steps l D cI cJ cF cD htr q1 q2 c1.1 b1 c6 hP.1 c1.2.1 c4 c3 c5.1 c5.2) rfl ?_ ?_ ?_, c4_steps l D cI cJ cF cD q1 q2 b1 (by omega) b7 b8, ?_⟩
  · rintro E9 w9 ⟨(⟨h, _⟩ | ⟨h, _⟩), _⟩
    · exact Or.inl h
    · exact Or.inr h
  · rintro v9 w9 ⟨_, _, h⟩; rw [h]
  · rintro E9 w9 ⟨_, h⟩; rw [h]
  · rintro r w v wm' hC ⟨rfl, rfl⟩
    rcases hC with ⟨rfl, v', w0, ⟨⟨hnf, hc⟩, rfl, rfl⟩, rfl⟩ | ⟨rfl, w0, ⟨hX, rfl⟩, rfl⟩ | ⟨rfl, w0, ⟨hX, rfl⟩, rfl⟩
    · have hb := hull_t hF0 hnf
      subst hb
      obtain ⟨⟨e1, e2, e3⟩, e4, e5, e6, e7, e8, e9, e10, e11, ⟨V, e12, e13, e14⟩, e15⟩ := hF1 rfl
      rw [hcor rfl] at hc
      have hc2 : (true && (rngB nh q1 && (rngB nh q2 && (icB E.1 E.2.1 q1 && icB E.1 E.2.1 q2)))) = true := by rw [hc]; rfl
      obtain ⟨i, hi, hqi, hqi2⟩ := rngB_t (n := nh) (by omega) (and_l hc)
      obtain ⟨j, hj, hqj, hqj2⟩ := rngB_t (n := nh) (by omega) (and_l (and_r hc))
      have k1 := and_l (and_r (and_r hc))
      have k2 := and_r (and_r (and_r hc))
      rw [hqi] at k1
      rw [hqj] at k2
      have hst := e15 g i j hi hj k1 k2
      have hB' : RlB nh F o z p (rlxN E.2.1 E.1 (farI g q1.toNatClampNeg nh) nh) E S G sz rn := ⟨⟨b1, b2, b3⟩, ⟨b4, b5, b6, b7, rlxN_le (farI_le _ _ b8) nh⟩, c1, c2, c3, c4, c5, c6⟩
      refine ⟨_, _, dv, rfl, ?_, fun _ => ?_⟩
      · rw [hc2, goT_11]
        exact ⟨np, nh, true, bds, tx, ty, tz, xs, ys, zs, F, o, z, p, rlxN E.2.1 E.1 (farI g q1.toNatClampNeg nh) nh, E, hx, hy, hz, S, co, G, sx, ax, ay, az, al, mo, sz, rn, rfl, rfl, hP, hB', hF0, hF1⟩
      · rw [updL_i, hc2, if_pos (by decide), hqi2, hqj2, hst]
    · rcases hX with ⟨_, h0⟩ | ⟨h, _⟩
      · have hb := hull_f hF1 h0
        subst hb
        exact ⟨_, ov, dv, rfl, ⟨np, nh, false, bds, tx, ty, tz, xs, ys, zs, F, o, z, p, g, E, hx, hy, hz, S, co, G, sx, ax, ay, az, al, mo, sz, rn, rfl, rfl, hP, hB, hF0, hF1⟩, fun h => absurd h r1_0⟩
      · exact absurd h eSB
    · rcases hX with ⟨h, _⟩ | ⟨_, hnf, hc⟩
      · exact absurd h (Ne.symm eSB)
      · have hb := hull_t hF0 hnf
        subst hb
        rw [hcor rfl] at hc
        have hc2 : (true && (rngB nh q1 && (rngB nh q2 && (icB E.1 E.2.1 q1 && icB E.1 E.2.1 q2)))) = false := by rw [hc]; rfl
        refine ⟨_, ov, dv, rfl, ?_, fun h => absurd h r2_0⟩
        rw [hc2, goT_10]
        exact ⟨np, nh, true, bds, tx, ty, tz, xs, ys, zs, F, o, z, p, g, E, hx, hy, hz, S, co, G, sx, ax, ay, az, al, mo, sz, rn, rfl, rfl, hP, hB, hF0, hF1⟩
theorem ag_volume (l : Launch) (D : va_G) (cI cJ cF cD : ClassId) (htr : l.stackTraces = false) (ad ba fa ra : Nat → Nat) (oa od : Nat) : AgL (Rl9 ad ba fa ra cI cJ cF) l D cI cJ cF cD oa od yL_volume wsL_volume ({ frames := 8, cells := 1, slots := 6, locals := 130 }) [.ref (ba 0), .ref oa] 1 6 yX4_volume wsX4_volume ({ frames := 1, cells := 0, slots := 0, locals := 32 }) [.ref (ad 0)] := by
  intro thr wm wb ov dv hR
  obtain ⟨np, nh, b, bds, tx, ty, tz, xs, ys, zs, F, o, z, p, g, E, hx, hy, hz, S, co, G, sx, ax, ay, az, al, mo, sz, rn, rfl, rfl, hP, hB, hF0, hF1⟩ := hR
  obtain ⟨⟨b1, b2, b3⟩, ⟨b4, b5, b6, b7, b8⟩, c1, c2, c3, c4, c5, c6⟩ := id hB
  refine ⟨_, _, l_volume l D cI cJ cF cD htr (h3_volume l D cI cJ cF cD htr c1.1 b1 c6 hP.1 c1.2.1 c4 c3 c5.1 c5.2) rfl ?_ ?_ ?_, c4_volume l D cI cJ cF cD (by omega) b4 b5 b6, ?_⟩
  · rintro E9 w9 ⟨⟨h, _⟩, _⟩; exact h
  · rintro v9 w9 ⟨_, _, h⟩; rw [h]
  · rintro E9 w9 ⟨_, h⟩; rw [h]
  · rintro r w v wm' hC ⟨rfl, rfl⟩
    rcases hC with ⟨rfl, v', w0, ⟨hnf, hv', rfl⟩, rfl⟩ | ⟨rfl, w0, ⟨⟨_, h0⟩, rfl⟩, rfl⟩
    · have hb := hull_t hF0 hnf
      subst hb
      obtain ⟨⟨e1, e2, e3⟩, e4, e5, e6, e7, e8, e9, e10, e11, ⟨V, e12, e13, e14⟩, e15⟩ := hF1 rfl
      refine ⟨_, _, dv, rfl, ?_, fun _ => ?_⟩
      · rw [goT_11]
        exact ⟨np, nh, true, bds, tx, ty, tz, xs, ys, zs, F, o, z, p, g, E, hx, hy, hz, S, co, G, sx, ax, ay, az, al, mo, sz, rn, rfl, rfl, hP, hB, hF0, hF1⟩
      · rw [updL_i, if_pos (by decide), hv']
        exact e10
    · have hb := hull_f hF1 h0
      subst hb
      exact ⟨_, ov, dv, rfl, ⟨np, nh, false, bds, tx, ty, tz, xs, ys, zs, F, o, z, p, g, E, hx, hy, hz, S, co, G, sx, ax, ay, az, al, mo, sz, rn, rfl, rfl, hP, hB, hF0, hF1⟩, fun h => absurd h r1_0⟩
theorem ag_count (l : Launch) (D : va_G) (cI cJ cF cD : ClassId) (htr : l.stackTraces = false) (ad ba fa ra : Nat → Nat) (oa od : Nat) : ∀ x : Int32, AgI (Rl9 ad ba fa ra cI cJ cF) l D cI cJ cF cD oa od yL_count wsL_count ({ frames := 7, cells := 1, slots := 6, locals := 111 }) [.ref (ba 0), .int x, .ref oa] 1 6 yX4_count wsX4_count ({ frames := 1, cells := 0, slots := 0, locals := 23 }) [.ref (ad 0), .int x] := by
  intro q1
  intro thr wm wb ov dv hR
  obtain ⟨np, nh, b, bds, tx, ty, tz, xs, ys, zs, F, o, z, p, g, E, hx, hy, hz, S, co, G, sx, ax, ay, az, al, mo, sz, rn, rfl, rfl, hP, hB, hF0, hF1⟩ := hR
  obtain ⟨⟨b1, b2, b3⟩, ⟨b4, b5, b6, b7, b8⟩, c1, c2, c3, c4, c5, c6⟩ := id hB
  refine ⟨_, _, l_count l D cI cJ cF cD htr (h3_count l D cI cJ cF cD htr q1 c1.1 b1 c6 hP.1 c1.2.1 c4 c3 c5.1 c5.2) rfl ?_ ?_ ?_, c4_count l D cI cJ cF cD q1 b1 (by omega) (fun i => by have := b7 i; omega), ?_⟩
  · rintro E9 w9 ⟨⟨h, _⟩, _⟩; exact h
  · rintro v9 w9 ⟨_, _, h⟩; rw [h]
  · rintro E9 w9 ⟨_, h⟩; rw [h]
  · rintro r w v wm' hC ⟨rfl, rfl⟩
    rcases hC with ⟨rfl, v', w0, ⟨hc, rfl, rfl⟩, rfl⟩ | ⟨rfl, w0, ⟨⟨_, hc⟩, rfl⟩, rfl⟩
    · have hc2 : whB 4 q1 = true := by rw [wh_rng (by decide)]; exact hc
      refine ⟨_, _, dv, rfl, ?_, fun _ => ?_⟩
      · rw [hc2, goT_11]
        exact ⟨np, nh, b, bds, tx, ty, tz, xs, ys, zs, F, o, z, p, g, E, hx, hy, hz, S, co, G, sx, ax, ay, az, al, mo, sz, rn, rfl, rfl, hP, hB, hF0, hF1⟩
      · rw [updL_i, hc2, if_pos (by decide)]
        congr 1
        unfold cnC cnV
        cases b with
        | true =>
          obtain ⟨⟨e1, e2, e3⟩, e4, e5, e6, e7, e8, _⟩ := hF1 rfl
          rw [e2, e3, cnt_ok b1 e8]
          simp
        | false =>
          obtain ⟨h1, h2, h3⟩ := hF0 rfl
          rw [h1, h2, h3, show bcF 0 = 0 by decide +kernel, nI0]
          simp
    · have hc2 : whB 4 q1 = false := by rw [wh_rng (by decide)]; exact hc
      refine ⟨_, ov, dv, rfl, ?_, fun h => absurd h r1_0⟩
      rw [hc2, goT_0]
      exact ⟨np, nh, b, bds, tx, ty, tz, xs, ys, zs, F, o, z, p, g, E, hx, hy, hz, S, co, G, sx, ax, ay, az, al, mo, sz, rn, rfl, rfl, hP, hB, hF0, hF1⟩
theorem ag_of (l : Launch) (D : va_G) (cI cJ cF cD : ClassId) (htr : l.stackTraces = false) (ad ba fa ra : Nat → Nat) (oa od : Nat) : ∀ x y : Int32, AgI (Rl9 ad ba fa ra cI cJ cF) l D cI cJ cF cD oa od yL_of wsL_of ({ frames := 8, cells := 2, slots := 12, locals := 133 }) [.ref (ba 0), .int x, .int y, .ref oa] 2 12 yX4_of wsX4_of ({ frames := 1, cells := 0, slots := 0, locals := 22 }) [.ref (ad 0), .int x, .int y] := by
  intro q1 q2
  intro thr wm wb ov dv hR
  obtain ⟨np, nh, b, bds, tx, ty, tz, xs, ys, zs, F, o, z, p, g, E, hx, hy, hz, S, co, G, sx, ax, ay, az, al, mo, sz, rn, rfl, rfl, hP, hB, hF0, hF1⟩ := hR
  obtain ⟨⟨b1, b2, b3⟩, ⟨b4, b5, b6, b7, b8⟩, c1, c2, c3, c4, c5, c6⟩ := id hB
  refine ⟨_, _, l_of l D cI cJ cF cD htr (h3_of l D cI cJ cF cD htr q1 q2 c1.1 b1 c6 hP.1 c1.2.1 c4 c3 c5.1 c5.2) rfl ?_ ?_ ?_, c4_of l D cI cJ cF cD q1 q2 hP.1, ?_⟩
  · rintro E9 w9 ⟨⟨h, _⟩, _⟩; exact h
  · rintro v9 w9 ⟨_, _, h⟩; rw [h]
  · rintro E9 w9 ⟨_, h⟩; rw [h]
  · rintro r w v wm' hC ⟨rfl, rfl⟩
    rcases hC with ⟨rfl, v', w0, ⟨hc, rfl, rfl⟩, rfl⟩ | ⟨rfl, w0, ⟨⟨_, hc⟩, rfl⟩, rfl⟩
    · have hc2 : (rngB np q1 && whB 2 q2) = true := by rw [wh_rng (by decide)]; exact hc
      refine ⟨_, _, dv, rfl, ?_, fun _ => ?_⟩
      · rw [hc2, goT_11]
        exact ⟨np, nh, b, bds, tx, ty, tz, xs, ys, zs, F, o, z, p, g, E, hx, hy, hz, S, co, G, sx, ax, ay, az, al, mo, sz, rn, rfl, rfl, hP, hB, hF0, hF1⟩
      · rw [updL_i, hc2, if_pos (by decide)]
    · have hc2 : (rngB np q1 && whB 2 q2) = false := by rw [wh_rng (by decide)]; exact hc
      refine ⟨_, ov, dv, rfl, ?_, fun h => absurd h r1_0⟩
      rw [hc2, goT_0]
      exact ⟨np, nh, b, bds, tx, ty, tz, xs, ys, zs, F, o, z, p, g, E, hx, hy, hz, S, co, G, sx, ax, ay, az, al, mo, sz, rn, rfl, rfl, hP, hB, hF0, hF1⟩
theorem ag_point (l : Launch) (D : va_G) (cI cJ cF cD : ClassId) (htr : l.stackTraces = false) (ad ba fa ra : Nat → Nat) (oa od : Nat) : ∀ x y z : Int32, AgI (Rl9 ad ba fa ra cI cJ cF) l D cI cJ cF cD oa od yL_point wsL_point ({ frames := 8, cells := 2, slots := 12, locals := 136 }) [.ref (ba 0), .int x, .int y, .int z, .ref oa] 2 12 yX4_point wsX4_point ({ frames := 1, cells := 0, slots := 0, locals := 25 }) [.ref (ad 0), .int x, .int y, .int z] := by
  intro q1 q2 q3
  intro thr wm wb ov dv hR
  obtain ⟨np, nh, b, bds, tx, ty, tz, xs, ys, zs, F, o, z, p, g, E, hx, hy, hz, S, co, G, sx, ax, ay, az, al, mo, sz, rn, rfl, rfl, hP, hB, hF0, hF1⟩ := hR
  obtain ⟨⟨b1, b2, b3⟩, ⟨b4, b5, b6, b7, b8⟩, c1, c2, c3, c4, c5, c6⟩ := id hB
  refine ⟨_, _, l_point l D cI cJ cF cD htr (h3_point l D cI cJ cF cD htr q1 q2 q3 hP.1) rfl ?_ ?_ ?_, c4_point l D cI cJ cF cD q1 q2 q3 hP.1, ?_⟩
  · rintro E9 w9 ⟨(⟨h, _⟩ | ⟨h, _⟩), _⟩
    · exact Or.inl h
    · exact Or.inr h
  · rintro v9 w9 ⟨_, _, h⟩; rw [h, wB_len, wB_len]
  · rintro E9 w9 ⟨_, h⟩; rw [h]
  · rintro r w v wm' hC ⟨rfl, rfl⟩
    rcases hC with ⟨rfl, v', w0, ⟨⟨hp, hn⟩, rfl, rfl⟩, rfl⟩ | ⟨rfl, w0, ⟨hX, rfl⟩, rfl⟩ | ⟨rfl, w0, ⟨hX, rfl⟩, rfl⟩
    · have hc : (ptB np xs ys zs q1 q2 q3 && decide (np < 24)) = true := by rw [hp, decide_eq_true hn]; rfl
      refine ⟨_, _, dv, rfl, ?_, fun _ => ?_⟩
      · rw [hc, if_pos (by decide), if_pos (by decide), if_pos (by decide), if_pos (by decide), hp, decide_eq_true hn, goT_11]
        exact ⟨np + 1, nh, b, bds, tx, ty, tz, upd xs np q1, upd ys np q2, upd zs np q3, F, o, z, p, g, E, hx, hy, hz, S, co, G, sx, ax, ay, az, al, mo, sz, rn, rfl, rfl, RlP_point hP hp hn, hB, hF0, hF1⟩
      · rw [updL_i, hc, if_pos (by decide)]
    · rcases hX with ⟨_, hp⟩ | ⟨h, _⟩
      · have hc : (ptB np xs ys zs q1 q2 q3 && decide (np < 24)) = false := by rw [hp]; rfl
        refine ⟨_, ov, dv, rfl, ?_, fun h => absurd h r1_0⟩
        rw [hc, if_neg (by decide), if_neg (by decide), if_neg (by decide), if_neg (by decide), hp, goT_0]
        exact ⟨np, nh, b, bds, tx, ty, tz, xs, ys, zs, F, o, z, p, g, E, hx, hy, hz, S, co, G, sx, ax, ay, az, al, mo, sz, rn, rfl, rfl, hP, hB, hF0, hF1⟩
      · exact absurd h eAS
    · rcases hX with ⟨h, _⟩ | ⟨_, hp, hn⟩
      · exact absurd h (Ne.symm eAS)
      · have hd : decide (np < 24) = false := decide_eq_false (by omega)
        have hc : (ptB np xs ys zs q1 q2 q3 && decide (np < 24)) = false := by rw [hp, hd]; rfl
        refine ⟨_, ov, dv, rfl, ?_, fun h => absurd h r2_0⟩
        rw [hc, if_neg (by decide), if_neg (by decide), if_neg (by decide), if_neg (by decide), hp, hd, goT_10]
        exact ⟨np, nh, b, bds, tx, ty, tz, xs, ys, zs, F, o, z, p, g, E, hx, hy, hz, S, co, G, sx, ax, ay, az, al, mo, sz, rn, rfl, rfl, hP, hB, hF0, hF1⟩
theorem ag_take (l : Launch) (D : va_G) (cI cJ cF cD : ClassId) (htr : l.stackTraces = false) (ad ba fa ra : Nat → Nat) (oa od : Nat) : ∀ x : Int32, AgI (Rl9 ad ba fa ra cI cJ cF) l D cI cJ cF cD oa od yL_take wsL_take ({ frames := 8, cells := 1, slots := 6, locals := 132 }) [.ref (ba 0), .int x, .ref oa] 1 6 yX4_take wsX4_take ({ frames := 1, cells := 0, slots := 0, locals := 22 }) [.ref (ad 0), .int x] := by
  intro q1
  intro thr wm wb ov dv hR
  obtain ⟨np, nh, b, bds, tx, ty, tz, xs, ys, zs, F, o, z, p, g, E, hx, hy, hz, S, co, G, sx, ax, ay, az, al, mo, sz, rn, rfl, rfl, hP, hB, hF0, hF1⟩ := hR
  obtain ⟨⟨b1, b2, b3⟩, ⟨b4, b5, b6, b7, b8⟩, c1, c2, c3, c4, c5, c6⟩ := id hB
  refine ⟨_, _, l_take l D cI cJ cF cD htr (h3_take l D cI cJ cF cD htr q1 hP.1) rfl ?_ ?_ ?_, c4_take l D cI cJ cF cD q1 hP.1, ?_⟩
  · rintro E9 w9 ⟨h, _⟩; exact h
  · rintro v9 w9 ⟨_, _, h⟩; rw [h, wB_len, wB_len]
  · rintro E9 w9 ⟨_, _, h⟩; rw [h]
  · rintro r w v wm' hC ⟨rfl, rfl⟩
    rcases hC with ⟨rfl, v', w0, ⟨hc, rfl, rfl⟩, rfl⟩ | ⟨rfl, w0, ⟨_, hc, rfl⟩, rfl⟩
    · obtain ⟨j, hj, hq, hqj⟩ := rngB_t (n := np) (by have := hP.1; omega) hc
      refine ⟨_, _, dv, rfl, ?_, fun _ => ?_⟩
      · rw [hc, if_pos (by decide), if_pos (by decide), if_pos (by decide), if_pos (by decide), goT_11]
        exact ⟨np - 1, nh, b, bds, tx, ty, tz, shfJ xs q1.toNatClampNeg (np - 1), shfJ ys q1.toNatClampNeg (np - 1), shfJ zs q1.toNatClampNeg (np - 1), F, o, z, p, g, E, hx, hy, hz, S, co, G, sx, ax, ay, az, al, mo, sz, rn, rfl, rfl, RlP_take hP (by rw [hqj]; exact hj), hB, hF0, hF1⟩
      · rw [updL_i, hc, if_pos (by decide)]
    · refine ⟨_, ov, dv, rfl, ?_, fun h => absurd h r1_0⟩
      rw [hc, if_neg (by decide), if_neg (by decide), if_neg (by decide), if_neg (by decide), goT_0]
      exact ⟨np, nh, b, bds, tx, ty, tz, xs, ys, zs, F, o, z, p, g, E, hx, hy, hz, S, co, G, sx, ax, ay, az, al, mo, sz, rn, rfl, rfl, hP, hB, hF0, hF1⟩
