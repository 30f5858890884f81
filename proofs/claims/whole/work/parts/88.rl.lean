/-! ===== the relation between the two worlds ===== -/
theorem wB_len {ba fa ra : Nat → Nat} {cI cJ cF : ClassId} {hb ps fc co ec asz : Int32} {sx : Int64} {tr : Nat} {pm : Nat → Nat} {xs ys zs ax ay az al : Nat → Int32} {el eh : Nat → Nat} {mo nx ny nz dd : Nat → Int64} {hd : Nat → Int32} {sz : Nat → Nat} {rn : Nat → Nat → Nat} : (wB ba fa ra cI cJ cF hb ps fc co ec asz sx tr pm xs ys zs ax ay az al el eh mo nx ny nz dd hd sz rn).length = 105 := by
  simp [wB, wBf]
def RlP (np : Nat) (xs ys zs : Nat → Int32) : Prop := np ≤ 24 ∧ Bd np xs ys zs ∧ zD (tI xs) (tI ys) (tI zs) np
def RlB (nh : Nat) (F : FT) (o z p g : Nat → Nat) (E : ET) (S : CT) (G : EC) (sz : Nat → Nat) (rn : Nat → Nat → Nat) : Prop := (nh ≤ 24 ∧ F.1 ≤ 44 ∧ E.1 ≤ 66) ∧ ((∀ i, o i < 24) ∧ (∀ i, z i ≤ 24) ∧ (∀ i, p i < 64) ∧ okE E.2.1 ∧ ∀ i, g i ≤ 99) ∧ invC S ∧ SL S ∧ (∀ x, sz x ≤ 24) ∧ (∀ x k, rn x k < 24) ∧ okC G ∧ G.1 ≤ 66
abbrev mW (ad : Nat → Nat) (cI cJ : ClassId) (thr : Int32) (np nh : Nat) (b : Bool) (bds : Int32) (tx ty tz : Int64) (xs ys zs : Nat → Int32) (F : FT) (o z p g : Nat → Nat) (E : ET) (hx hy hz : Nat → Int64) : va_W := wM ad cI cJ thr (nI np) (b2i b) bds (nI nh) (nI F.1) (nI E.1) tx ty tz xs ys zs (nA z) (nA o) (nA p) (nA E.2.1) E.2.2.1 E.2.2.2 (nA g) hx hy hz F.2.1 F.2.2.1 F.2.2.2.1 F.2.2.2.2
abbrev bW (ba fa ra : Nat → Nat) (cI cJ cF : ClassId) (np nh : Nat) (bds : Int32) (xs ys zs : Nat → Int32) (S : CT) (co : Int32) (G : EC) (sx : Int64) (ax ay az al : Nat → Int32) (mo : Nat → Int64) (sz : Nat → Nat) (rn : Nat → Nat → Nat) : va_W := wB ba fa ra cI cJ cF bds (nI np) (nI S.1) co (nI G.1) (nI nh) sx S.2.2.1 S.2.1 xs ys zs ax ay az al G.2.1 G.2.2 mo S.2.2.2.1 S.2.2.2.2.1 S.2.2.2.2.2.1 S.2.2.2.2.2.2.1 S.2.2.2.2.2.2.2 sz rn
def Rl9 (ad ba fa ra : Nat → Nat) (cI cJ cF : ClassId) (thr : Int32) (wm wb : va_W) : Prop := ∃ (np nh : Nat) (b : Bool) (bds : Int32) (tx ty tz : Int64) (xs ys zs : Nat → Int32) (F : FT) (o z p g : Nat → Nat) (E : ET) (hx hy hz : Nat → Int64) (S : CT) (co : Int32) (G : EC) (sx : Int64) (ax ay az al : Nat → Int32) (mo : Nat → Int64) (sz : Nat → Nat) (rn : Nat → Nat → Nat), wm = mW ad cI cJ thr np nh b bds tx ty tz xs ys zs F o z p g E hx hy hz ∧ wb = bW ba fa ra cI cJ cF np nh bds xs ys zs S co G sx ax ay az al mo sz rn ∧ RlP np xs ys zs ∧ RlB nh F o z p g E S G sz rn ∧ (b = false → S.1 = 0 ∧ G.1 = 0 ∧ co = 0) ∧ (b = true → Hul nh F o z p E hx hy hz S co G sx ax ay az al mo sz rn)
theorem Rl_birth (ad ba fa ra : Nat → Nat) (cI cJ cF : ClassId) : Rl9 ad ba fa ra cI cJ cF 0 (wM0 ad cI cJ) (wB1 ba fa ra cI cJ cF) := by
  refine ⟨0, 0, false, 0, 0, 0, 0, fun _ => 0, fun _ => 0, fun _ => 0, (0, fun _ => 0, fun _ => 0, fun _ => 0, fun _ => 0), fun _ => 0, fun _ => 0, fun _ => 0, fun _ => 0, (0, fun _ => 0, fun _ => 0, fun _ => 0), fun _ => 0, fun _ => 0, fun _ => 0, (0, pm1, 44, fun _ => 0, fun _ => 0, fun _ => 0, fun _ => 0, fun _ => 0), 0, (0, fun _ => 0, fun _ => 0), 0, fun _ => 0, fun _ => 0, fun _ => 0, fun _ => 0, fun _ => 0, fun _ => 0, fun _ _ => 0, rfl, rfl, ?_, ?_, fun _ => ⟨rfl, rfl, rfl⟩, fun h => absurd h (by decide)⟩
  · exact ⟨by omega, fun q hq => absurd hq (Nat.not_lt_zero q), fun q r hq => absurd hq (Nat.not_lt_zero q)⟩
  · refine ⟨⟨by decide, by decide, by decide⟩, ⟨fun _ => (by decide : (0 : Nat) < 24), fun _ => (by decide : (0 : Nat) ≤ 24), fun _ => (by decide : (0 : Nat) < 64), fun _ => (by decide : (0 : Nat) / 32 < 24 ∧ (0 : Nat) % 32 < 24), fun _ => (by decide : (0 : Nat) ≤ 99)⟩, ⟨by decide, ?_, by decide⟩, ⟨?_, ?_⟩, fun _ => (by decide : (0 : Nat) ≤ 24), fun _ _ => (by decide : (0 : Nat) < 24), ⟨fun _ => (by decide : (0 : Nat) < 24), fun _ => (by decide : (0 : Nat) < 24)⟩, by decide⟩
    · intro j
      show pm1 j < 45
      unfold pm1
      split <;> omega
    · intro i j hi hj e
      have e : pm1 i = pm1 j := e
      rw [show pm1 i = i from if_pos hi, show pm1 j = j from if_pos hj] at e
      exact e
    · intro i hi e
      have e : pm1 i = 44 := e
      rw [show pm1 i = i from if_pos hi] at e
      omega
theorem ag_thrown (l : Launch) (D : va_G) (cI cJ cF cD : ClassId) (ad ba fa ra : Nat → Nat) : AgT (Rl9 ad ba fa ra cI cJ cF) l D cI cJ cF cD (ad 0) := by
  intro thr wm wb hR
  obtain ⟨np, nh, b, bds, tx, ty, tz, xs, ys, zs, F, o, z, p, g, E, hx, hy, hz, S, co, G, sx, ax, ay, az, al, mo, sz, rn, rfl, rfl, _⟩ := hR
  exact ⟨⟨_, rfl⟩, c4_thrown l D cI cJ cF cD⟩
/-! points -/
theorem within_i {v : Int32} (h : withinB v (nI 512) = true) : -512 ≤ v.toInt ∧ v.toInt ≤ 512 := by
  simp only [withinB, Bool.and_eq_true, Bool.not_eq_true', decide_eq_false_iff_not] at h
  rw [Int32.lt_iff_toInt_lt, Int32.lt_iff_toInt_lt] at h
  have e1 : (-(nI 512)).toInt = -512 := by decide
  have e2 : (nI 512).toInt = 512 := by decide
  omega
theorem upd_same (f : Nat → Int32) (k : Nat) (x : Int32) : upd f k x k = x := by simp [upd]
theorem upd_other (f : Nat → Int32) {k j : Nat} (x : Int32) (h : j ≠ k) : upd f k x j = f j := by simp [upd, h]
theorem RlP_point {np : Nat} {xs ys zs : Nat → Int32} {x y z : Int32} (h : RlP np xs ys zs) (hp : ptB np xs ys zs x y z = true) (hn : np < 24) : RlP (np + 1) (upd xs np x) (upd ys np y) (upd zs np z) := by
  obtain ⟨h1, h2, h3⟩ := h
  unfold ptB at hp
  simp only [Bool.and_eq_true, Bool.not_eq_true'] at hp
  obtain ⟨⟨⟨w1, w2⟩, w3⟩, ht⟩ := hp
  have hne : ∀ q, q < np → ¬ (xs q = x ∧ ys q = y ∧ zs q = z) := by
    rintro q hq ⟨a, b, c⟩
    have : takB np xs ys zs x y z = true := anyB_iff.mpr ⟨q, hq, by simp [a, b, c]⟩
    rw [ht] at this
    cases this
  refine ⟨by omega, ?_, ?_⟩
  · intro q hq
    show (-512 ≤ (upd xs np x q).toInt ∧ (upd xs np x q).toInt ≤ 512) ∧ (-512 ≤ (upd ys np y q).toInt ∧ (upd ys np y q).toInt ≤ 512) ∧ (-512 ≤ (upd zs np z q).toInt ∧ (upd zs np z q).toInt ≤ 512)
    by_cases e : q = np
    · subst e
      rw [upd_same, upd_same, upd_same]
      exact ⟨within_i w1, within_i w2, within_i w3⟩
    · rw [upd_other _ _ e, upd_other _ _ e, upd_other _ _ e]
      exact h2 q (by omega)
  · intro q r hq hr hqr
    show (upd xs np x q).toInt ≠ (upd xs np x r).toInt ∨ (upd ys np y q).toInt ≠ (upd ys np y r).toInt ∨ (upd zs np z q).toInt ≠ (upd zs np z r).toInt
    have key : ∀ q, q < np → (xs q).toInt ≠ x.toInt ∨ (ys q).toInt ≠ y.toInt ∨ (zs q).toInt ≠ z.toInt := by
      intro q hq
      by_cases a : (xs q).toInt = x.toInt
      · by_cases b : (ys q).toInt = y.toInt
        · by_cases c : (zs q).toInt = z.toInt
          · exact absurd ⟨Int32.toInt_inj.mp a, Int32.toInt_inj.mp b, Int32.toInt_inj.mp c⟩ (hne q hq)
          · exact Or.inr (Or.inr c)
        · exact Or.inr (Or.inl b)
      · exact Or.inl a
    by_cases e : q = np
    · subst e
      rw [upd_same, upd_same, upd_same, upd_other _ _ (Ne.symm hqr), upd_other _ _ (Ne.symm hqr), upd_other _ _ (Ne.symm hqr)]
      rcases key r (by omega) with k | k | k
      · exact Or.inl (Ne.symm k)
      · exact Or.inr (Or.inl (Ne.symm k))
      · exact Or.inr (Or.inr (Ne.symm k))
    · rw [upd_other _ _ e, upd_other _ _ e, upd_other _ _ e]
      by_cases e2 : r = np
      · subst e2
        rw [upd_same, upd_same, upd_same]
        exact key q (by omega)
      · rw [upd_other _ _ e2, upd_other _ _ e2, upd_other _ _ e2]
        exact h3 q r (by omega) (by omega) hqr
theorem shf_at (f : Nat → Int32) (q J k : Nat) : shfJ f q J k = f (if q ≤ k ∧ k < J then k + 1 else k) := by
  simp only [shfJ]
  split <;> rfl
theorem RlP_take {np q : Nat} {xs ys zs : Nat → Int32} (h : RlP np xs ys zs) (hq : q < np) : RlP (np - 1) (shfJ xs q (np - 1)) (shfJ ys q (np - 1)) (shfJ zs q (np - 1)) := by
  obtain ⟨h1, h2, h3⟩ := h
  have hs : ∀ k, k < np - 1 → (if q ≤ k ∧ k < np - 1 then k + 1 else k) < np := by
    intro k hk
    split <;> omega
  refine ⟨by omega, ?_, ?_⟩
  · intro k hk
    show (-512 ≤ (shfJ xs q (np - 1) k).toInt ∧ (shfJ xs q (np - 1) k).toInt ≤ 512) ∧ (-512 ≤ (shfJ ys q (np - 1) k).toInt ∧ (shfJ ys q (np - 1) k).toInt ≤ 512) ∧ (-512 ≤ (shfJ zs q (np - 1) k).toInt ∧ (shfJ zs q (np - 1) k).toInt ≤ 512)
    rw [shf_at, shf_at, shf_at]
    exact h2 _ (hs k hk)
  · intro j k hj hk hjk
    show (shfJ xs q (np - 1) j).toInt ≠ (shfJ xs q (np - 1) k).toInt ∨ (shfJ ys q (np - 1) j).toInt ≠ (shfJ ys q (np - 1) k).toInt ∨ (shfJ zs q (np - 1) j).toInt ≠ (shfJ zs q (np - 1) k).toInt
    rw [shf_at, shf_at, shf_at, shf_at, shf_at, shf_at]
    refine h3 _ _ (hs j hj) (hs k hk) ?_
    split <;> split <;> omega
/-! the spare face may hold anything -/
theorem scr_inv {S : CT} (h : invC S) (v1 v2 v3 v4 : Int64) (w : Int32) : invC (scrC S v1 v2 v3 v4 w) := h
theorem scr_SL {S : CT} (h : SL S) (v1 v2 v3 v4 : Int64) (w : Int32) : SL (scrC S v1 v2 v3 v4 w) := h
theorem Hul_scr {nh : Nat} {F : FT} {o z p : Nat → Nat} {E : ET} {hx hy hz : Nat → Int64} {S : CT} {co : Int32} {G : EC} {sx : Int64} {ax ay az al : Nat → Int32} {mo : Nat → Int64} {sz : Nat → Nat} {rn : Nat → Nat → Nat} (H : Hul nh F o z p E hx hy hz S co G sx ax ay az al mo sz rn) (h44 : F.1 ≤ 44) (sl : SL S) (v1 v2 v3 v4 : Int64) (w : Int32) : Hul nh F o z p E hx hy hz (scrC S v1 v2 v3 v4 w) co G sx ax ay az al mo sz rn := by
  obtain ⟨a1, a2, a3, a4, a5⟩ := H
  refine ⟨a1, a2, a3, fun k hk => ?_, a5⟩
  obtain ⟨b1, b2, b3, b4, b5, b6⟩ := a4 k hk
  have hne : S.2.1 k ≠ S.2.2.1 := sl.2 k (by omega)
  refine ⟨?_, ?_, ?_, ?_, b5, b6⟩
  · show vp_updL S.2.2.2.1 S.2.2.1 v1 (S.2.1 k) = _
    rw [updL_at, if_neg hne]; exact b1
  · show vp_updL S.2.2.2.2.1 S.2.2.1 v2 (S.2.1 k) = _
    rw [updL_at, if_neg hne]; exact b2
  · show vp_updL S.2.2.2.2.2.1 S.2.2.1 v3 (S.2.1 k) = _
    rw [updL_at, if_neg hne]; exact b3
  · show vp_updL S.2.2.2.2.2.2.1 S.2.2.1 v4 (S.2.1 k) = _
    rw [updL_at, if_neg hne]; exact b4
