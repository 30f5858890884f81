/-! ===== what class and reference hold of a built hull ===== -/
def SJ (pm : Nat → Nat) (tr : Nat) : Prop := (∀ i j, i < 44 → j < 44 → pm i = pm j → i = j) ∧ ∀ i, i < 44 → pm i ≠ tr
theorem swp_sg (p : Nat → Nat) (k i : Nat) : swpN p (k + 1) k i = p (if i = k then k + 1 else if i = k + 1 then k else i) := by
  by_cases h1 : i = k
  · subst h1; rw [if_pos rfl, swp_a]
  · rw [if_neg h1]
    by_cases h2 : i = k + 1
    · subst h2; rw [if_pos rfl, swp_b]
    · rw [if_neg h2, swp_c p h1 h2]
theorem swp_SJ {pm : Nat → Nat} {tr k : Nat} (hk : k + 1 < 44) (h : SJ pm tr) : SJ (swpN pm (k + 1) k) tr := by
  have hs : ∀ i, i < 44 → (if i = k then k + 1 else if i = k + 1 then k else i) < 44 := by
    intro i hi
    split
    · omega
    · split <;> omega
  refine ⟨?_, ?_⟩
  · intro i j hi hj e
    rw [swp_sg, swp_sg] at e
    have := h.1 _ _ (hs i hi) (hs j hj) e
    split at this <;> split at this <;> (try split at this) <;> (try split at this) <;> omega
  · intro i hi
    rw [swp_sg]
    exact h.2 _ (hs i hi)
theorem insS_SJ {rk : Nat → Nat} {tr : Nat} : ∀ (k : Nat) (p : Nat → Nat), k < 44 → SJ p tr → SJ (insS rk k p) tr := by
  intro k
  induction k with
  | zero => intro p _ h; exact h
  | succ k ih =>
    intro p hk h
    simp only [insS]
    split
    · exact ih _ (by omega) (swp_SJ hk h)
    · exact h
theorem ordS_SJ {rk p : Nat → Nat} {tr : Nat} (h : SJ p tr) : ∀ k, k < 44 → SJ (ordS rk p k) tr := by
  intro k
  induction k with
  | zero => intro _; exact h
  | succ k ih => intro hk; exact insS_SJ _ _ hk (ih (by omega))
def okE (e : Nat → Nat) : Prop := ∀ i, e i / 32 < 24 ∧ e i % 32 < 24
theorem adE_ok {fr : Nat → Nat → Int32} {E : ET} {a b : Nat} (ha : a < 24) (hb : b < 24) (h : okE E.2.1) : okE (adE fr E a b).2.1 := by
  unfold adE
  split
  · exact h
  · intro i
    show (updN E.2.1 E.1 (32 * a + b)) i / 32 < 24 ∧ (updN E.2.1 E.1 (32 * a + b)) i % 32 < 24
    simp only [updN]
    split
    · omega
    · exact h i
theorem rowE_okE {fr : Nat → Nat → Int32} {a : Nat} {E : ET} {n : Nat} (hn : n ≤ 24) (h : okE E.2.1) : ∀ k, k ≤ n - (a + 1) → okE (rowE fr a E k).2.1 := by
  intro k
  induction k with
  | zero => intro _; exact h
  | succ k ih => intro hk; exact adE_ok (by omega) (by omega) (ih (by omega))
theorem edgE_okE {fr : Nat → Nat → Int32} {E : ET} {n : Nat} (hn : n ≤ 24) (h : okE E.2.1) : ∀ k, okE (edgE fr n E k).2.1 := by
  intro k
  induction k with
  | zero => exact h
  | succ k ih => exact rowE_okE hn ih _ (Nat.le_refl _)
def okC (E : EC) : Prop := (∀ i, E.2.1 i < 24) ∧ ∀ i, E.2.2 i < 24
theorem adC_ok {al : Nat → Int32} {E : EC} {a b : Nat} (ha : a < 24) (hb : b < 24) (h : okC E) : okC (adC al E a b) := by
  unfold adC
  split
  · exact h
  · split
    · exact h
    · refine ⟨fun i => ?_, fun i => ?_⟩
      · show updN E.2.1 E.1 a i < 24
        simp only [updN]
        split
        · exact ha
        · exact h.1 i
      · show updN E.2.2 E.1 b i < 24
        simp only [updN]
        split
        · exact hb
        · exact h.2 i
theorem rowC_okC {al : Nat → Int32} {a : Nat} {E : EC} {n : Nat} (hn : n ≤ 24) (h : okC E) : ∀ k, k ≤ n - (a + 1) → okC (rowC al a E k) := by
  intro k
  induction k with
  | zero => intro _; exact h
  | succ k ih => intro hk; exact adC_ok (by omega) (by omega) (ih (by omega))
theorem edgC_okC {al : Nat → Int32} {E : EC} {n : Nat} (hn : n ≤ 24) (h : okC E) : ∀ k, okC (edgC al n E k) := by
  intro k
  induction k with
  | zero => exact h
  | succ k ih => exact rowC_okC hn ih _ (Nat.le_refl _)
/-- a built hull, on both sides -/
def Hul (nh : Nat) (F : FT) (o z p : Nat → Nat) (E : ET) (hx hy hz : Nat → Int64) (S : CT) (co : Int32) (G : EC) (sx : Int64) (ax ay az al : Nat → Int32) (mo : Nat → Int64) (sz : Nat → Nat) (rn : Nat → Nat → Nat) : Prop :=
  (1 ≤ F.1 ∧ S.1 = F.1 ∧ G.1 = E.1) ∧
  (∀ k, k < F.1 → p k < F.1) ∧ (∀ f, f < F.1 → ∃ k, k < F.1 ∧ p k = f) ∧
  (∀ k, k < F.1 → cNx S (S.2.1 k) = F.2.1 (p k) ∧ cNy S (S.2.1 k) = F.2.2.1 (p k) ∧ cNz S (S.2.1 k) = F.2.2.2.1 (p k) ∧ cDd S (S.2.1 k) = F.2.2.2.2 (p k) ∧ sz (S.2.1 k) = z (p k) ∧ ∀ i, i < z (p k) → rn (S.2.1 k) i = o (24 * p k + i)) ∧
  (∀ k, k < E.1 → G.2.1 k = E.2.1 k / 32 ∧ G.2.2 k = E.2.1 k % 32 ∧ al (G.2.1 k * 24 + G.2.2 k) = E.2.2.1 k ∧ al (G.2.2 k * 24 + G.2.1 k) = E.2.2.2 k) ∧
  (∀ q, q < 32 → (bt co q = true ↔ q < nh ∧ icB E.1 E.2.1 (nI q) = true)) ∧
  Cpy nh ax ay az hx hy hz ∧
  sx = sum1 o z hx hy hz (-1) F.1 ∧ (∀ j, j < 3 → mo j = sum1 o z hx hy hz (nI j) F.1) ∧ (∃ V : Nat, 0 < V ∧ V < 2251799813685248 ∧ sx.toInt = (V : Int)) ∧
  ∀ (g : Nat → Nat) (a b : Nat), a < nh → b < nh → icB E.1 E.2.1 (nI a) = true → icB E.1 E.2.1 (nI b) = true → wlI G.2.1 G.2.2 G.1 (nI 1 <<< (nI a &&& 31)) b 25 0 = nI (rlxN E.2.1 E.1 (farI g a nh) nh b)
section M19a
variable {xs ys zs : Nat → Int32} {n : Nat} {hx hy hz : Nat → Int64} {F : FT} {S : CT} {o z p sz el eh : Nat → Nat} {rn : Nat → Nat → Nat} {v0 ml : Nat → Nat}
theorem Sld_sol (hS : Sld n xs ys zs) : ∀ A B C : Int, ∀ o, (A ≠ 0 ∨ B ≠ 0 ∨ C ≠ 0) → o < n → ∃ p, p < n ∧ zH (tI xs) (tI ys) (tI zs) A B C o p ≠ 0 := by
  intro A B C o hN _
  by_cases h : ∃ p, p < n ∧ zH (tI xs) (tI ys) (tI zs) A B C o p ≠ 0
  · exact h
  · exfalso
    have h0 : ∀ p, p < n → zH (tI xs) (tI ys) (tI zs) A B C o p = 0 := fun p hp => Classical.byContradiction (fun e => h ⟨p, hp, e⟩)
    obtain ⟨a, b, c, d, ha, hb, hc, hd, hV⟩ := hS
    exact hV (zV_plane hN (h0 a ha) (h0 b hb) (h0 c hc) (h0 d hd))
theorem T_pos (h : Bd n xs ys zs) (hD : zD (tI xs) (tI ys) (tI zs) n) (hS : Sld n xs ys zs) (S0 : zSF xs ys zs n F) : 1 ≤ F.1 := by
  obtain ⟨t, g, _, hg, _⟩ := zSome S0 h hD (by have := Sld_4 hS; omega) (Sld_sol hS)
  omega
/-- a picture of the reference's faces as the class has them -/
theorem S_ex (hn : n ≤ 24) : ∃ S : CT, SI xs ys zs n S F ∧ SL S := by
  refine ⟨(F.1, fun i => i, 44, F.2.1, F.2.2.1, F.2.2.2.1, F.2.2.2.2, fun k => btI (fun q => @ite Int64 (InF xs ys zs F k q) (Classical.propDecidable _) 0 1) n), ⟨rfl, fun k _ => ⟨rfl, rfl, rfl, rfl⟩, ?_⟩, fun i j _ _ e => e, fun i hi e => ?_⟩
  · intro k _ q hq
    show bt (btI (fun q => @ite Int64 (InF xs ys zs F k q) (Classical.propDecidable _) 0 1) n) q = true ↔ _
    rw [btI_bt n (by omega) q hq, Bool.and_eq_true, decide_eq_true_eq, decide_eq_true_eq]
    by_cases h : InF xs ys zs F k q
    · rw [if_pos h]
      exact ⟨fun a => ⟨a.1, h⟩, fun a => ⟨a.1, rfl⟩⟩
    · rw [if_neg h]
      exact ⟨fun a => absurd a.2 (by decide), fun a => absurd a.2 h⟩
  · have e2 : i = 44 := e
    omega
theorem ic_X (h : Bd n xs ys zs) (hD : zD (tI xs) (tI ys) (tI zs) n) (hn : n ≤ 24) (S0 : zSF xs ys zs n F) {fr : Nat → Nat → Int32} {E : ET} {G : EC} {al : Nat → Int32} (V : Egs xs ys zs n F fr E G al) {j : Nat} (hj : j < n) (hi : icB E.1 E.2.1 (nI j) = true) : ∃ f, f < F.1 ∧ ExF xs ys zs n F f j := by
  have h3 := (ic_iff h hD hn S0 V hj).mp hi
  obtain ⟨f, hf, i1⟩ := zC_pos (P := fun f => InF xs ys zs F f j) (n := F.1) (by omega)
  exact ⟨f, hf, (zCor S0 h hD hf hj i1).mp h3⟩
theorem grn_lt (hn : n ≤ 24) (W : wrpOK n S v0 ml) (hrn : ∀ x k, rn x k < 24) (co : Int32) : ∀ x k, grA S.2.1 ml (hsS n xs ys zs S co v0) rn S.1 x k < 24 :=
  grA_lt hrn (fun f hf k => hsN_lt (W.2.2 f hf).2.1 hn k) S.1 (Nat.le_refl _)
theorem hul_ok (h : Bd n xs ys zs) (hD : zD (tI xs) (tI ys) (tI zs) n) (hn : n ≤ 24) (e : Cpy n xs ys zs hx hy hz) (hSl : Sld n xs ys zs) (hM : MI xs ys zs n F) (S0 : zSF xs ys zs n F) (h44 : F.1 ≤ 44) (J : SI xs ys zs n S F) (sl : SL S) (W : wrpOK n S v0 ml) (hrn : ∀ x k, rn x k < 24) (al : Nat → Int32) (e9 : Nat → Nat) (hC : okC (0, el, eh)) (lf rt : Nat → Int32) (mo : Nat → Int64) :
    Hul n F (rgA o (rgF xs ys zs n F) (mlF xs ys zs n F) F.1) (szA z (mlF xs ys zs n F) F.1) (ordL (erlB (rgA o (rgF xs ys zs n F) (mlF xs ys zs n F) F.1)) p F.1)
      (edgE (frI (rgA o (rgF xs ys zs n F) (mlF xs ys zs n F) F.1) (szA z (mlF xs ys zs n F) F.1) (ordL (erlB (rgA o (rgF xs ys zs n F) (mlF xs ys zs n F) F.1)) p F.1) F.1) n (0, e9, lf, rt) n)
      hx hy hz (S.1, ordS (rkN (grA S.2.1 ml (hsS n xs ys zs S (coI S n) v0) rn S.1)) S.2.1 (S.1 - 1), S.2.2) (coI S n)
      (edgC (wyA (filI al (-1) 576) (ordS (rkN (grA S.2.1 ml (hsS n xs ys zs S (coI S n) v0) rn S.1)) S.2.1 (S.1 - 1)) (gzA S.2.1 ml sz S.1) (grA S.2.1 ml (hsS n xs ys zs S (coI S n) v0) rn S.1) S.1) n (0, el, eh) n)
      (msG xs ys zs (ordS (rkN (grA S.2.1 ml (hsS n xs ys zs S (coI S n) v0) rn S.1)) S.2.1 (S.1 - 1)) (gzA S.2.1 ml sz S.1) (grA S.2.1 ml (hsS n xs ys zs S (coI S n) v0) rn S.1) (0, filL mo 0 3) S.1).1
      xs ys zs (wyA (filI al (-1) 576) (ordS (rkN (grA S.2.1 ml (hsS n xs ys zs S (coI S n) v0) rn S.1)) S.2.1 (S.1 - 1)) (gzA S.2.1 ml sz S.1) (grA S.2.1 ml (hsS n xs ys zs S (coI S n) v0) rn S.1) S.1)
      (msG xs ys zs (ordS (rkN (grA S.2.1 ml (hsS n xs ys zs S (coI S n) v0) rn S.1)) S.2.1 (S.1 - 1)) (gzA S.2.1 ml sz S.1) (grA S.2.1 ml (hsS n xs ys zs S (coI S n) v0) rn S.1) (0, filL mo 0 3) S.1).2
      (gzA S.2.1 ml sz S.1) (grA S.2.1 ml (hsS n xs ys zs S (coI S n) v0) rn S.1) := by
  have h1 := T_pos h hD hSl S0
  have hn4 := Sld_4 hSl
  have B := blt_ok h hD hn hM S0 J sl h1 h44 o z p sz rn W
  have hr := grn_lt (xs := xs) (ys := ys) (zs := zs) hn W hrn (coI S n)
  have hS : S.1 = F.1 := J.1
  generalize hgr : grA S.2.1 ml (hsS n xs ys zs S (coI S n) v0) rn S.1 = rn' at *
  generalize hgz : gzA S.2.1 ml sz S.1 = sz' at *
  generalize hpm : ordS (rkN rn') S.2.1 (S.1 - 1) = pm' at *
  generalize hro : rgA o (rgF xs ys zs n F) (mlF xs ys zs n F) F.1 = o' at *
  generalize hsz : szA z (mlF xs ys zs n F) F.1 = z' at *
  generalize hp' : ordL (erlB o') p F.1 = p' at *
  rw [hS]
  have V := egs_ok h hD hn hn4 hM S0 h44 B hr al e9 el eh lf rt
  have hCC : okC (edgC (wyA (filI al (-1) 576) pm' sz' rn' F.1) n (0, el, eh) n) := edgC_okC hn hC n
  generalize wyA (filI al (-1) 576) pm' sz' rn' F.1 = al' at *
  generalize edgE (frI o' z' p' F.1) n (0, e9, lf, rt) n = E at *
  generalize edgC al' n (0, el, eh) n = G at *
  obtain ⟨m1, m2⟩ := ms_sum h hD e hM B mo
  obtain ⟨Vi, hV0, hVR⟩ := vol_R h hD hn e hM S0 h1 h44 B
  refine ⟨⟨h1, rfl, V.2.1.1.symm⟩, B.1, B.2.1, ?_, ?_, ?_, e, m1, m2, ?_, ?_⟩
  · intro k hk
    have b1 := B.2.2.1 k hk
    have b2 := B.1 k hk
    obtain ⟨j1, j2, j3, j4⟩ := J.2.1 (p' k) b2
    have b3 := B.2.2.2.1 (p' k) b2
    show cNx S (pm' k) = _ ∧ cNy S (pm' k) = _ ∧ cNz S (pm' k) = _ ∧ cDd S (pm' k) = _ ∧ sz' (pm' k) = _ ∧ ∀ i, i < z' (p' k) → rn' (pm' k) i = _
    rw [b1]
    refine ⟨j1, j2, j3, j4, by rw [b3.1, b3.2], fun i hi => ?_⟩
    have b4 := B.2.2.2.2.1 (p' k) i b2 (by rw [← b3.1]; exact hi)
    rw [b4.1, b4.2]
  · intro k hk
    obtain ⟨a, b, v1, v2, v3, v4, v5, v6, v7, _⟩ := V.2.1.2 k hk
    rw [v3, v4, v5, v6, v7, V.2.2.2.1 a b (by omega) v2, V.2.2.2.1 b a v2 (by omega)]
    exact ⟨by omega, by omega, rfl, rfl⟩
  · intro q hq
    rw [cor_bt hn J hq]
    constructor
    · rintro ⟨a, b⟩
      exact ⟨a, (ic_iff h hD hn S0 V a).mpr b⟩
    · rintro ⟨a, b⟩
      exact ⟨a, (ic_iff h hD hn S0 V a).mp b⟩
  · rw [m1]
    exact ⟨Vi.toNat, by omega, by have := hVR.2.2; omega, by rw [hVR.1]; omega⟩
  · intro g a b ha hb ia ib
    obtain ⟨fa, hfa, xa⟩ := ic_X h hD hn S0 V ha ia
    obtain ⟨fb, hfb, xb⟩ := ic_X h hD hn S0 V hb ib
    exact steps_ok h hD hn hn4 S0 V hCC.1 hCC.2 g hfa hfb xa xb
/-- what the reference's building needs -/
theorem bld_ok (h : Bd n xs ys zs) (hD : zD (tI xs) (tI ys) (tI zs) n) (hn : n ≤ 24) (e : Cpy n xs ys zs hx hy hz) (hSl : Sld n xs ys zs) (F0 : FT) (hF0 : F0.1 = 0) (o z p e9 : Nat → Nat) (lf rt : Nat → Int32) : bldOK n hx hy hz F0 o z p e9 lf rt (rgF xs ys zs n (tA n hx hy hz F0 n)) (mlF xs ys zs n (tA n hx hy hz F0 n)) := by
  obtain ⟨hM, S0⟩ := tA_S h e hSl F0 hF0
  have h44 := tA_44 h hD hn e hSl F0 hF0
  have h1 := T_pos h hD hSl S0
  have hn4 := Sld_4 hSl
  refine ⟨?_, ?_, by omega, fun f hf => rgF_ring h hD hn e hM hf, ?_⟩
  · intro a b c ha hb hc hzz
    rw [cx1 h e ha hb hc, cx2 h e ha hb hc, cx3 h e ha hb hc] at hzz ⊢
    have r1 := ac1 h ha hb hc
    have r2 := ac2 h ha hb hc
    have r3 := ac3 h ha hb hc
    have r := gcd3_R r1 r2 r3
    intro hg
    rw [r.eq0] at hg
    have hN : zN1 (tI xs) (tI ys) (tI zs) a b c ≠ 0 ∨ zN2 (tI xs) (tI ys) (tI zs) a b c ≠ 0 ∨ zN3 (tI xs) (tI ys) (tI zs) a b c ≠ 0 := by
      by_cases q1 : zN1 (tI xs) (tI ys) (tI zs) a b c = 0
      · by_cases q2 : zN2 (tI xs) (tI ys) (tI zs) a b c = 0
        · by_cases q3 : zN3 (tI xs) (tI ys) (tI zs) a b c = 0
          · rw [r1.eq0.mpr q1, r2.eq0.mpr q2, r3.eq0.mpr q3] at hzz
            exact absurd hzz (by decide)
          · exact Or.inr (Or.inr q3)
        · exact Or.inr (Or.inl q2)
      · exact Or.inl q1
    obtain ⟨q1, q2, q3, hP⟩ := PlR_ex 1 (Or.inl rfl) hN
    have := hP.2.1
    omega
  · intro a b c ha hb hc hab hbc
    have := tAll_le (n := n) (hx := hx) (hy := hy) (hz := hz) F0 ha hab hb hbc hc
    omega
  · intro a k ha hk
    obtain ⟨S, J, sl⟩ := S_ex (xs := xs) (ys := ys) (zs := zs) (F := tA n hx hy hz F0 n) hn
    have W := wrp_ex h hD hn hM S0 J h1
    have B := blt_ok h hD hn hM S0 J sl h1 h44 o z p (fun _ => 0) (fun _ _ => 0) W
    have h66 := edges_66 h hD hn hn4 hM S0 h44 B e9 lf rt
    have m1 := rowE_mono (fr := frI (rgA o (rgF xs ys zs n (tA n hx hy hz F0 n)) (mlF xs ys zs n (tA n hx hy hz F0 n)) (tA n hx hy hz F0 n).1) (szA z (mlF xs ys zs n (tA n hx hy hz F0 n)) (tA n hx hy hz F0 n).1) (ordL (erlB (rgA o (rgF xs ys zs n (tA n hx hy hz F0 n)) (mlF xs ys zs n (tA n hx hy hz F0 n)) (tA n hx hy hz F0 n).1)) p (tA n hx hy hz F0 n).1) (tA n hx hy hz F0 n).1) (a := a) (E := edgE (frI (rgA o (rgF xs ys zs n (tA n hx hy hz F0 n)) (mlF xs ys zs n (tA n hx hy hz F0 n)) (tA n hx hy hz F0 n).1) (szA z (mlF xs ys zs n (tA n hx hy hz F0 n)) (tA n hx hy hz F0 n).1) (ordL (erlB (rgA o (rgF xs ys zs n (tA n hx hy hz F0 n)) (mlF xs ys zs n (tA n hx hy hz F0 n)) (tA n hx hy hz F0 n).1)) p (tA n hx hy hz F0 n).1) (tA n hx hy hz F0 n).1) n (0, e9, lf, rt) a) (j := k) (k := n - (a + 1)) (by omega)
    have m2 := edgE_mono (fr := frI (rgA o (rgF xs ys zs n (tA n hx hy hz F0 n)) (mlF xs ys zs n (tA n hx hy hz F0 n)) (tA n hx hy hz F0 n).1) (szA z (mlF xs ys zs n (tA n hx hy hz F0 n)) (tA n hx hy hz F0 n).1) (ordL (erlB (rgA o (rgF xs ys zs n (tA n hx hy hz F0 n)) (mlF xs ys zs n (tA n hx hy hz F0 n)) (tA n hx hy hz F0 n).1)) p (tA n hx hy hz F0 n).1) (tA n hx hy hz F0 n).1) (n := n) (E := ((0, e9, lf, rt) : ET)) n (a + 1) (by omega)
    simp only [edgE] at m2
    omega
end M19a
