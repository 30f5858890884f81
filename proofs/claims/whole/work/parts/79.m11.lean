/-! ===== both make the same list of edges ===== -/
theorem rowE_cnt {fr : Nat → Nat → Int32} {a : Nat} {E : ET} : ∀ k, (rowE fr a E k).1 = E.1 + cntB k (fun i => !decide (fr a (a + 1 + i) < 0)) := by
  intro k
  induction k with
  | zero => rfl
  | succ k ih =>
    simp only [rowE, cntB, adE]
    by_cases h : fr a (a + 1 + k) < 0
    · rw [if_pos h, ih]; simp [h]
    · rw [if_neg h]; simp [h, ih]; omega
theorem edgE_cnt {fr : Nat → Nat → Int32} {n : Nat} {E : ET} : ∀ k, (edgE fr n E k).1 = E.1 + zSum k (fun a => cntB (n - (a + 1)) (fun i => !decide (fr a (a + 1 + i) < 0))) := by
  intro k
  induction k with
  | zero => rfl
  | succ k ih =>
    simp only [edgE, zSum]
    rw [rowE_cnt, ih]
    omega
theorem rowE_mono {fr : Nat → Nat → Int32} {a : Nat} {E : ET} {j k : Nat} (h : j ≤ k) : (rowE fr a E j).1 ≤ (rowE fr a E k).1 := by
  rw [rowE_cnt, rowE_cnt]
  have : ∀ k j, j ≤ k → cntB j (fun i => !decide (fr a (a + 1 + i) < 0)) ≤ cntB k (fun i => !decide (fr a (a + 1 + i) < 0)) := by
    intro k
    induction k with
    | zero => intro j hj; rw [show j = 0 by omega]; exact Nat.le_refl _
    | succ k ih =>
      intro j hj
      rcases Nat.lt_or_ge j (k + 1) with h | h
      · have := ih j (by omega)
        simp only [cntB]; omega
      · rw [show j = k + 1 by omega]; exact Nat.le_refl _
  have := this k j h
  omega
theorem edgE_mono {fr : Nat → Nat → Int32} {n : Nat} {E : ET} : ∀ k j, j ≤ k → (edgE fr n E j).1 ≤ (edgE fr n E k).1 := by
  intro k
  induction k with
  | zero => intro j hj; rw [show j = 0 by omega]; exact Nat.le_refl _
  | succ k ih =>
    intro j hj
    rcases Nat.lt_or_ge j (k + 1) with h | h
    · exact Nat.le_trans (ih j (by omega)) (rowE_mono (k := n - (k + 1)) (j := 0) (Nat.zero_le _))
    · rw [show j = k + 1 by omega]; exact Nat.le_refl _
/-- the same edges so far -/
def EV (fr : Nat → Nat → Int32) (n : Nat) (E : ET) (G : EC) : Prop := E.1 = G.1 ∧ ∀ k, k < E.1 → ∃ a b, a < b ∧ b < n ∧ E.2.1 k = 32 * a + b ∧ G.2.1 k = a ∧ G.2.2 k = b ∧ E.2.2.1 k = fr a b ∧ E.2.2.2 k = fr b a ∧ ¬ fr a b < 0
/-- nothing was forgotten -/
def EH (E : ET) (a b : Nat) : Prop := ∃ k, k < E.1 ∧ E.2.1 k = 32 * a + b
section M11a
variable {fr : Nat → Nat → Int32} {al : Nat → Int32} {n a b : Nat} {E : ET} {G : EC}
theorem ad_ok (hal : al (a * 24 + b) = fr a b) (hm : fr a b = -1 ↔ fr a b < 0) (hab : a < b) (hb : b < n) (V : EV fr n E G) (h66 : (adE fr E a b).1 ≤ 66) : EV fr n (adE fr E a b) (adC al G a b) ∧ (∀ x y, EH E x y → EH (adE fr E a b) x y) ∧ (¬ fr a b < 0 → EH (adE fr E a b) a b) := by
  unfold adE at *
  unfold adC
  rw [hal]
  by_cases h : fr a b < 0
  · rw [if_pos h, if_pos (hm.mpr h)]
    exact ⟨V, fun x y h => h, fun h9 => absurd h h9⟩
  · rw [if_neg h] at *
    rw [if_neg (fun e => h (hm.mp e))]
    have h66 : E.1 + 1 ≤ 66 := h66
    rw [if_neg (by rw [← V.1]; omega)]
    refine ⟨⟨by show E.1 + 1 = G.1 + 1; rw [V.1], fun k hk => ?_⟩, ?_, ?_⟩
    · have hk : k < E.1 + 1 := hk
      by_cases ek : k = E.1
      · subst ek
        refine ⟨a, b, hab, hb, ?_, ?_, ?_, ?_, ?_, h⟩
        · simp [updN]
        · simp [updN, V.1]
        · simp [updN, V.1]
        · simp [upd]
        · simp [upd]
      · obtain ⟨x, y, h1, h2, h3, h4, h5, h6, h7, h8⟩ := V.2 k (by omega)
        have ek2 : k ≠ G.1 := by rw [← V.1]; exact ek
        refine ⟨x, y, h1, h2, ?_, ?_, ?_, ?_, ?_, h8⟩
        · simp [updN, ek, h3]
        · simp [updN, ek2, h4]
        · simp [updN, ek2, h5]
        · simp [upd, ek, h6]
        · simp [upd, ek, h7]
    · rintro x y ⟨k, hk, e⟩
      have : k ≠ E.1 := by omega
      exact ⟨k, by show k < E.1 + 1; omega, by simp [updN, this, e]⟩
    · intro _
      exact ⟨E.1, by show E.1 < E.1 + 1; omega, by simp [updN]⟩
theorem row_ok (hal : ∀ b, b < n → al (a * 24 + b) = fr a b) (hm : ∀ b, fr a b = -1 ↔ fr a b < 0) (V : EV fr n E G) : ∀ k, k ≤ n - (a + 1) → (rowE fr a E k).1 ≤ 66 → EV fr n (rowE fr a E k) (rowC al a G k) ∧ (∀ x y, EH E x y → EH (rowE fr a E k) x y) ∧ ∀ b, a < b → b < a + 1 + k → ¬ fr a b < 0 → EH (rowE fr a E k) a b := by
  intro k
  induction k with
  | zero => intro _ _; exact ⟨V, fun x y h => h, fun b h1 h2 => by omega⟩
  | succ k ih =>
    intro hk h66
    obtain ⟨i1, i2, i3⟩ := ih (by omega) (Nat.le_trans (rowE_mono (j := k) (k := k + 1) (by omega)) h66)
    obtain ⟨j1, j2, j3⟩ := ad_ok (hal (a + 1 + k) (by omega)) (hm _) (by omega) (by omega) i1 h66
    refine ⟨j1, fun x y h => j2 x y (i2 x y h), fun b h1 h2 h3 => ?_⟩
    by_cases e : b = a + 1 + k
    · subst e; exact j3 h3
    · exact j2 a b (i3 b h1 (by omega) h3)
theorem edg_ok (hn : n ≤ 24) (hal : ∀ a b, a < n → b < n → al (a * 24 + b) = fr a b) (hm : ∀ a b, fr a b = -1 ↔ fr a b < 0) (V : EV fr n E G) : ∀ k, k ≤ n → (edgE fr n E k).1 ≤ 66 → EV fr n (edgE fr n E k) (edgC al n G k) ∧ (∀ x y, EH E x y → EH (edgE fr n E k) x y) ∧ ∀ a b, a < k → a < b → b < n → ¬ fr a b < 0 → EH (edgE fr n E k) a b := by
  intro k
  induction k with
  | zero => intro _ _; exact ⟨V, fun x y h => h, fun a b h1 => by omega⟩
  | succ k ih =>
    intro hk h66
    obtain ⟨i1, i2, i3⟩ := ih (by omega) (Nat.le_trans (edgE_mono (k + 1) k (by omega)) h66)
    obtain ⟨j1, j2, j3⟩ := row_ok (a := k) (fun b hb => hal k b (by omega) hb) (hm k) i1 (n - (k + 1)) (Nat.le_refl _) h66
    refine ⟨j1, fun x y h => j2 x y (i2 x y h), fun a b h1 h2 h3 h4 => ?_⟩
    by_cases e : a = k
    · subst e; exact j3 b h2 (by omega) h4
    · exact j2 a b (i3 a b (by omega) h2 h3 h4)
end M11a
section M11b
variable {xs ys zs : Nat → Int32} {n f : Nat} {F : FT} {S : CT} {pm sz o z p : Nat → Nat} {rn : Nat → Nat → Nat}
theorem edges_66 (h : Bd n xs ys zs) (hD : zD (tI xs) (tI ys) (tI zs) n) (hn : n ≤ 24) (hn4 : 4 ≤ n) (hM : MI xs ys zs n F) (S0 : zSF xs ys zs n F) (h44 : F.1 ≤ 44) (B : Blt xs ys zs n F S pm sz rn o z p) (e9 : Nat → Nat) (lf rt : Nat → Int32) : (edgE (frI o z p F.1) n (0, e9, lf, rt) n).1 ≤ 66 := by
  rw [edgE_cnt]
  have k := zEdges S0 h hD (by omega)
  have : zSum n (fun a => cntB (n - (a + 1)) (fun i => !decide (frI o z p F.1 a (a + 1 + i) < 0))) ≤ zSum n (fun a => zC n (fun b => a < b ∧ zDart (tI xs) (tI ys) (tI zs) n (fA F) (fB F) (fC F) (fD F) F.1 a b)) := by
    apply zSum_le
    intro a ha
    rw [cntB_zC]
    refine zC_map (R := fun i b => b = a + 1 + i) n (n - (a + 1)) ?_ ?_
    · intro i hi hp
      simp only [Bool.not_eq_true', decide_eq_false_iff_not] at hp
      exact ⟨a + 1 + i, by omega, ⟨by omega, (fr_dart h hD hM h44 B a (a + 1 + i)).mp hp⟩, rfl⟩
    · intro i i' j _ _ _ _ e1 e2; omega
  show 0 + _ ≤ 66
  omega
/-- the edges, on both sides, when all is built -/
def Egs (xs ys zs : Nat → Int32) (n : Nat) (F : FT) (fr : Nat → Nat → Int32) (E : ET) (G : EC) (al : Nat → Int32) : Prop := E.1 ≤ 66 ∧ EV fr n E G ∧ (∀ a b, a < b → b < n → zDart (tI xs) (tI ys) (tI zs) n (fA F) (fB F) (fC F) (fD F) F.1 a b → EH E a b) ∧ (∀ a b, a < n → b < n → al (a * 24 + b) = fr a b) ∧ ∀ a b, ¬ fr a b < 0 → zDart (tI xs) (tI ys) (tI zs) n (fA F) (fB F) (fC F) (fD F) F.1 a b
theorem egs_ok (h : Bd n xs ys zs) (hD : zD (tI xs) (tI ys) (tI zs) n) (hn : n ≤ 24) (hn4 : 4 ≤ n) (hM : MI xs ys zs n F) (S0 : zSF xs ys zs n F) (h44 : F.1 ≤ 44) (B : Blt xs ys zs n F S pm sz rn o z p) (hr : ∀ x k, rn x k < 24) (al : Nat → Int32) (e9 el eh : Nat → Nat) (lf rt : Nat → Int32) : Egs xs ys zs n F (frI o z p F.1) (edgE (frI o z p F.1) n (0, e9, lf, rt) n) (edgC (wyA (filI al (-1) 576) pm sz rn F.1) n (0, el, eh) n) (wyA (filI al (-1) 576) pm sz rn F.1) := by
  have h66 := edges_66 h hD hn hn4 hM S0 h44 B e9 lf rt
  have hal : ∀ a b, a < n → b < n → wyA (filI al (-1) 576) pm sz rn F.1 (a * 24 + b) = frI o z p F.1 a b := fun a b ha hb => way_fr B (fun f hf => (rgF_ok h hD hM hf).1) hr al (by omega) (by omega)
  have hm : ∀ a b, frI o z p F.1 a b = -1 ↔ frI o z p F.1 a b < 0 := fun a b => lstI_m1 F.1 (by omega)
  have V0 : EV (frI o z p F.1) n ((0, e9, lf, rt) : ET) ((0, el, eh) : EC) := ⟨rfl, fun k hk => absurd hk (Nat.not_lt_zero k)⟩
  obtain ⟨k1, k2, k3⟩ := edg_ok hn hal hm V0 n (Nat.le_refl _) h66
  refine ⟨h66, k1, fun a b hab hb hd => ?_, hal, fun a b hf => (fr_dart h hD hM h44 B a b).mp hf⟩
  exact k3 a b (by omega) hab hb ((fr_dart h hD hM h44 B a b).mpr hd)
/-- an end of an edge is a corner -/
theorem ic_iff (h : Bd n xs ys zs) (hD : zD (tI xs) (tI ys) (tI zs) n) (hn : n ≤ 24) (S0 : zSF xs ys zs n F) {fr : Nat → Nat → Int32} {E : ET} {G : EC} {al : Nat → Int32} (V : Egs xs ys zs n F fr E G al) {j : Nat} (hj : j < n) : icB E.1 E.2.1 (nI j) = true ↔ 3 ≤ zC F.1 (fun f => InF xs ys zs F f j) := by
  obtain ⟨v1, v2, v3, v4, v5⟩ := V
  unfold icB
  rw [anyB_iff]
  constructor
  · rintro ⟨k, hk, hd⟩
    obtain ⟨a, b, hab, hb, e1, e2, e3, e4, e5, e6⟩ := v2.2 k hk
    obtain ⟨f, hf, hE⟩ := v5 a b e6
    rw [e1, Bool.or_eq_true, decide_eq_true_eq, decide_eq_true_eq, nI_eq (by omega) (by omega), nI_eq (by omega) (by omega)] at hd
    rcases hd with hd | hd
    · have : a = j := by omega
      subst this
      exact (zCor S0 h hD hf hj hE.2.2.2.1).mpr (zE_X1 h hD hE)
    · have : b = j := by omega
      subst this
      exact (zCor S0 h hD hf hj hE.2.2.2.2.1).mpr (zE_X2 h hD hE)
  · intro h3
    obtain ⟨f, hf, i1⟩ := zC_pos (P := fun f => InF xs ys zs F f j) (n := F.1) (by omega)
    have hX := (zCor S0 h hD hf hj i1).mp h3
    have hF := (S0.1 f hf).1
    obtain ⟨b, hb⟩ := zSucc hD (zF_ne hF) hX (zOther hF j)
    rcases Nat.lt_or_gt_of_ne hb.2.2.1 with hlt | hlt
    · obtain ⟨k, hk, e⟩ := v3 j b hlt hb.2.1 ⟨f, hf, hb⟩
      refine ⟨k, hk, ?_⟩
      have : b < 24 := by have := hb.2.1; omega
      rw [e, Bool.or_eq_true, decide_eq_true_eq]
      left
      congr 1
      omega
    · obtain ⟨k, hk, e⟩ := v3 b j hlt hj (zDart_sym S0 hD ⟨f, hf, hb⟩)
      refine ⟨k, hk, ?_⟩
      rw [e, Bool.or_eq_true, decide_eq_true_eq, decide_eq_true_eq]
      right
      congr 1
      omega
end M11b
