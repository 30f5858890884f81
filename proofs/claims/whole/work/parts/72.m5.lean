/-! ===== the reference's rings ===== -/
noncomputable def zMin (P : Nat → Prop) : Nat := @dite Nat (∃ k, P k) (Classical.propDecidable _) (fun h => (leastN P h).choose) (fun _ => 0)
theorem zMin_spec {P : Nat → Prop} (h : ∃ k, P k) : P (zMin P) ∧ ∀ j, j < zMin P → ¬ P j := by
  unfold zMin
  rw [dif_pos h]
  exact (leastN P h).choose_spec
theorem fstI_t {n : Nat} {p : Nat → Bool} {j : Nat} (hj : j < n) (hp : p j = true) : ∀ k i, i ≤ j → j < i + k → (∀ q, i ≤ q → q < j → p q = false) → fstI n p k i = nI j := by
  intro k
  induction k with
  | zero => intro i h1 h2; omega
  | succ k ih =>
    intro i h1 h2 h3
    simp only [fstI]
    rw [if_pos (by omega)]
    by_cases e : i = j
    · subst e; rw [if_pos hp]
    · rw [if_neg (by rw [h3 i (by omega) (by omega)]; simp)]
      exact ih (i + 1) (by omega) (by omega) (fun q h4 h5 => h3 q (by omega) h5)
theorem fstI_f {n : Nat} {p : Nat → Bool} (h : ∀ q, q < n → p q = false) : ∀ k i, fstI n p k i = -1 := by
  intro k
  induction k with
  | zero => intro i; rfl
  | succ k ih =>
    intro i
    simp only [fstI]
    split
    · rename_i hi
      rw [if_neg (by rw [h i hi]; simp)]
      exact ih (i + 1)
    · rfl
section M5a
variable {xs ys zs : Nat → Int32} {n f a b c p : Nat} {hx hy hz : Nat → Int64} {F : FT}
abbrev EdF (xs ys zs : Nat → Int32) (n : Nat) (F : FT) (f a b : Nat) : Prop := zE (tI xs) (tI ys) (tI zs) n (fA F f) (fB F f) (fC F f) (fD F f) a b
abbrev ExF (xs ys zs : Nat → Int32) (n : Nat) (F : FT) (f a : Nat) : Prop := zX (tI xs) (tI ys) (tI zs) n (fA F f) (fB F f) (fC F f) (fD F f) a
theorem fR (hM : MI xs ys zs n F) (hf : f < F.1) : R64 (F.2.1 f) (fA F f) 2097152 ∧ R64 (F.2.2.1 f) (fB F f) 2097152 ∧ R64 (F.2.2.2.1 f) (fC F f) 2097152 ∧ R64 (F.2.2.2.2 f) (fD F f) 3221225472 := by
  obtain ⟨-, -, h1, h2, h3, h4⟩ := hM.1 f hf
  exact ⟨⟨rfl, h1.1, h1.2⟩, ⟨rfl, h2.1, h2.2⟩, ⟨rfl, h3.1, h3.2⟩, ⟨rfl, h4.1, h4.2⟩⟩
theorem inB_iff (h : Bd n xs ys zs) (e : Cpy n xs ys zs hx hy hz) (hM : MI xs ys zs n F) (hf : f < F.1) (hp : p < n) : inB F hx hy hz f p = true ↔ InF xs ys zs F f p := by
  obtain ⟨r1, r2, r3, r4⟩ := fR hM hf
  unfold inB InF zI
  rw [(e p hp).1, (e p hp).2.1, (e p hp).2.2, beq_iff_eq]
  exact ((((r1.mul (R64.i32 (h.x hp)) (by decide)).add (r2.mul (R64.i32 (h.y hp)) (by decide)) (by decide)).add (r3.mul (R64.i32 (h.z hp)) (by decide)) (by decide))).iff r4
theorem lft_R (h : Bd n xs ys zs) (e : Cpy n xs ys zs hx hy hz) (hM : MI xs ys zs n F) (hf : f < F.1) (ha : a < n) (hb : b < n) (hc : c < n) : R64 (lft F hx hy hz f a b c) (zO (tI xs) (tI ys) (tI zs) (fA F f) (fB F f) (fC F f) a b c) 13194139533312 := by
  obtain ⟨r1, r2, r3, r4⟩ := fR hM hf
  unfold lft
  rw [cx1 h e ha hb hc, cx2 h e ha hb hc, cx3 h e ha hb hc]
  refine (((((ac1 h ha hb hc).mul r1 (by decide)).add ((ac2 h ha hb hc).mul r2 (by decide)) (by decide)).add ((ac3 h ha hb hc).mul r3 (by decide)) (by decide))).to ?_
  unfold zO
  grind
theorem btw_R (h : Bd n xs ys zs) (e : Cpy n xs ys zs hx hy hz) (ha : a < n) (hb : b < n) (hc : c < n) : R64 (btw hx hy hz a b c) (zB (tI xs) (tI ys) (tI zs) a b c) 3145728 := by
  unfold btw
  rw [(e a ha).1, (e a ha).2.1, (e a ha).2.2, (e b hb).1, (e b hb).2.1, (e b hb).2.2, (e c hc).1, (e c hc).2.1, (e c hc).2.2]
  have d : ∀ {x y : Int32}, (-512 ≤ x.toInt ∧ x.toInt ≤ 512) → (-512 ≤ y.toInt ∧ y.toInt ≤ 512) → R64 (x.toInt64 - y.toInt64) (x.toInt - y.toInt) 1024 := fun h1 h2 => (R64.i32 h1).sub (R64.i32 h2) (by decide)
  exact (((((d (h.x hc) (h.x ha)).mul (d (h.x hc) (h.x hb)) (by decide)).add ((d (h.y hc) (h.y ha)).mul (d (h.y hc) (h.y hb)) (by decide)) (by decide)).add ((d (h.z hc) (h.z ha)).mul (d (h.z hc) (h.z hb)) (by decide)) (by decide)))
theorem stpB_iff (h : Bd n xs ys zs) (e : Cpy n xs ys zs hx hy hz) (hM : MI xs ys zs n F) (hf : f < F.1) (ha : a < n) (hb : b < n) (ia : InF xs ys zs F f a) : stpB F n hx hy hz f a b = true ↔ EdF xs ys zs n F f a b := by
  unfold stpB gonB
  rw [Bool.and_eq_true, Bool.and_eq_true, inB_iff h e hM hf hb, decide_eq_true_eq, allB_iff]
  constructor
  · rintro ⟨ib, hab, hall⟩
    refine ⟨ha, hb, hab, ia, ib, fun c hc hca hcb ic => ?_⟩
    have := hall c hc
    unfold okB at this
    rw [if_pos ⟨hca, hcb, (inB_iff h e hM hf hc).mpr ic⟩] at this
    rw [Bool.or_eq_true, Bool.and_eq_true, decide_eq_true_eq, decide_eq_true_eq, beq_iff_eq, (lft_R h e hM hf ha hb hc).gt0, (lft_R h e hM hf ha hb hc).eq0, (btw_R h e ha hb hc).lt0] at this
    exact this
  · rintro ⟨-, -, hab, -, ib, hall⟩
    refine ⟨ib, hab, fun c hc => ?_⟩
    unfold okB
    by_cases hh : c ≠ a ∧ c ≠ b ∧ inB F hx hy hz f c = true
    · rw [if_pos hh, Bool.or_eq_true, Bool.and_eq_true, decide_eq_true_eq, decide_eq_true_eq, beq_iff_eq, (lft_R h e hM hf ha hb hc).gt0, (lft_R h e hM hf ha hb hc).eq0, (btw_R h e ha hb hc).lt0]
      exact hall c hc hh.1 hh.2.1 ((inB_iff h e hM hf hc).mp hh.2.2)
    · rw [if_neg hh]
theorem bhd_t (h : Bd n xs ys zs) (e : Cpy n xs ys zs hx hy hz) (hM : MI xs ys zs n F) (hf : f < F.1) (hE : EdF xs ys zs n F f a b) : bhd F n hx hy hz f a = nI b := by
  have ia : InF xs ys zs F f a := hE.2.2.2.1
  refine fstI_t hE.2.1 ((stpB_iff h e hM hf hE.1 hE.2.1 ia).mpr hE) (n + 1) 0 (by omega) (by have := hE.2.1; omega) ?_
  intro q _ hq
  cases e2 : stpB F n hx hy hz f a q with
  | false => rfl
  | true =>
    have hq2 : q < n := by have := hE.2.1; omega
    have := zE_u1 ((stpB_iff h e hM hf hE.1 hq2 ia).mp e2) hE
    omega
theorem bhd_f (h : Bd n xs ys zs) (hD : zD (tI xs) (tI ys) (tI zs) n) (e : Cpy n xs ys zs hx hy hz) (hM : MI xs ys zs n F) (hf : f < F.1) (ha : a < n) (ia : InF xs ys zs F f a) (hx9 : ¬ ExF xs ys zs n F f a) : bhd F n hx hy hz f a < 0 := by
  have : bhd F n hx hy hz f a = -1 := by
    refine fstI_f ?_ (n + 1) 0
    intro q hq
    cases e2 : stpB F n hx hy hz f a q with
    | false => rfl
    | true => exact absurd (zE_X1 h hD ((stpB_iff h e hM hf ha hq ia).mp e2)) hx9
  rw [this]
  decide
/-- the lowest corner of a face, its ring from there -/
noncomputable def v0F (xs ys zs : Nat → Int32) (n : Nat) (F : FT) (f : Nat) : Nat := zMin (fun p => ExF xs ys zs n F f p)
noncomputable def rgF (xs ys zs : Nat → Int32) (n : Nat) (F : FT) (f : Nat) : Nat → Nat := itN (zNx (tI xs) (tI ys) (tI zs) n (fA F f) (fB F f) (fC F f) (fD F f)) (v0F xs ys zs n F f)
noncomputable def mlF (xs ys zs : Nat → Int32) (n : Nat) (F : FT) (f : Nat) : Nat := zC n (fun p => ExF xs ys zs n F f p)
theorem v0F_X (h : Bd n xs ys zs) (hD : zD (tI xs) (tI ys) (tI zs) n) (hM : MI xs ys zs n F) (hf : f < F.1) : ExF xs ys zs n F f (v0F xs ys zs n F f) ∧ ∀ j, j < v0F xs ys zs n F f → ¬ ExF xs ys zs n F f j := by
  obtain ⟨t, ht, _⟩ := zHas h hD (hM.1 f hf).1
  exact zMin_spec ⟨t, ht⟩
theorem rgF_ok (h : Bd n xs ys zs) (hD : zD (tI xs) (tI ys) (tI zs) n) (hM : MI xs ys zs n F) (hf : f < F.1) : 3 ≤ mlF xs ys zs n F f ∧ mlF xs ys zs n F f ≤ n ∧ rgF xs ys zs n F f (mlF xs ys zs n F f) = rgF xs ys zs n F f 0 ∧ (∀ i j, i < mlF xs ys zs n F f → j < mlF xs ys zs n F f → rgF xs ys zs n F f i = rgF xs ys zs n F f j → i = j) ∧ (∀ k, EdF xs ys zs n F f (rgF xs ys zs n F f k) (rgF xs ys zs n F f (k + 1))) ∧ (∀ p, ExF xs ys zs n F f p → ∃ k, k < mlF xs ys zs n F f ∧ rgF xs ys zs n F f k = p) := by
  obtain ⟨m, hm, h1, h2, h3, h4, h5, h6⟩ := zRing h hD (hM.1 f hf).1 (v0F_X h hD hM hf).1
  have e : mlF xs ys zs n F f = m := hm.symm
  rw [e]
  exact ⟨h1, h2, h3, h4, h5, h6⟩
theorem rgF_ring (h : Bd n xs ys zs) (hD : zD (tI xs) (tI ys) (tI zs) n) (hn : n ≤ 24) (e : Cpy n xs ys zs hx hy hz) (hM : MI xs ys zs n F) (hf : f < F.1) : ringOK F n hx hy hz f (rgF xs ys zs n F f) (mlF xs ys zs n F f) := by
  obtain ⟨h1, h2, h3, h4, h5, h6⟩ := rgF_ok h hD hM hf
  have hv := v0F_X h hD hM hf
  refine ⟨by omega, by omega, fun k _ => (h5 k).1, h3, ?_, ?_, ?_, ?_⟩
  · intro k hk0 hk e2
    have := h4 k 0 hk (by omega) e2
    omega
  · exact (inB_iff h e hM hf (h5 0).1).mpr (h5 0).2.2.2.1
  · intro k _
    exact bhd_t h e hM hf (h5 k)
  · intro k hk ik
    have hk2 : k < n := by
      have : rgF xs ys zs n F f 0 < n := (h5 0).1
      omega
    exact bhd_f h hD e hM hf hk2 ((inB_iff h e hM hf hk2).mp ik) (hv.2 k hk)
end M5a
theorem rgA_at {o : Nat → Nat} {rg : Nat → Nat → Nat} {ml : Nat → Nat} : ∀ N f i, f < N → (∀ g, g < N → ml g ≤ 24) → i < ml f → rgA o rg ml N (24 * f + i) = rg f i := by
  intro N
  induction N with
  | zero => intro f i hf; omega
  | succ N ih =>
    intro f i hf hm hi
    simp only [rgA, ringO]
    by_cases e : f = N
    · subst e
      rw [if_pos (by omega), show 24 * f + i - 24 * f = i by omega]
    · have := hm f (by omega); have := hm N (by omega)
      rw [if_neg (by omega)]
      exact ih f i (by omega) (fun g hg => hm g (by omega)) hi
theorem szA_at {z ml : Nat → Nat} : ∀ N f, f < N → szA z ml N f = ml f := by
  intro N
  induction N with
  | zero => intro f hf; omega
  | succ N ih =>
    intro f hf
    simp only [szA, updN]
    by_cases e : f = N
    · rw [if_pos e, e]
    · rw [if_neg e]; exact ih f (by omega)
