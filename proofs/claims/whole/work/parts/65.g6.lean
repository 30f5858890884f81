/-! ===== counting ===== -/
/-- how many below n have P -/
noncomputable def zC : Nat → (Nat → Prop) → Nat
  | 0, _ => 0
  | n + 1, P => zC n P + (@ite Nat (P n) (Classical.propDecidable (P n)) 1 0)
def zSum : Nat → (Nat → Nat) → Nat
  | 0, _ => 0
  | n + 1, f => zSum n f + f n
theorem zC_t {n : Nat} {P : Nat → Prop} (h : P n) : zC (n + 1) P = zC n P + 1 := by simp only [zC, if_pos h]
theorem zC_f {n : Nat} {P : Nat → Prop} (h : ¬ P n) : zC (n + 1) P = zC n P := by simp only [zC, if_neg h, Nat.add_zero]
theorem zC_mono {P Q : Nat → Prop} : ∀ n, (∀ i, i < n → P i → Q i) → zC n P ≤ zC n Q := by
  intro n
  induction n with
  | zero => intro _; exact Nat.le_refl _
  | succ n ih =>
    intro h
    have := ih (fun i hi => h i (by omega))
    by_cases hp : P n
    · rw [zC_t hp, zC_t (h n (by omega) hp)]; omega
    · rw [zC_f hp]
      by_cases hq : Q n
      · rw [zC_t hq]; omega
      · rw [zC_f hq]; exact this
theorem zC_congr {P Q : Nat → Prop} {n : Nat} (h : ∀ i, i < n → (P i ↔ Q i)) : zC n P = zC n Q := Nat.le_antisymm (zC_mono n (fun i hi => (h i hi).mp)) (zC_mono n (fun i hi => (h i hi).mpr))
theorem zC_none {P : Nat → Prop} : ∀ n, (∀ i, i < n → ¬ P i) → zC n P = 0 := by
  intro n
  induction n with
  | zero => intro _; rfl
  | succ n ih => intro h; rw [zC_f (h n (by omega))]; exact ih (fun i hi => h i (by omega))
theorem zC_le {P : Nat → Prop} : ∀ n, zC n P ≤ n := by
  intro n
  induction n with
  | zero => exact Nat.le_refl _
  | succ n ih =>
    by_cases h : P n
    · rw [zC_t h]; omega
    · rw [zC_f h]; omega
theorem zC_one {P : Nat → Prop} : ∀ n, (∀ i j, i < n → j < n → P i → P j → i = j) → zC n P ≤ 1 := by
  intro n
  induction n with
  | zero => intro _; exact Nat.zero_le _
  | succ n ih =>
    intro h
    by_cases hp : P n
    · rw [zC_t hp, zC_none n (fun i hi hpi => by have := h i n (by omega) (by omega) hpi hp; omega)]; omega
    · rw [zC_f hp]; exact ih (fun i j hi hj => h i j (by omega) (by omega))
theorem zC_or {P Q R : Nat → Prop} : ∀ n, (∀ i, i < n → P i → Q i ∨ R i) → zC n P ≤ zC n Q + zC n R := by
  intro n
  induction n with
  | zero => intro _; exact Nat.zero_le _
  | succ n ih =>
    intro h
    have := ih (fun i hi => h i (by omega))
    by_cases hp : P n
    · rw [zC_t hp]
      rcases h n (by omega) hp with hq | hr
      · rw [zC_t hq]
        by_cases hr : R n
        · rw [zC_t hr]; omega
        · rw [zC_f hr]; omega
      · rw [zC_t hr]
        by_cases hq : Q n
        · rw [zC_t hq]; omega
        · rw [zC_f hq]; omega
    · rw [zC_f hp]
      have a1 : zC n Q ≤ zC (n + 1) Q := by simp only [zC]; omega
      have a2 : zC n R ≤ zC (n + 1) R := by simp only [zC]; omega
      omega
/-- one out: counts one less -/
theorem zC_rm {P : Nat → Prop} {t : Nat} : ∀ n, t < n → P t → zC n (fun i => P i ∧ i ≠ t) + 1 = zC n P := by
  intro n
  induction n with
  | zero => intro h; omega
  | succ n ih =>
    intro h hp
    by_cases e : t = n
    · subst e
      rw [zC_t hp, zC_f (fun h => h.2 rfl)]
      congr 1
      exact zC_congr (fun i hi => ⟨fun h => h.1, fun h => ⟨h, by omega⟩⟩)
    · have := ih (by omega) hp
      by_cases hn : P n
      · rw [zC_t hn, zC_t (P := fun i => P i ∧ i ≠ t) ⟨hn, fun h => e h.symm⟩]; omega
      · rw [zC_f hn, zC_f (fun h => hn h.1)]; exact this
theorem zSum_le {f g : Nat → Nat} : ∀ n, (∀ i, i < n → f i ≤ g i) → zSum n f ≤ zSum n g := by
  intro n
  induction n with
  | zero => intro _; exact Nat.le_refl _
  | succ n ih => intro h; have := ih (fun i hi => h i (by omega)); have := h n (by omega); simp only [zSum]; omega
theorem zSum_add {f g : Nat → Nat} : ∀ n, zSum n (fun i => f i + g i) = zSum n f + zSum n g := by
  intro n
  induction n with
  | zero => rfl
  | succ n ih => simp only [zSum]; omega
theorem zSum_c {c : Nat} : ∀ n, zSum n (fun _ => c) = n * c := by
  intro n
  induction n with
  | zero => simp [zSum]
  | succ n ih => simp only [zSum, ih, Nat.succ_mul]
theorem zSum_0 {f : Nat → Nat} : ∀ n, (∀ i, i < n → f i = 0) → zSum n f = 0 := by
  intro n
  induction n with
  | zero => intro _; rfl
  | succ n ih => intro h; have := ih (fun i hi => h i (by omega)); have := h n (by omega); simp only [zSum]; omega
theorem zC_sum {P : Nat → Prop} : ∀ n, zC n P = zSum n (fun i => @ite Nat (P i) (Classical.propDecidable (P i)) 1 0) := by
  intro n
  induction n with
  | zero => rfl
  | succ n ih => simp only [zC, zSum, ih]
/-- rows or columns first -/
theorem zSum_ex {f : Nat → Nat → Nat} (m : Nat) : ∀ n, zSum n (fun i => zSum m (fun j => f i j)) = zSum m (fun j => zSum n (fun i => f i j)) := by
  intro n
  induction n with
  | zero => simp only [zSum]; rw [zSum_0]; intro i _; rfl
  | succ n ih => simp only [zSum, ih]; rw [zSum_add]
theorem zC_ex {R : Nat → Nat → Prop} (m n : Nat) : zSum m (fun f => zC n (fun v => R f v)) = zSum n (fun v => zC m (fun f => R f v)) := by
  have e1 : (fun f => zC n (fun v => R f v)) = fun f => zSum n (fun v => @ite Nat (R f v) (Classical.propDecidable (R f v)) 1 0) := by funext f; exact zC_sum n
  have e2 : (fun v => zC m (fun f => R f v)) = fun v => zSum m (fun f => @ite Nat (R f v) (Classical.propDecidable (R f v)) 1 0) := by funext v; exact zC_sum m
  rw [e1, e2, zSum_ex]
/-- a count no larger than another, by a map -/
theorem zC_map {P Q : Nat → Prop} {R : Nat → Nat → Prop} (m : Nat) : ∀ n, (∀ i, i < n → P i → ∃ j, j < m ∧ Q j ∧ R i j) → (∀ i i' j, i < n → i' < n → P i → P i' → R i j → R i' j → i = i') → zC n P ≤ zC m Q := by
  intro n
  induction n generalizing Q with
  | zero => intro _ _; exact Nat.zero_le _
  | succ n ih =>
    intro h1 h2
    by_cases hp : P n
    · obtain ⟨j, hj, hq, hr⟩ := h1 n (by omega) hp
      rw [zC_t hp]
      have := ih (Q := fun x => Q x ∧ x ≠ j) (fun i hi hpi => by
        obtain ⟨j', hj', hq', hr'⟩ := h1 i (by omega) hpi
        refine ⟨j', hj', ⟨hq', ?_⟩, hr'⟩
        intro e
        subst e
        have := h2 i n j' (by omega) (by omega) hpi hp hr' hr
        omega) (fun i i' j hi hi' => h2 i i' j (by omega) (by omega))
      have := zC_rm m hj hq
      omega
    · rw [zC_f hp]
      exact ih (fun i hi => h1 i (by omega)) (fun i i' j hi hi' => h2 i i' j (by omega) (by omega))
theorem zC_3 {P : Nat → Prop} {n a b c : Nat} (ha : a < n) (hb : b < n) (hc : c < n) (pa : P a) (pb : P b) (pc : P c) (ab : a ≠ b) (ac : a ≠ c) (bc : b ≠ c) : 3 ≤ zC n P := by
  have h1 := zC_rm n ha pa
  have h2 := zC_rm (P := fun i => P i ∧ i ≠ a) n hb ⟨pb, fun e => ab e.symm⟩
  have h3 := zC_rm (P := fun i => (P i ∧ i ≠ a) ∧ i ≠ b) n hc ⟨⟨pc, fun e => ac e.symm⟩, fun e => bc e.symm⟩
  omega
/-- all but two -/
theorem zC_but2 {n t b : Nat} (ht : t < n) (hb : b < n) (tb : t ≠ b) : zC n (fun v => v ≠ t ∧ v ≠ b) + 2 ≤ n := by
  have h1 := zC_rm (P := fun _ => True) n ht trivial
  have h2 := zC_rm (P := fun i => True ∧ i ≠ t) n hb ⟨trivial, fun e => tb e.symm⟩
  have h3 : zC n (fun i => (True ∧ i ≠ t) ∧ i ≠ b) = zC n (fun v => v ≠ t ∧ v ≠ b) := zC_congr (fun i _ => ⟨fun h => ⟨h.1.2, h.2⟩, fun h => ⟨⟨trivial, h.1⟩, h.2⟩⟩)
  have h4 := zC_le (P := fun _ => True) n
  omega
theorem zC_pos {P : Nat → Prop} {n : Nat} (h : 0 < zC n P) : ∃ i, i < n ∧ P i := by
  apply Classical.byContradiction
  intro hn
  rw [zC_none n (fun i hi hp => hn ⟨i, hi, hp⟩)] at h
  omega
/-- three of them -/
theorem zC_get3 {P : Nat → Prop} {n : Nat} (h : 3 ≤ zC n P) : ∃ a b c, a < n ∧ b < n ∧ c < n ∧ P a ∧ P b ∧ P c ∧ a ≠ b ∧ a ≠ c ∧ b ≠ c := by
  obtain ⟨a, ha, pa⟩ := zC_pos (P := P) (n := n) (by omega)
  have h1 := zC_rm n ha pa
  obtain ⟨b, hb, pb⟩ := zC_pos (P := fun i => P i ∧ i ≠ a) (n := n) (by omega)
  have h2 := zC_rm (P := fun i => P i ∧ i ≠ a) n hb pb
  obtain ⟨c, hc, pc⟩ := zC_pos (P := fun i => (P i ∧ i ≠ a) ∧ i ≠ b) (n := n) (by omega)
  exact ⟨a, b, c, ha, hb, hc, pa, pb.1, pc.1.1, fun e => pb.2 e.symm, fun e => pc.1.2 e.symm, fun e => pc.2 e.symm⟩
section ZEu
variable {X Y Z : Nat → Int} {n : Nat} {FA FB FC FD : Nat → Int} {nf : Nat} {A B C D : Int} {a b c d p q u v w f g k : Nat}
/-- through v in the facet: from above down (s = 1), from below up (s = -1) -/
def zThru (X Y Z : Nat → Int) (n : Nat) (A B C D : Int) (s : Int) (v : Nat) : Prop := ∃ u w, zE X Y Z n A B C D u v ∧ zE X Y Z n A B C D v w ∧ 0 < s * zh X Y Z v u ∧ s * zh X Y Z v w < 0
/-- v is above (s = 1), or below (s = -1), its neighbours -/
def zPeak (X Y Z : Nat → Int) (n : Nat) (A B C D : Int) (s : Int) (v : Nat) : Prop := ∃ u w, zE X Y Z n A B C D u v ∧ zE X Y Z n A B C D v w ∧ s * zh X Y Z v u < 0 ∧ s * zh X Y Z v w < 0
theorem zPeak1 (hM : zM X Y Z n) (hD : zD X Y Z n) (hF : zF X Y Z n A B C D) (s : Int) (h : zPeak X Y Z n A B C D s v) (h' : zPeak X Y Z n A B C D s p) : v = p := by
  by_cases e : v = p
  · exact e
  exfalso
  obtain ⟨u, w, e1, e2, t1, t2⟩ := h
  obtain ⟨u', w', e3, e4, t3, t4⟩ := h'
  have hz : ∀ x y, zH X Y Z (s * 4194304) (s * 2048) (s * 1) x y = s * zh X Y Z x y := by intro x y; unfold zh zH; grind
  have k1 := zLocal (s * 4194304) (s * 2048) (s * 1) hM hD hF e1 e2 (by rw [hz]; omega) (by rw [hz]; omega) e3.2.1 e3.2.2.2.2.1
  have k2 := zLocal (s * 4194304) (s * 2048) (s * 1) hM hD hF e3 e4 (by rw [hz]; omega) (by rw [hz]; omega) e1.2.1 e1.2.2.2.2.1
  rw [hz] at k1 k2
  have hn := zh_ne hM hD e1.2.1 e3.2.1 e
  have e5 : zh X Y Z p v = - zh X Y Z v p := zh_neg
  rw [e5, Int.mul_neg] at k2
  have k3 : s * zh X Y Z v p = 0 := by omega
  rcases Int.mul_eq_zero.mp k3 with h | h
  · subst h; omega
  · exact hn h
theorem zKinds (hM : zM X Y Z n) (hD : zD X Y Z n) (hF : zF X Y Z n A B C D) (h : zX X Y Z n A B C D v) : (zPeak X Y Z n A B C D 1 v ∨ zPeak X Y Z n A B C D (-1) v) ∨ (zThru X Y Z n A B C D 1 v ∨ zThru X Y Z n A B C D (-1) v) := by
  obtain ⟨w, hw⟩ := zSucc hD (zF_ne hF) h (zOther hF v)
  obtain ⟨u, hu⟩ := zPred hD (zF_ne hF) h (zOther hF v)
  have n1 := zh_ne hM hD hu.2.1 hu.1 (fun e => hu.2.2.1 e.symm)
  have n2 := zh_ne hM hD hw.1 hw.2.1 hw.2.2.1
  by_cases h1 : 0 < zh X Y Z v u
  · by_cases h2 : 0 < zh X Y Z v w
    · exact Or.inl (Or.inr ⟨u, w, hu, hw, by omega, by omega⟩)
    · exact Or.inr (Or.inl ⟨u, w, hu, hw, by omega, by omega⟩)
  · by_cases h2 : 0 < zh X Y Z v w
    · exact Or.inr (Or.inr ⟨u, w, hu, hw, by omega, by omega⟩)
    · exact Or.inl (Or.inl ⟨u, w, hu, hw, by omega, by omega⟩)
/-- the highest and the lowest of all points -/
theorem zTops (hM : zM X Y Z n) (hD : zD X Y Z n) (hn : 2 ≤ n) : ∃ t b, t < n ∧ b < n ∧ t ≠ b ∧ (∀ p, p < n → zh X Y Z t p ≤ 0) ∧ (∀ p, p < n → 0 ≤ zh X Y Z b p) := by
  obtain ⟨t, ht, _, h1⟩ := finMin (fun p => p < n) (fun i j => zh X Y Z i j ≤ 0) (fun i j _ _ => by have : zh X Y Z j i = - zh X Y Z i j := zh_neg; omega) (fun i j k _ _ _ h1 h2 => by have : zh X Y Z i j + zh X Y Z j k = zh X Y Z i k := zh_tr; omega) n ⟨0, by omega, by omega⟩
  obtain ⟨b, hb, _, h2⟩ := finMin (fun p => p < n) (fun i j => 0 ≤ zh X Y Z i j) (fun i j _ _ => by have : zh X Y Z j i = - zh X Y Z i j := zh_neg; omega) (fun i j k _ _ _ h1 h2 => by have : zh X Y Z i j + zh X Y Z j k = zh X Y Z i k := zh_tr; omega) n ⟨0, by omega, by omega⟩
  refine ⟨t, b, ht, hb, ?_, fun p hp => h1 p hp hp, fun p hp => h2 p hp hp⟩
  intro e
  subst e
  have h3 : ∀ p, p < n → zh X Y Z t p = 0 := fun p hp => by have := h1 p hp hp; have := h2 p hp hp; omega
  have n1 := zh_ne hM hD (p := t) (q := if t = 0 then 1 else 0) ht (by split <;> omega) (by split <;> omega)
  exact n1 (h3 _ (by split <;> omega))
theorem zThruC (S : zS X Y Z n FA FB FC FD nf) (hM : zM X Y Z n) (hD : zD X Y Z n) (hn : 2 ≤ n) (s : Int) (hs : s = 1 ∨ s = -1) : zSum nf (fun f => zC n (fun v => zThru X Y Z n (FA f) (FB f) (FC f) (FD f) s v)) + 2 ≤ n := by
  rw [zC_ex]
  obtain ⟨t, b, ht, hb, tb, h1, h2⟩ := zTops hM hD hn
  have hle : zSum n (fun v => zC nf (fun f => zThru X Y Z n (FA f) (FB f) (FC f) (FD f) s v)) ≤ zC n (fun v => v ≠ t ∧ v ≠ b) := by
    rw [zC_sum]
    apply zSum_le
    intro v hv
    by_cases e : v ≠ t ∧ v ≠ b
    · rw [if_pos e]
      apply zC_one
      rintro f g hf hg ⟨u, w, e1, e2, t1, t2⟩ ⟨u', w', e3, e4, t3, t4⟩
      exact zDown1 S hM hD hf hg e1 e2 e3 e4 s hs t1 t2 t3 t4
    · rw [if_neg e, zC_none]
      · exact Nat.le_refl _
      rintro f hf ⟨u, w, e1, e2, t1, t2⟩
      apply e
      have hu := h1 u e1.1; have hw := h1 w e2.2.1; have hu2 := h2 u e1.1; have hw2 := h2 w e2.2.1
      constructor
      · intro e; subst e
        rcases hs with rfl | rfl <;> omega
      · intro e; subst e
        rcases hs with rfl | rfl <;> omega
  have := zC_but2 ht hb tb
  omega
/-- corners of all facets, counted -/
theorem zEuler (S : zS X Y Z n FA FB FC FD nf) (hM : zM X Y Z n) (hD : zD X Y Z n) (hn : 2 ≤ n) : zSum nf (fun f => zC n (fun v => zX X Y Z n (FA f) (FB f) (FC f) (FD f) v)) + 4 ≤ 2 * nf + 2 * n := by
  have k1 := zThruC S hM hD hn 1 (Or.inl rfl)
  have k2 := zThruC S hM hD hn (-1) (Or.inr rfl)
  have hle : zSum nf (fun f => zC n (fun v => zX X Y Z n (FA f) (FB f) (FC f) (FD f) v)) ≤ zSum nf (fun f => 2 + (zC n (fun v => zThru X Y Z n (FA f) (FB f) (FC f) (FD f) 1 v) + zC n (fun v => zThru X Y Z n (FA f) (FB f) (FC f) (FD f) (-1) v))) := by
    apply zSum_le
    intro f hf
    have hF := (S.1 f hf).1
    have s1 := zC_or (P := fun v => zX X Y Z n (FA f) (FB f) (FC f) (FD f) v) (Q := fun v => zPeak X Y Z n (FA f) (FB f) (FC f) (FD f) 1 v ∨ zPeak X Y Z n (FA f) (FB f) (FC f) (FD f) (-1) v) (R := fun v => zThru X Y Z n (FA f) (FB f) (FC f) (FD f) 1 v ∨ zThru X Y Z n (FA f) (FB f) (FC f) (FD f) (-1) v) n (fun v _ hx => zKinds hM hD hF hx)
    have s2 := zC_or (P := fun v => zPeak X Y Z n (FA f) (FB f) (FC f) (FD f) 1 v ∨ zPeak X Y Z n (FA f) (FB f) (FC f) (FD f) (-1) v) (Q := fun v => zPeak X Y Z n (FA f) (FB f) (FC f) (FD f) 1 v) (R := fun v => zPeak X Y Z n (FA f) (FB f) (FC f) (FD f) (-1) v) n (fun v _ h => h)
    have s3 := zC_or (P := fun v => zThru X Y Z n (FA f) (FB f) (FC f) (FD f) 1 v ∨ zThru X Y Z n (FA f) (FB f) (FC f) (FD f) (-1) v) (Q := fun v => zThru X Y Z n (FA f) (FB f) (FC f) (FD f) 1 v) (R := fun v => zThru X Y Z n (FA f) (FB f) (FC f) (FD f) (-1) v) n (fun v _ h => h)
    have p1 := zC_one (P := fun v => zPeak X Y Z n (FA f) (FB f) (FC f) (FD f) 1 v) n (fun i j _ _ h1 h2 => zPeak1 hM hD hF 1 h1 h2)
    have p2 := zC_one (P := fun v => zPeak X Y Z n (FA f) (FB f) (FC f) (FD f) (-1) v) n (fun i j _ _ h1 h2 => zPeak1 hM hD hF (-1) h1 h2)
    omega
  rw [zSum_add, zSum_add, zSum_c] at hle
  omega
/-- a facet has a point that stands out: its highest -/
theorem zHas (hM : zM X Y Z n) (hD : zD X Y Z n) (hF : zF X Y Z n A B C D) : ∃ t, zX X Y Z n A B C D t ∧ ∀ c, c < n → c ≠ t → zI X Y Z A B C D c → zh X Y Z t c < 0 := by
  obtain ⟨x, y, z, hx, hy, hz, ix, iy, iz, hL⟩ := hF.2.2
  obtain ⟨t, ht, it, h1⟩ := finMin (fun p => p < n ∧ zI X Y Z A B C D p) (fun i j => zh X Y Z i j ≤ 0) (fun i j _ _ => by have : zh X Y Z j i = - zh X Y Z i j := zh_neg; omega) (fun i j k _ _ _ h1 h2 => by have : zh X Y Z i j + zh X Y Z j k = zh X Y Z i k := zh_tr; omega) n ⟨x, hx, hx, ix⟩
  have hlt : ∀ c, c < n → c ≠ t → zI X Y Z A B C D c → zh X Y Z t c < 0 := by
    intro c hc hct ic
    have := h1 c hc ⟨hc, ic⟩
    have := zh_ne hM hD ht hc (fun e => hct e.symm)
    omega
  exact ⟨t, ⟨ht, it.2, 4194304, 2048, 1, hlt⟩, hlt⟩
theorem zThree (hM : zM X Y Z n) (hD : zD X Y Z n) (hF : zF X Y Z n A B C D) : 3 ≤ zC n (fun v => zX X Y Z n A B C D v) := by
  obtain ⟨t, ht, _⟩ := zHas hM hD hF
  obtain ⟨w, hw⟩ := zSucc hD (zF_ne hF) ht (zOther hF t)
  obtain ⟨u, hu⟩ := zPred hD (zF_ne hF) ht (zOther hF t)
  have o := zTurn hM hD hF hu hw
  have uw : u ≠ w := by
    intro e
    subst e
    rw [zO_r2] at o
    omega
  exact zC_3 (P := fun v => zX X Y Z n A B C D v) hu.1 ht.1 hw.2.1 (zE_X1 hM hD hu) ht (zE_X2 hM hD hw) hu.2.2.1 uw hw.2.2.1
theorem zFaces (S : zS X Y Z n FA FB FC FD nf) (hM : zM X Y Z n) (hD : zD X Y Z n) (hn : 2 ≤ n) : nf + 4 ≤ 2 * n := by
  have k := zEuler S hM hD hn
  have : zSum nf (fun _ => 3) ≤ zSum nf (fun f => zC n (fun v => zX X Y Z n (FA f) (FB f) (FC f) (FD f) v)) := zSum_le nf (fun f hf => zThree hM hD (S.1 f hf).1)
  rw [zSum_c] at this
  omega
/-- from a to b along some facet -/
def zDart (X Y Z : Nat → Int) (n : Nat) (FA FB FC FD : Nat → Int) (nf a b : Nat) : Prop := ∃ f, f < nf ∧ zE X Y Z n (FA f) (FB f) (FC f) (FD f) a b
theorem zDart_sym (S : zS X Y Z n FA FB FC FD nf) (hD : zD X Y Z n) (h : zDart X Y Z n FA FB FC FD nf a b) : zDart X Y Z n FA FB FC FD nf b a := by
  obtain ⟨f, hf, e⟩ := h
  obtain ⟨g, hg, _, e2⟩ := zTwin S hD hf e
  exact ⟨g, hg, e2⟩
/-- at most 3 n - 6 edges -/
theorem zEdges (S : zS X Y Z n FA FB FC FD nf) (hM : zM X Y Z n) (hD : zD X Y Z n) (hn : 2 ≤ n) : zSum n (fun a => zC n (fun b => a < b ∧ zDart X Y Z n FA FB FC FD nf a b)) + 6 ≤ 3 * n := by
  have k := zEuler S hM hD hn
  have kf := zFaces S hM hD hn
  rw [zC_ex] at k
  have hle : zSum n (fun a => zC n (fun b => zDart X Y Z n FA FB FC FD nf a b)) ≤ zSum n (fun v => zC nf (fun f => zX X Y Z n (FA f) (FB f) (FC f) (FD f) v)) := by
    apply zSum_le
    intro a ha
    refine zC_map (R := fun b f => f < nf ∧ zE X Y Z n (FA f) (FB f) (FC f) (FD f) a b) nf n ?_ ?_
    · rintro b hb ⟨f, hf, e⟩
      exact ⟨f, hf, zE_X1 hM hD e, hf, e⟩
    · rintro b b' f _ _ _ _ ⟨_, e⟩ ⟨_, e'⟩
      exact zE_u1 e e'
  have hs : zSum n (fun a => zC n (fun b => zDart X Y Z n FA FB FC FD nf a b)) = zSum n (fun a => zC n (fun b => a < b ∧ zDart X Y Z n FA FB FC FD nf a b)) + zSum n (fun a => zC n (fun b => a < b ∧ zDart X Y Z n FA FB FC FD nf a b)) := by
    have e2 : zSum n (fun a => zC n (fun b => a < b ∧ zDart X Y Z n FA FB FC FD nf a b)) = zSum n (fun a => zC n (fun b => b < a ∧ zDart X Y Z n FA FB FC FD nf b a)) := by rw [zC_ex]
    rw [show zSum n (fun a => zC n (fun b => a < b ∧ zDart X Y Z n FA FB FC FD nf a b)) + zSum n (fun a => zC n (fun b => a < b ∧ zDart X Y Z n FA FB FC FD nf a b)) = zSum n (fun a => zC n (fun b => a < b ∧ zDart X Y Z n FA FB FC FD nf a b)) + zSum n (fun a => zC n (fun b => b < a ∧ zDart X Y Z n FA FB FC FD nf b a)) by rw [← e2]]
    rw [← zSum_add]
    have hcong : ∀ a, zC n (fun b => zDart X Y Z n FA FB FC FD nf a b) = zC n (fun b => a < b ∧ zDart X Y Z n FA FB FC FD nf a b) + zC n (fun b => b < a ∧ zDart X Y Z n FA FB FC FD nf b a) := by
      intro a
      apply Nat.le_antisymm
      · apply zC_or
        rintro b _ h
        have hab : a ≠ b := by obtain ⟨f, hf, e⟩ := h; exact e.2.2.1
        rcases Nat.lt_or_gt_of_ne hab with h1 | h1
        · exact Or.inl ⟨h1, h⟩
        · exact Or.inr ⟨h1, zDart_sym S hD h⟩
      · have aux : ∀ m, zC m (fun b => a < b ∧ zDart X Y Z n FA FB FC FD nf a b) + zC m (fun b => b < a ∧ zDart X Y Z n FA FB FC FD nf b a) ≤ zC m (fun b => zDart X Y Z n FA FB FC FD nf a b) := by
          intro m
          induction m with
          | zero => exact Nat.le_refl _
          | succ m ih =>
            by_cases h1 : a < m ∧ zDart X Y Z n FA FB FC FD nf a m
            · rw [zC_t (P := fun b => a < b ∧ zDart X Y Z n FA FB FC FD nf a b) h1, zC_f (P := fun b => b < a ∧ zDart X Y Z n FA FB FC FD nf b a) (fun h => by omega), zC_t (P := fun b => zDart X Y Z n FA FB FC FD nf a b) h1.2]
              omega
            · rw [zC_f (P := fun b => a < b ∧ zDart X Y Z n FA FB FC FD nf a b) h1]
              by_cases h2 : m < a ∧ zDart X Y Z n FA FB FC FD nf m a
              · rw [zC_t (P := fun b => b < a ∧ zDart X Y Z n FA FB FC FD nf b a) h2, zC_t (P := fun b => zDart X Y Z n FA FB FC FD nf a b) (zDart_sym S hD h2.2)]
                omega
              · rw [zC_f (P := fun b => b < a ∧ zDart X Y Z n FA FB FC FD nf b a) h2]
                have : zC m (fun b => zDart X Y Z n FA FB FC FD nf a b) ≤ zC (m + 1) (fun b => zDart X Y Z n FA FB FC FD nf a b) := by simp only [zC]; omega
                omega
        exact aux n
    congr 1
    funext a
    exact hcong a
  omega
end ZEu
