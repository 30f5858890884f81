/-! ===== the built hull: rings and order on both sides ===== -/
theorem gz_at {pm ml sz : Nat → Nat} {M : Nat} (hi : ∀ i j, i < M → j < M → pm i = pm j → i = j) : ∀ N f, N ≤ M → f < N → gzA pm ml sz N (pm f) = ml f := by
  intro N
  induction N with
  | zero => intro f _ hf; omega
  | succ N ih =>
    intro f hN hf
    simp only [gzA, updN]
    by_cases e : f = N
    · rw [e, if_pos rfl]
    · rw [if_neg (fun h => e (hi f N (by omega) (by omega) h))]
      exact ih f (by omega) (by omega)
theorem gr_at {pm ml : Nat → Nat} {hs rn : Nat → Nat → Nat} {M : Nat} (hi : ∀ i j, i < M → j < M → pm i = pm j → i = j) : ∀ N f i, N ≤ M → f < N → i < ml f → grA pm ml hs rn N (pm f) i = hs f i := by
  intro N
  induction N with
  | zero => intro f i _ hf; omega
  | succ N ih =>
    intro f i hN hf hml
    simp only [grA, updF]
    by_cases e : f = N
    · rw [e, if_pos rfl]
      simp only [rngW]
      rw [if_pos (by rw [← e]; exact hml)]
    · rw [if_neg (fun h => e (hi f N (by omega) (by omega) h))]
      exact ih f i (by omega) (by omega) hml
theorem PS_key {k1 k2 q : Nat → Nat} {N : Nat} (h : ∀ f g, f < N → g < N → k1 f < k1 g → k2 f < k2 g) (p : PS k1 q N) : PS k2 q N := ⟨p.1, p.2.1, fun i j hij hj => h _ _ (p.1 i (by omega)) (p.1 j hj) (p.2.2 i j hij hj)⟩
section M10a
variable {xs ys zs : Nat → Int32} {n f : Nat} {hx hy hz : Nat → Int64} {F : FT} {S : CT}
/-- what is built, on both sides: the class's pm' sz' rn', the reference's p' z' o' -/
def Blt (xs ys zs : Nat → Int32) (n : Nat) (F : FT) (S : CT) (pm sz : Nat → Nat) (rn : Nat → Nat → Nat) (o z p : Nat → Nat) : Prop := (∀ k, k < F.1 → p k < F.1) ∧ (∀ f, f < F.1 → ∃ k, k < F.1 ∧ p k = f) ∧ (∀ k, k < F.1 → pm k = S.2.1 (p k)) ∧ (∀ f, f < F.1 → z f = mlF xs ys zs n F f ∧ sz (S.2.1 f) = mlF xs ys zs n F f) ∧ (∀ f i, f < F.1 → i < mlF xs ys zs n F f → o (24 * f + i) = rgF xs ys zs n F f i ∧ rn (S.2.1 f) i = rgF xs ys zs n F f i) ∧ ∀ g : Nat → Int64, sumL g p F.1 = sumL g (fun i => i) F.1
theorem blt_ok (h : Bd n xs ys zs) (hD : zD (tI xs) (tI ys) (tI zs) n) (hn : n ≤ 24) (hM : MI xs ys zs n F) (S0 : zSF xs ys zs n F) (J : SI xs ys zs n S F) (sl : SL S) (h1 : 1 ≤ F.1) (h44 : F.1 ≤ 44) (o z p sz : Nat → Nat) (rn : Nat → Nat → Nat) {v0 ml : Nat → Nat} (W : wrpOK n S v0 ml) : Blt xs ys zs n F S (ordS (rkN (grA S.2.1 ml (hsS n xs ys zs S (coI S n) v0) rn S.1)) S.2.1 (S.1 - 1)) (gzA S.2.1 ml sz S.1) (grA S.2.1 ml (hsS n xs ys zs S (coI S n) v0) rn S.1) (rgA o (rgF xs ys zs n F) (mlF xs ys zs n F) F.1) (szA z (mlF xs ys zs n F) F.1) (ordL (erlB (rgA o (rgF xs ys zs n F) (mlF xs ys zs n F) F.1)) p F.1) := by
  have m3 : ∀ f, f < F.1 → 3 ≤ mlF xs ys zs n F f ∧ mlF xs ys zs n F f ≤ 24 := fun f hf => by
    have := rgF_ok h hD hM hf; omega
  have eo : ∀ f i, f < F.1 → i < mlF xs ys zs n F f → rgA o (rgF xs ys zs n F) (mlF xs ys zs n F) F.1 (24 * f + i) = rgF xs ys zs n F f i := fun f i hf hi => rgA_at F.1 f i hf (fun g hg => (m3 g hg).2) hi
  have er : ∀ f i, f < F.1 → i < mlF xs ys zs n F f → grA S.2.1 ml (hsS n xs ys zs S (coI S n) v0) rn S.1 (S.2.1 f) i = rgF xs ys zs n F f i := by
    intro f i hf hi
    have wu := wrp_u h hD hn hM S0 J W hf
    rw [J.1, gr_at (M := 44) sl.1 F.1 f i h44 hf (by rw [wu.2]; exact hi)]
    exact hs_ring h hD hn hM S0 J hf v0 wu.1 i
  have lt24 : ∀ f k, f < F.1 → rgF xs ys zs n F f k < 24 := fun f k hf => by
    have := ((rgF_ok h hD hM hf).2.2.2.2.1 k).1; omega
  -- keys
  have kO : ∀ f, f < F.1 → keyO (rgA o (rgF xs ys zs n F) (mlF xs ys zs n F) F.1) f = 32 * rgF xs ys zs n F f 0 + rgF xs ys zs n F f 1 := by
    intro f hf
    have := m3 f hf
    unfold keyO
    rw [show 24 * f = 24 * f + 0 by omega, eo f 0 hf (by omega), show 24 * f + 0 + 1 = 24 * f + 1 by omega, eo f 1 hf (by omega)]
  have kS : ∀ f, f < F.1 → rkN (grA S.2.1 ml (hsS n xs ys zs S (coI S n) v0) rn S.1) (S.2.1 f) = 24 * rgF xs ys zs n F f 0 + rgF xs ys zs n F f 1 := by
    intro f hf
    have := m3 f hf
    unfold rkN
    rw [er f 0 hf (by omega), er f 1 hf (by omega)]
    omega
  have inj : ∀ f g, f < F.1 → g < F.1 → rgF xs ys zs n F f 0 = rgF xs ys zs n F g 0 → rgF xs ys zs n F f 1 = rgF xs ys zs n F g 1 → f = g := by
    intro f g hf hg e1 e2
    have d1 := (rgF_ok h hD hM hf).2.2.2.2.1 0
    have d2 := (rgF_ok h hD hM hg).2.2.2.2.1 0
    rw [← e1, ← e2] at d2
    exact zOne S0 hD hf hg d1 d2
  have kOi : ∀ f g, f < F.1 → g < F.1 → keyO (rgA o (rgF xs ys zs n F) (mlF xs ys zs n F) F.1) f = keyO (rgA o (rgF xs ys zs n F) (mlF xs ys zs n F) F.1) g → f = g := by
    intro f g hf hg e
    rw [kO f hf, kO g hg] at e
    have a1 := lt24 f 0 hf; have a2 := lt24 f 1 hf; have a3 := lt24 g 0 hg; have a4 := lt24 g 1 hg
    exact inj f g hf hg (by omega) (by omega)
  have pL := ordL_PS (key := keyO (rgA o (rgF xs ys zs n F) (mlF xs ys zs n F) F.1)) (p := p) F.1 kOi
  have pS := ordS_PS (key := fun x => rkN (grA S.2.1 ml (hsS n xs ys zs S (coI S n) v0) rn S.1) (S.2.1 x)) (F.1 - 1) (by
    intro f g hf hg e
    have hf : f < F.1 := by omega
    have hg : g < F.1 := by omega
    have e : rkN (grA S.2.1 ml (hsS n xs ys zs S (coI S n) v0) rn S.1) (S.2.1 f) = rkN (grA S.2.1 ml (hsS n xs ys zs S (coI S n) v0) rn S.1) (S.2.1 g) := e
    rw [kS f hf, kS g hg] at e
    have a1 := lt24 f 0 hf; have a2 := lt24 f 1 hf; have a3 := lt24 g 0 hg; have a4 := lt24 g 1 hg
    exact inj f g hf hg (by omega) (by omega))
  rw [show F.1 - 1 + 1 = F.1 by omega] at pS
  have pS2 := PS_key (k2 := keyO (rgA o (rgF xs ys zs n F) (mlF xs ys zs n F) F.1)) (fun f g hf hg hlt => by
    have hlt : rkN (grA S.2.1 ml (hsS n xs ys zs S (coI S n) v0) rn S.1) (S.2.1 f) < rkN (grA S.2.1 ml (hsS n xs ys zs S (coI S n) v0) rn S.1) (S.2.1 g) := hlt
    rw [kS f hf, kS g hg] at hlt
    rw [kO f hf, kO g hg]
    have a1 := lt24 f 0 hf; have a2 := lt24 f 1 hf; have a3 := lt24 g 0 hg; have a4 := lt24 g 1 hg
    omega) pS
  have pu := PS_uniq kOi pS2 pL
  refine ⟨pL.1, pL.2.1, ?_, ?_, ?_, ?_⟩
  · intro k hk
    rw [ordS_nat, J.1]
    show S.2.1 _ = S.2.1 _
    rw [J.1] at pu
    rw [pu k hk]
    rfl
  · intro f hf
    refine ⟨szA_at F.1 f hf, ?_⟩
    rw [J.1, gz_at (M := 44) sl.1 F.1 f h44 hf, (wrp_u h hD hn hM S0 J W hf).2]
  · intro f i hf hi
    exact ⟨eo f i hf hi, er f i hf hi⟩
  · intro g
    rw [← sumL_ordS (g := g) (rk := fun x => rkN (grA S.2.1 ml (hsS n xs ys zs S (coI S n) v0) rn S.1) (S.2.1 x)) (p := fun i => i) (M := F.1) (F.1 - 1) (by omega)]
    exact (sumL_congr F.1 pu).symm
end M10a
/-! ===== darts, ways, edges ===== -/
theorem lstI_congr {P Q : Nat → Bool} : ∀ n, (∀ k, k < n → P k = Q k) → lstI P n = lstI Q n := by
  intro n
  induction n with
  | zero => intro _; rfl
  | succ n ih => intro h; simp only [lstI]; rw [h n (by omega), ih (fun k hk => h k (by omega))]
theorem lstI_neg {P : Nat → Bool} : ∀ n, n < 2 ^ 31 → (lstI P n < 0 ↔ ∀ k, k < n → P k = false) := by
  intro n
  induction n with
  | zero => intro _; simp only [lstI]; exact ⟨fun _ k hk => by omega, fun _ => by decide⟩
  | succ n ih =>
    intro hn
    simp only [lstI]
    by_cases h : P n = true
    · rw [if_pos h]
      constructor
      · intro h9; exact absurd h9 (nI_pos (by omega))
      · intro h9; have := h9 n (by omega); rw [h] at this; cases this
    · rw [if_neg h, ih (by omega)]
      constructor
      · intro h9 k hk
        rcases Nat.lt_or_ge k n with h8 | h8
        · exact h9 k h8
        · rw [show k = n by omega]; simpa using h
      · intro h9 k hk; exact h9 k (by omega)
theorem lstI_m1 {P : Nat → Bool} : ∀ n, n < 2 ^ 31 → (lstI P n = -1 ↔ lstI P n < 0) := by
  intro n
  induction n with
  | zero => intro _; simp only [lstI]; decide
  | succ n ih =>
    intro hn
    simp only [lstI]
    by_cases h : P n = true
    · rw [if_pos h]
      constructor
      · intro e; rw [e]; decide
      · intro e; exact absurd e (nI_pos (by omega))
    · rw [if_neg h]; exact ih (by omega)
theorem wyF_at {al : Nat → Int32} {f s : Nat} {r : Nat → Nat} (hr : ∀ k, r k < 24) {a b : Nat} (hb : b < 24) : ∀ k, wyF al f s r k (a * 24 + b) = if anyB k (fun i => (r i == a) && (r (nxK s i) == b)) = true then nI f else al (a * 24 + b) := by
  intro k
  induction k with
  | zero => simp [wyF, anyB]
  | succ k ih =>
    have hs : anyB (k + 1) (fun i => (r i == a) && (r (nxK s i) == b)) = (anyB k (fun i => (r i == a) && (r (nxK s i) == b)) || ((r k == a) && (r (nxK s k) == b))) := rfl
    rw [hs]
    show upd (wyF al f s r k) (r k * 24 + r (nxK s k)) (nI f) (a * 24 + b) = _
    rw [upd_at, ih]
    have h1 := hr k; have h2 := hr (nxK s k)
    generalize anyB k (fun i => (r i == a) && (r (nxK s i) == b)) = A
    by_cases e : r k = a ∧ r (nxK s k) = b
    · rw [if_pos (by omega), if_pos (by simp [e.1, e.2])]
    · rw [if_neg (by omega)]
      have : ((r k == a) && (r (nxK s k) == b)) = false := by
        cases e9 : ((r k == a) && (r (nxK s k) == b)) with
        | false => rfl
        | true => simp only [Bool.and_eq_true, beq_iff_eq] at e9; exact absurd e9 e
      rw [this, Bool.or_false]
theorem wyA_at {al : Nat → Int32} {pm sz : Nat → Nat} {rn : Nat → Nat → Nat} (hr : ∀ x k, rn x k < 24) {a b : Nat} (ha : a < 24) (hb : b < 24) : ∀ N, wyA (filI al (-1) 576) pm sz rn N (a * 24 + b) = lstI (fun k => anyB (sz (pm k)) (fun i => (rn (pm k) i == a) && (rn (pm k) (nxK (sz (pm k)) i) == b))) N := by
  intro N
  induction N with
  | zero => simp only [wyA, lstI, filI]; rw [if_pos (by omega)]
  | succ N ih =>
    simp only [wyA, lstI]
    rw [wyF_at (hr _) hb, ih]
section M10b
variable {xs ys zs : Nat → Int32} {n f : Nat} {F : FT} {S : CT} {pm sz o z p : Nat → Nat} {rn : Nat → Nat → Nat}
theorem anyB_congr {P Q : Nat → Bool} : ∀ n, (∀ k, k < n → P k = Q k) → anyB n P = anyB n Q := by
  intro n
  induction n with
  | zero => intro _; rfl
  | succ n ih => intro h; simp only [anyB]; rw [h n (by omega), ih (fun k hk => h k (by omega))]
/-- the class's ways are the reference's darts -/
theorem way_fr (B : Blt xs ys zs n F S pm sz rn o z p) (hm : ∀ f, f < F.1 → 3 ≤ mlF xs ys zs n F f) (hr : ∀ x k, rn x k < 24) (al : Nat → Int32) {a b : Nat} (ha : a < 24) (hb : b < 24) : wyA (filI al (-1) 576) pm sz rn F.1 (a * 24 + b) = frI o z p F.1 a b := by
  rw [wyA_at hr ha hb]
  unfold frI
  apply lstI_congr
  intro k hk
  obtain ⟨b1, b2, b3, b4, b5, b6⟩ := B
  have hpk := b1 k hk
  rw [b3 k hk, (b4 _ hpk).1, (b4 _ hpk).2]
  apply anyB_congr
  intro i hi
  have h3 := hm _ hpk
  have hnx : nxK (mlF xs ys zs n F (p k)) i = (i + 1) % z (p k) := by
    rw [(b4 _ hpk).1]
    unfold nxK
    split
    · rename_i h; rw [Nat.mod_eq_of_lt h]
    · rw [show i + 1 = mlF xs ys zs n F (p k) by omega, Nat.mod_self]
  have hlt : (i + 1) % z (p k) < mlF xs ys zs n F (p k) := by rw [(b4 _ hpk).1]; exact Nat.mod_lt _ (by omega)
  unfold dartB
  rw [hnx, (b5 _ i hpk hi).1, (b5 _ i hpk hi).2, (b5 _ _ hpk hlt).1, (b5 _ _ hpk hlt).2]
/-- .. and they are the facets' steps -/
theorem fr_dart (h : Bd n xs ys zs) (hD : zD (tI xs) (tI ys) (tI zs) n) (hM : MI xs ys zs n F) (h44 : F.1 ≤ 44) (B : Blt xs ys zs n F S pm sz rn o z p) (a b : Nat) : ¬ frI o z p F.1 a b < 0 ↔ zDart (tI xs) (tI ys) (tI zs) n (fA F) (fB F) (fC F) (fD F) F.1 a b := by
  obtain ⟨b1, b2, b3, b4, b5, b6⟩ := B
  unfold frI
  rw [lstI_neg F.1 (by omega)]
  have one : ∀ f, f < F.1 → (anyB (z f) (dartB o z f a b) = true ↔ EdF xs ys zs n F f a b) := by
    intro f hf
    obtain ⟨r1, r2, r3, r4, r5, r6⟩ := rgF_ok h hD hM hf
    rw [anyB_iff, (b4 f hf).1]
    have nx : ∀ i, i < mlF xs ys zs n F f → rgF xs ys zs n F f ((i + 1) % mlF xs ys zs n F f) = rgF xs ys zs n F f (i + 1) := by
      intro i hi
      by_cases e : i + 1 = mlF xs ys zs n F f
      · rw [e, Nat.mod_self, r3]
      · rw [Nat.mod_eq_of_lt (by omega)]
    constructor
    · rintro ⟨i, hi, hd⟩
      unfold dartB at hd
      rw [(b4 f hf).1, (b5 f i hf hi).1, (b5 f _ hf (Nat.mod_lt _ (by omega))).1, nx i hi, Bool.and_eq_true, beq_iff_eq, beq_iff_eq] at hd
      rw [← hd.1, ← hd.2]
      exact r5 i
    · intro hE
      obtain ⟨i, hi, e⟩ := r6 a (zE_X1 h hD hE)
      refine ⟨i, hi, ?_⟩
      unfold dartB
      rw [(b4 f hf).1, (b5 f i hf hi).1, (b5 f _ hf (Nat.mod_lt _ (by omega))).1, nx i hi, Bool.and_eq_true, beq_iff_eq, beq_iff_eq]
      refine ⟨e, ?_⟩
      have := r5 i
      rw [e] at this
      exact zE_u1 this hE
  constructor
  · intro hno
    apply Classical.byContradiction
    intro hnd
    apply hno
    intro k hk
    cases e : anyB (z (p k)) (dartB o z (p k) a b) with
    | false => rfl
    | true => exact absurd ⟨p k, b1 k hk, (one _ (b1 k hk)).mp e⟩ hnd
  · rintro ⟨f, hf, hE⟩ hall
    obtain ⟨k, hk, e⟩ := b2 f hf
    have := hall k hk
    rw [e, (one f hf).mpr hE] at this
    cases this
end M10b
