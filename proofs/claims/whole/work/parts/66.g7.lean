/-! ===== one cycle ===== -/
theorem leastN (P : Nat → Prop) (h : ∃ k, P k) : ∃ k, P k ∧ ∀ j, j < k → ¬ P j := by
  obtain ⟨k, hk⟩ := h
  induction k using Nat.strongRecOn with
  | ind k ih =>
    by_cases he : ∃ j, j < k ∧ P j
    · obtain ⟨j, h1, h2⟩ := he
      exact ih j h1 h2
    · exact ⟨k, hk, fun j hj hp => he ⟨j, hj, hp⟩⟩
theorem zC_true : ∀ n, zC n (fun _ => True) = n := by
  intro n
  induction n with
  | zero => rfl
  | succ n ih => rw [zC_t trivial, ih]
def itN (s : Nat → Nat) (v : Nat) : Nat → Nat
  | 0 => v
  | k + 1 => s (itN s v k)
theorem itN_add (s : Nat → Nat) (v i : Nat) : ∀ j, itN s v (i + j) = itN s (itN s v i) j := by
  intro j
  induction j with
  | zero => rfl
  | succ j ih => show s (itN s v (i + j)) = _; rw [ih]; rfl
section ZCy
variable {n : Nat} {P : Nat → Prop} {s : Nat → Nat} {v : Nat}
theorem itN_P (hs : ∀ a, P a → P (s a)) (hv : P v) : ∀ k, P (itN s v k) := by
  intro k
  induction k with
  | zero => exact hv
  | succ k ih => exact hs _ ih
theorem itN_back (hs : ∀ a, P a → P (s a)) (hi : ∀ a b, P a → P b → s a = s b → a = b) (hv : P v) : ∀ i j, itN s v i = itN s v (i + j) → v = itN s v j := by
  intro i
  induction i with
  | zero => intro j h; rw [Nat.zero_add] at h; exact h
  | succ i ih =>
    intro j h
    rw [show i + 1 + j = (i + j) + 1 by omega] at h
    exact ih j (hi _ _ (itN_P hs hv _) (itN_P hs hv _) h)
/-- a step that loses nothing comes back -/
theorem itN_per (hs : ∀ a, P a → P (s a)) (hi : ∀ a b, P a → P b → s a = s b → a = b) (hl : ∀ a, P a → a < n) (hv : P v) : ∃ m, 1 ≤ m ∧ m ≤ n ∧ itN s v m = v ∧ ∀ i j, i < m → j < m → itN s v i = itN s v j → i = j := by
  have hex : ∃ m, 1 ≤ m ∧ m ≤ n ∧ itN s v m = v := by
    apply Classical.byContradiction
    intro hno
    have hinj : ∀ i j, i < n + 1 → j < n + 1 → itN s v i = itN s v j → i = j := by
      intro i j h1 h2 e
      rcases Nat.lt_trichotomy i j with h | h | h
      · exact absurd ⟨j - i, by omega, by omega, (itN_back hs hi hv i (j - i) (by rw [show i + (j - i) = j by omega]; exact e)).symm⟩ hno
      · exact h
      · exact absurd ⟨i - j, by omega, by omega, (itN_back hs hi hv j (i - j) (by rw [show j + (i - j) = i by omega]; exact e.symm)).symm⟩ hno
    have := zC_map (P := fun _ => True) (Q := fun _ => True) (R := fun i j => itN s v i = j) n (n + 1) (fun i _ _ => ⟨_, hl _ (itN_P hs hv i), trivial, rfl⟩) (fun i i' j h1 h2 _ _ e1 e2 => hinj i i' h1 h2 (e1.trans e2.symm))
    rw [zC_true, zC_true] at this
    omega
  obtain ⟨m, ⟨h1, h2, h3⟩, hmin⟩ := leastN (fun m => 1 ≤ m ∧ m ≤ n ∧ itN s v m = v) hex
  refine ⟨m, h1, h2, h3, ?_⟩
  intro i j hi' hj e
  rcases Nat.lt_trichotomy i j with h | h | h
  · exact absurd ⟨by omega, by omega, (itN_back hs hi hv i (j - i) (by rw [show i + (j - i) = j by omega]; exact e)).symm⟩ (hmin (j - i) (by omega))
  · exact h
  · exact absurd ⟨by omega, by omega, (itN_back hs hi hv j (i - j) (by rw [show j + (i - j) = i by omega]; exact e.symm)).symm⟩ (hmin (i - j) (by omega))
theorem itN_mul {m : Nat} (h : itN s v m = v) : ∀ c, itN s v (m * c) = v := by
  intro c
  induction c with
  | zero => rfl
  | succ c ih => rw [Nat.mul_succ, itN_add, ih, h]
theorem itN_mod {m : Nat} (h : itN s v m = v) (i : Nat) : itN s v i = itN s v (i % m) := by
  have e : i = m * (i / m) + i % m := (Nat.div_add_mod i m).symm
  have e2 : itN s v i = itN s v (m * (i / m) + i % m) := congrArg _ e
  rw [e2, itN_add, itN_mul h]
/-- who comes to t comes from t -/
theorem itN_cover {m t : Nat} {h : Nat → Int} (hs : ∀ a, P a → P (s a)) (hi : ∀ a b, P a → P b → s a = s b → a = b) (hl : ∀ a, P a → a < n) (hne : ∀ a, P a → s a ≠ a) (hh : ∀ a b, P a → P b → a ≠ b → h a ≠ h b) (ht : ∀ u, P u → h u < h (s u) → h (s (s u)) < h (s u) → s u = t) (hv : P v) (h1 : 1 ≤ m) (hm : itN s v m = v) : ∀ p, P p → ∃ k, k < m ∧ itN s v k = p := by
  have reach : ∀ p, P p → ∃ k, itN s p k = t := by
    intro p hp
    obtain ⟨M, m1, m2, m3, m4⟩ := itN_per hs hi hl hp
    obtain ⟨j, hj, _, hmax⟩ := finMin (fun j => j < M) (fun i j => h (itN s p j) ≤ h (itN s p i)) (fun i j _ _ => Int.le_total _ _) (fun i j k _ _ _ a b => Int.le_trans b a) M ⟨0, by omega, by omega⟩
    have all : ∀ k, h (itN s p k) ≤ h (itN s p j) := by
      intro k
      rw [itN_mod m3 k]
      have := Nat.mod_lt k (show M > 0 by omega)
      exact hmax _ this this
    -- one before j
    obtain ⟨i, hi2⟩ : ∃ i, itN s p (i + 1) = itN s p j := by
      refine ⟨j + M - 1, ?_⟩
      rw [show j + M - 1 + 1 = M + j by omega, itN_add, m3]
    refine ⟨i + 1, ?_⟩
    show s (itN s p i) = t
    have Pi := itN_P hs hp i
    have e1 : s (itN s p i) = itN s p j := hi2
    apply ht _ Pi
    · have := all i
      have := hh (itN s p i) (s (itN s p i)) Pi (hs _ Pi) (fun e => hne _ Pi e.symm)
      rw [e1] at this ⊢
      omega
    · have e2 : s (s (itN s p i)) = itN s p (i + 1 + 1) := rfl
      have := all (i + 1 + 1)
      have := hh (s (s (itN s p i))) (s (itN s p i)) (hs _ (hs _ Pi)) (hs _ Pi) (hne _ (hs _ Pi))
      rw [e2, e1] at *
      omega
  intro p hp
  obtain ⟨k1, e1⟩ := reach p hp
  obtain ⟨k2, e2⟩ := reach v hv
  obtain ⟨M, m1, m2, m3, m4⟩ := itN_per hs hi hl hp
  have e3 : itN s t (M * k1 - k1) = p := by
    rw [← e1, ← itN_add]
    have : k1 ≤ M * k1 := Nat.le_mul_of_pos_left _ (by omega)
    rw [show k1 + (M * k1 - k1) = M * k1 by omega, itN_mul m3]
  have e4 : itN s v (k2 + (M * k1 - k1)) = p := by rw [itN_add, e2, e3]
  refine ⟨(k2 + (M * k1 - k1)) % m, Nat.mod_lt _ (by omega), ?_⟩
  rw [← itN_mod hm, e4]
end ZCy
/-- the next of a in the facet's ring -/
noncomputable def zNx (X Y Z : Nat → Int) (n : Nat) (A B C D : Int) (a : Nat) : Nat := @dite Nat (∃ b, zE X Y Z n A B C D a b) (Classical.propDecidable _) (fun h => h.choose) (fun _ => a)
section ZRi
variable {X Y Z : Nat → Int} {n : Nat} {A B C D : Int} {a b v : Nat}
theorem zNx_E (hD : zD X Y Z n) (hF : zF X Y Z n A B C D) (h : zX X Y Z n A B C D a) : zE X Y Z n A B C D a (zNx X Y Z n A B C D a) := by
  have he := zSucc hD (zF_ne hF) h (zOther hF a)
  unfold zNx
  rw [dif_pos he]
  exact he.choose_spec
/-- the ring from v on: its length is the number of points that stand out; it meets each of them once -/
theorem zRing (hM : zM X Y Z n) (hD : zD X Y Z n) (hF : zF X Y Z n A B C D) (hv : zX X Y Z n A B C D v) : ∃ m, m = zC n (fun p => zX X Y Z n A B C D p) ∧ 3 ≤ m ∧ m ≤ n ∧ itN (zNx X Y Z n A B C D) v m = v ∧ (∀ i j, i < m → j < m → itN (zNx X Y Z n A B C D) v i = itN (zNx X Y Z n A B C D) v j → i = j) ∧ (∀ k, zE X Y Z n A B C D (itN (zNx X Y Z n A B C D) v k) (itN (zNx X Y Z n A B C D) v (k + 1))) ∧ (∀ p, zX X Y Z n A B C D p → ∃ k, k < m ∧ itN (zNx X Y Z n A B C D) v k = p) := by
  have hs : ∀ a, zX X Y Z n A B C D a → zX X Y Z n A B C D (zNx X Y Z n A B C D a) := fun a h => zE_X2 hM hD (zNx_E hD hF h)
  have hi : ∀ a b, zX X Y Z n A B C D a → zX X Y Z n A B C D b → zNx X Y Z n A B C D a = zNx X Y Z n A B C D b → a = b := by
    intro a b ha hb e
    have e1 := zNx_E hD hF ha
    have e2 := zNx_E hD hF hb
    rw [← e] at e2
    exact zE_u2 e1 e2
  have hl : ∀ a, zX X Y Z n A B C D a → a < n := fun a h => h.1
  obtain ⟨m, m1, m2, m3, m4⟩ := itN_per hs hi hl hv
  obtain ⟨t, ht, htop⟩ := zHas hM hD hF
  have cov := itN_cover (h := fun p => zh X Y Z t p) (t := t) hs hi hl (fun a ha e => (zNx_E hD hF ha).2.2.1 e.symm) (by
      intro a b ha hb ab e
      have e3 : zh X Y Z t a + zh X Y Z a b = zh X Y Z t b := zh_tr
      exact zh_ne hM hD ha.1 hb.1 ab (by omega)) (by
      intro u hu h1 h2
      have e1 := zNx_E hD hF hu
      have e2 := zNx_E hD hF (hs u hu)
      apply Classical.byContradiction
      intro hne
      have hloc := zLocal 4194304 2048 1 hM hD hF e1 e2 (by
        show zh X Y Z _ _ ≤ 0
        have e3 : zh X Y Z t (zNx X Y Z n A B C D u) + zh X Y Z (zNx X Y Z n A B C D u) u = zh X Y Z t u := zh_tr
        omega) (by
        show zh X Y Z _ _ ≤ 0
        have e3 : zh X Y Z t (zNx X Y Z n A B C D u) + zh X Y Z (zNx X Y Z n A B C D u) (zNx X Y Z n A B C D (zNx X Y Z n A B C D u)) = zh X Y Z t (zNx X Y Z n A B C D (zNx X Y Z n A B C D u)) := zh_tr
        omega) ht.1 ht.2.1
      have h3 := htop _ e1.2.1 hne e1.2.2.2.2.1
      have e4 : zh X Y Z (zNx X Y Z n A B C D u) t = - zh X Y Z t (zNx X Y Z n A B C D u) := zh_neg
      have : zh X Y Z (zNx X Y Z n A B C D u) t ≤ 0 := hloc
      omega) hv m1 m3
  have hm : m = zC n (fun p => zX X Y Z n A B C D p) := by
    apply Nat.le_antisymm
    · have := zC_map (P := fun _ => True) (Q := fun p => zX X Y Z n A B C D p) (R := fun k p => itN (zNx X Y Z n A B C D) v k = p) n m (fun k _ _ => ⟨_, (itN_P hs hv k).1, itN_P hs hv k, rfl⟩) (fun i j p h1 h2 _ _ e1 e2 => m4 i j h1 h2 (e1.trans e2.symm))
      rw [zC_true] at this
      exact this
    · have := zC_map (P := fun p => zX X Y Z n A B C D p) (Q := fun _ => True) (R := fun p k => itN (zNx X Y Z n A B C D) v k = p) m n (fun p _ hp => by obtain ⟨k, h1, h2⟩ := cov p hp; exact ⟨k, h1, trivial, h2⟩) (fun i j k _ _ _ _ e1 e2 => e1.symm.trans e2)
      rw [zC_true] at this
      exact this
  refine ⟨m, hm, ?_, m2, m3, m4, ?_, cov⟩
  · rw [hm]; exact zThree hM hD hF
  · intro k
    exact zNx_E hD hF (itN_P hs hv k)
end ZRi
