/-! ===== steps: level sets and relaxing ===== -/
def AdjE (el eh : Nat → Nat) (ne x y : Nat) : Prop := ∃ k, k < ne ∧ ((el k = x ∧ eh k = y) ∨ (el k = y ∧ eh k = x))
def Lv (el eh : Nat → Nat) (ne a : Nat) : Nat → Nat → Prop
  | 0, v => v = a
  | j + 1, v => Lv el eh ne a j v ∨ ∃ w, Lv el eh ne a j w ∧ AdjE el eh ne w v
theorem AdjE.sy {el eh : Nat → Nat} {ne x y : Nat} (h : AdjE el eh ne x y) : AdjE el eh ne y x := by
  obtain ⟨k, hk, h⟩ := h
  exact ⟨k, hk, h.symm⟩
section M15a
variable {el eh : Nat → Nat} {ne a : Nat}
theorem end_bt {k i : Nat} (hl : el k < 32) (hh : eh k < 32) (hi : i < 32) : bt (endI el eh k) i = (decide (i = el k) || decide (i = eh k)) := by
  unfold endI
  rw [b_or, bt_bit hl hi, bt_bit hh hi]
theorem and_end {s : Int32} {k : Nat} (hl : el k < 32) (hh : eh k < 32) : s &&& endI el eh k = 0 ↔ (bt s (el k) = false ∧ bt s (eh k) = false) := by
  rw [i32_0]
  constructor
  · intro h
    have h1 := h (el k) hl
    have h2 := h (eh k) hh
    rw [b_and, end_bt hl hh hl] at h1
    rw [b_and, end_bt hl hh hh] at h2
    simp at h1 h2
    exact ⟨h1, h2⟩
  · rintro ⟨h1, h2⟩ i hi
    rw [b_and, end_bt hl hh hi]
    by_cases e1 : i = el k
    · subst e1; rw [h1]; rfl
    · by_cases e2 : i = eh k
      · subst e2; rw [h2]; rfl
      · simp [e1, e2]
theorem stp_bt (hl : ∀ k, el k < 32) (hh : ∀ k, eh k < 32) {s : Int32} {i : Nat} (hi : i < 32) : ∀ k, bt (stpI el eh s k) i = true ↔ (bt s i = true ∨ ∃ j, j < k ∧ (bt s (el j) = true ∨ bt s (eh j) = true) ∧ (i = el j ∨ i = eh j)) := by
  intro k
  induction k with
  | zero => simp [stpI]
  | succ k ih =>
    simp only [stpI]
    by_cases h : s &&& endI el eh k = 0
    · rw [if_pos h, ih]
      obtain ⟨h1, h2⟩ := (and_end (hl k) (hh k)).mp h
      constructor
      · rintro (h | ⟨j, hj, q⟩)
        · exact Or.inl h
        · exact Or.inr ⟨j, by omega, q⟩
      · rintro (h | ⟨j, hj, q1, q2⟩)
        · exact Or.inl h
        · rcases Nat.lt_or_ge j k with h3 | h3
          · exact Or.inr ⟨j, h3, q1, q2⟩
          · have e : j = k := by omega
            subst e
            rw [h1, h2] at q1
            simp at q1
    · rw [if_neg h, b_or, end_bt (hl k) (hh k) hi, Bool.or_eq_true, ih]
      have h1 : bt s (el k) = true ∨ bt s (eh k) = true := by
        cases q1 : bt s (el k) with
        | true => exact Or.inl rfl
        | false =>
          cases q2 : bt s (eh k) with
          | true => exact Or.inr rfl
          | false => exact absurd ((and_end (hl k) (hh k)).mpr ⟨q1, q2⟩) h
      constructor
      · rintro ((h | ⟨j, hj, q⟩) | h)
        · exact Or.inl h
        · exact Or.inr ⟨j, by omega, q⟩
        · simp at h
          exact Or.inr ⟨k, by omega, h1, h⟩
      · rintro (h | ⟨j, hj, q1, q2⟩)
        · exact Or.inl (Or.inl h)
        · rcases Nat.lt_or_ge j k with h3 | h3
          · exact Or.inl (Or.inr ⟨j, h3, q1, q2⟩)
          · have e : j = k := by omega
            subst e
            exact Or.inr (by simpa using q2)
theorem re_bt (hl : ∀ k, el k < 32) (hh : ∀ k, eh k < 32) (ha : a < 32) : ∀ j i, i < 32 → (bt (reI el eh ne (nI 1 <<< (nI a &&& 31)) j) i = true ↔ Lv el eh ne a j i) := by
  intro j
  induction j with
  | zero => intro i hi; simp only [reI, Lv]; rw [bt_bit ha hi]; simp
  | succ j ih =>
    intro i hi
    simp only [reI, Lv]
    rw [stp_bt hl hh hi, ih i hi]
    constructor
    · rintro (h | ⟨k, hk, h1, h2⟩)
      · exact Or.inl h
      · rw [ih _ (hl k), ih _ (hh k)] at h1
        rcases h1 with h1 | h1 <;> rcases h2 with h2 | h2
        · exact Or.inl (h2 ▸ h1)
        · exact Or.inr ⟨el k, h1, k, hk, Or.inl ⟨rfl, h2.symm⟩⟩
        · exact Or.inr ⟨eh k, h1, k, hk, Or.inr ⟨h2.symm, rfl⟩⟩
        · exact Or.inl (h2 ▸ h1)
    · rintro (h | ⟨w, hw, k, hk, h⟩)
      · exact Or.inl h
      · refine Or.inr ⟨k, hk, ?_, ?_⟩
        · rw [ih _ (hl k), ih _ (hh k)]
          rcases h with h | h
          · exact Or.inl (h.1 ▸ hw)
          · exact Or.inr (h.2 ▸ hw)
        · rcases h with h | h
          · exact Or.inr h.2.symm
          · exact Or.inl h.1.symm
theorem Lv_up {j v : Nat} (h : Lv el eh ne a j v) : ∀ d, Lv el eh ne a (j + d) v := by
  intro d
  induction d with
  | zero => exact h
  | succ d ih => exact Or.inl ih
theorem Lv_mono {i j v : Nat} (hij : i ≤ j) (h : Lv el eh ne a i v) : Lv el eh ne a j v := by
  have := Lv_up h (j - i)
  rwa [show i + (j - i) = j by omega] at this
/-- the first level that holds b is below n -/
theorem Lv_len {n b : Nat} (hl : ∀ k, k < ne → el k < n) (hh : ∀ k, k < ne → eh k < n) (ha : a < n) {j : Nat} (h1 : Lv el eh ne a j b) (h2 : ∀ i, i < j → ¬ Lv el eh ne a i b) : j < n := by
  have hlt : ∀ i v, Lv el eh ne a i v → v < n := by
    intro i
    induction i with
    | zero => intro v hv; rw [hv]; exact ha
    | succ i ih =>
      rintro v (hv | ⟨w, _, k, hk, hv⟩)
      · exact ih v hv
      · rcases hv with hv | hv
        · rw [← hv.2]; exact hh k hk
        · rw [← hv.1]; exact hl k hk
  have key : ∀ d, d ≤ j → ∃ v, Lv el eh ne a (j - d) v ∧ ∀ i, i < j - d → ¬ Lv el eh ne a i v := by
    intro d
    induction d with
    | zero => intro _; exact ⟨b, h1, h2⟩
    | succ d ih =>
      intro hd
      obtain ⟨v, q1, q2⟩ := ih (by omega)
      rw [show j - d = (j - (d + 1)) + 1 by omega] at q1 q2
      rcases q1 with q1 | ⟨w, q1, q3⟩
      · exact absurd q1 (q2 _ (by omega))
      · exact ⟨w, q1, fun i hi hw => q2 (i + 1) (by omega) (Or.inr ⟨w, hw, q3⟩)⟩
  have hc := zC_map (P := fun _ => True) (Q := fun _ => True) (R := fun i v => Lv el eh ne a i v ∧ ∀ k, k < i → ¬ Lv el eh ne a k v) n (j + 1) (fun i hi _ => by
    obtain ⟨v, q1, q2⟩ := key (j - i) (by omega)
    rw [show j - (j - i) = i by omega] at q1 q2
    exact ⟨v, hlt _ _ q1, trivial, q1, q2⟩) (fun i i' v hi hi' _ _ r1 r2 => by
      rcases Nat.lt_trichotomy i i' with h | h | h
      · exact absurd r1.1 (r2.2 i h)
      · exact h
      · exact absurd r2.1 (r1.2 i' h))
  rw [zC_true, zC_true] at hc
  omega
/-! relaxing -/
theorem rlx1_dn (g : Nat → Nat) (x y : Nat) (i : Nat) : rlx1 g x y i ≤ g i := by
  simp only [rlx1, updN]
  split
  · rename_i h
    subst h
    split <;> omega
  · omega
theorem rlx1_x (g : Nat → Nat) (x y : Nat) : rlx1 g x y x ≤ g y + 1 := by
  simp only [rlx1, updN, if_pos]
  split <;> omega
theorem rlxE_dn (e g : Nat → Nat) : ∀ k i, rlxE e g k i ≤ g i := by
  intro k
  induction k with
  | zero => intro i; exact Nat.le_refl _
  | succ k ih =>
    intro i
    have h1 := rlx1_dn (rlx1 (rlxE e g k) (e k / 32) (e k % 32)) (e k % 32) (e k / 32) i
    have h2 := rlx1_dn (rlxE e g k) (e k / 32) (e k % 32) i
    have h3 := ih i
    simp only [rlxE]; omega
theorem rlxE_ed (e g : Nat → Nat) {j : Nat} : ∀ k, j < k → rlxE e g k (e j / 32) ≤ g (e j % 32) + 1 ∧ rlxE e g k (e j % 32) ≤ g (e j / 32) + 1 := by
  intro k
  induction k with
  | zero => intro h; omega
  | succ k ih =>
    intro hj
    simp only [rlxE]
    rcases Nat.lt_or_ge j k with h | h
    · obtain ⟨q1, q2⟩ := ih h
      have a1 := rlx1_dn (rlx1 (rlxE e g k) (e k / 32) (e k % 32)) (e k % 32) (e k / 32) (e j / 32)
      have a2 := rlx1_dn (rlxE e g k) (e k / 32) (e k % 32) (e j / 32)
      have b1 := rlx1_dn (rlx1 (rlxE e g k) (e k / 32) (e k % 32)) (e k % 32) (e k / 32) (e j % 32)
      have b2 := rlx1_dn (rlxE e g k) (e k / 32) (e k % 32) (e j % 32)
      omega
    · have ej : j = k := by omega
      subst ej
      have a1 := rlx1_dn (rlx1 (rlxE e g j) (e j / 32) (e j % 32)) (e j % 32) (e j / 32) (e j / 32)
      have a2 := rlx1_x (rlxE e g j) (e j / 32) (e j % 32)
      have a3 := rlxE_dn e g j (e j % 32)
      have b1 := rlx1_x (rlx1 (rlxE e g j) (e j / 32) (e j % 32)) (e j % 32) (e j / 32)
      have b2 := rlx1_dn (rlxE e g j) (e j / 32) (e j % 32) (e j / 32)
      have b3 := rlxE_dn e g j (e j / 32)
      omega
/-- far holds lengths of ways -/
def Snd (el eh : Nat → Nat) (ne a n : Nat) (g : Nat → Nat) : Prop := ∀ v, v < n → g v < 99 → Lv el eh ne a (g v) v
theorem Snd_1 {n x y : Nat} {g : Nat → Nat} (hA : AdjE el eh ne y x) (hy : y < n) (hg : ∀ v, v < n → g v ≤ 99) (h : Snd el eh ne a n g) : Snd el eh ne a n (rlx1 g x y) := by
  intro v hv
  simp only [rlx1, updN]
  split
  · rename_i e
    subst e
    split
    · rename_i q
      intro _
      have := hg v hv
      exact Or.inr ⟨y, h y hy (by omega), hA⟩
    · exact h v hv
  · exact h v hv
theorem rlx1_99 {n : Nat} {g : Nat → Nat} (x y : Nat) (h : ∀ i, i < n → g i ≤ 99) : ∀ i, i < n → rlx1 g x y i ≤ 99 := fun i hi => Nat.le_trans (rlx1_dn g x y i) (h i hi)
theorem Snd_E {n : Nat} {e g : Nat → Nat} (he : ∀ k, k < ne → el k = e k / 32 ∧ eh k = e k % 32 ∧ e k / 32 < n ∧ e k % 32 < n) (hg : ∀ v, v < n → g v ≤ 99) (h : Snd el eh ne a n g) : ∀ k, k ≤ ne → Snd el eh ne a n (rlxE e g k) ∧ ∀ v, v < n → rlxE e g k v ≤ 99 := by
  intro k
  induction k with
  | zero => intro _; exact ⟨h, hg⟩
  | succ k ih =>
    intro hk
    obtain ⟨q1, q2⟩ := ih (by omega)
    obtain ⟨e1, e2, e3, e4⟩ := he k (by omega)
    have A1 : AdjE el eh ne (e k % 32) (e k / 32) := ⟨k, by omega, Or.inr ⟨e1, e2⟩⟩
    exact ⟨Snd_1 A1.sy e3 (rlx1_99 _ _ q2) (Snd_1 A1 e4 q2 q1), rlx1_99 _ _ (rlx1_99 _ _ q2)⟩
theorem rlxN_ok {n : Nat} {e g : Nat → Nat} (he : ∀ k, k < ne → el k = e k / 32 ∧ eh k = e k % 32 ∧ e k / 32 < n ∧ e k % 32 < n) (ha : a < n) : ∀ r, (Snd el eh ne a n (rlxN e ne (farI g a n) r) ∧ ∀ v, v < n → rlxN e ne (farI g a n) r v ≤ 99) ∧ ∀ j v, j ≤ r → Lv el eh ne a j v → rlxN e ne (farI g a n) r v ≤ j := by
  intro r
  induction r with
  | zero =>
    refine ⟨⟨?_, ?_⟩, ?_⟩
    · intro v hv
      simp only [rlxN, farI, if_pos hv]
      split
      · rename_i h; intro _; exact h
      · intro h; omega
    · intro v hv
      simp only [rlxN, farI, if_pos hv]
      split <;> omega
    · intro j v hj hv
      have e : j = 0 := by omega
      subst e
      have e : v = a := hv
      subst e
      simp [rlxN, farI, ha]
  | succ r ih =>
    obtain ⟨⟨i1, i2⟩, i3⟩ := ih
    refine ⟨Snd_E he i2 i1 ne (Nat.le_refl _), ?_⟩
    intro j v hj hv
    simp only [rlxN]
    have dn := rlxE_dn e (rlxN e ne (farI g a n) r) ne v
    cases j with
    | zero => have := i3 0 v (by omega) hv; omega
    | succ j =>
      rcases hv with hv | ⟨w, hw, k, hk, hv⟩
      · have := i3 j v (by omega) hv; omega
      · have h1 := i3 j w (by omega) hw
        obtain ⟨q1, q2⟩ := rlxE_ed e (rlxN e ne (farI g a n) r) ne hk
        obtain ⟨e1, e2, e3, e4⟩ := he k hk
        rw [← e1, ← e2] at q1 q2
        rcases hv with ⟨v1, v2⟩ | ⟨v1, v2⟩
        · rw [v1, v2] at q2; omega
        · rw [v1, v2] at q1; omega
theorem wl_least {s : Int32} {b j0 : Nat} (hj : j0 < 24) (h1 : hldB (reI el eh ne s j0) b = true) (h2 : ∀ i, i < j0 → hldB (reI el eh ne s i) b = false) : ∀ k j, j ≤ j0 → j0 < j + k → wlI el eh ne s b k j = nI j0 := by
  intro k
  induction k with
  | zero => intro j h3 h4; omega
  | succ k ih =>
    intro j h3 h4
    simp only [wlI]
    rw [if_pos (by omega)]
    rcases Nat.lt_or_ge j j0 with h | h
    · rw [h2 j h, if_neg (by decide)]
      exact ih (j + 1) (by omega) (by omega)
    · have e : j = j0 := by omega
      subst e
      rw [h1, if_pos rfl]
theorem walk_ok {n b : Nat} {e g : Nat → Nat} (hn : n ≤ 24) (hl : ∀ k, el k < 24) (hh : ∀ k, eh k < 24) (he : ∀ k, k < ne → el k = e k / 32 ∧ eh k = e k % 32 ∧ e k / 32 < n ∧ e k % 32 < n) (ha : a < n) (hb : b < n) (hc : ∃ j, Lv el eh ne a j b) : wlI el eh ne (nI 1 <<< (nI a &&& 31)) b 25 0 = nI (rlxN e ne (farI g a n) n b) := by
  obtain ⟨j, h1, h2⟩ := leastN _ hc
  have hj : j < n := Lv_len (fun k hk => by rw [(he k hk).1]; exact (he k hk).2.2.1) (fun k hk => by rw [(he k hk).2.1]; exact (he k hk).2.2.2) ha h1 h2
  have hB : ∀ i, hldB (reI el eh ne (nI 1 <<< (nI a &&& 31)) i) b = true ↔ Lv el eh ne a i b := by
    intro i
    rw [hldB_bt (by omega)]
    exact re_bt (fun k => by have := hl k; omega) (fun k => by have := hh k; omega) (by omega) i b (by omega)
  rw [wl_least (j0 := j) (by omega) ((hB j).mpr h1) (fun i hi => by
    cases q : hldB (reI el eh ne (nI 1 <<< (nI a &&& 31)) i) b with
    | false => rfl
    | true => exact absurd ((hB i).mp q) (h2 i hi)) 25 0 (by omega) (by omega)]
  obtain ⟨⟨s1, s2⟩, s3⟩ := rlxN_ok (g := g) he ha n
  have q1 := s3 j b (by omega) h1
  have q2 := s1 b hb (by omega)
  have q3 : j ≤ rlxN e ne (farI g a n) n b := by
    rcases Nat.lt_or_ge (rlxN e ne (farI g a n) n b) j with h | h
    · exact absurd q2 (h2 _ h)
    · exact h
  rw [show rlxN e ne (farI g a n) n b = j by omega]
end M15a
