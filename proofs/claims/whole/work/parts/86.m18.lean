/-! ===== small agreements ===== -/
theorem wh_rng {n : Nat} (hn : n + 1 < 2 ^ 31) (q : Int32) : whB n q = rngB (n + 1) q := by
  unfold whB rngB
  congr 2
  apply decide_eq_decide.mpr
  rw [Int32.lt_iff_toInt_lt, Int32.le_iff_toInt_le, nI_toInt (by omega), nI_toInt hn]
  omega
theorem sdI_c {d : Nat → Int64} : ∀ n, ((∃ i, i < n ∧ 0 < d i) → sdI d n = -1) ∧ ((∀ i, i < n → ¬ 0 < d i) → (∃ i, i < n ∧ d i = 0) → sdI d n = 0) ∧ ((∀ i, i < n → ¬ 0 < d i) → (∀ i, i < n → ¬ d i = 0) → sdI d n = 1) := by
  intro n
  induction n with
  | zero => exact ⟨fun ⟨i, hi, _⟩ => absurd hi (Nat.not_lt_zero i), fun _ ⟨i, hi, _⟩ => absurd hi (Nat.not_lt_zero i), fun _ _ => rfl⟩
  | succ n ih =>
    obtain ⟨i1, i2, i3⟩ := ih
    simp only [sdI]
    refine ⟨?_, ?_, ?_⟩
    · rintro ⟨i, hi, h⟩
      by_cases hp : 0 < d n
      · rw [if_pos hp]
      · have hi' : i < n := by
          rcases Nat.lt_or_ge i n with h2 | h2
          · exact h2
          · exact absurd (show 0 < d n by rw [show n = i by omega]; exact h) hp
        rw [if_neg hp, i1 ⟨i, hi', h⟩, if_neg (by rintro ⟨_, h⟩; exact absurd h (by decide))]
    · rintro hp ⟨i, hi, h⟩
      rw [if_neg (hp n (by omega))]
      have hp' : ∀ i, i < n → ¬ 0 < d i := fun i hi => hp i (by omega)
      by_cases hz : ∃ i, i < n ∧ d i = 0
      · rw [i2 hp' hz, if_neg (by rintro ⟨_, h⟩; exact absurd h (by decide))]
      · have hz' : ∀ i, i < n → ¬ d i = 0 := fun i hi e => hz ⟨i, hi, e⟩
        have hn : d n = 0 := by
          rcases Nat.lt_or_ge i n with h2 | h2
          · exact absurd h (hz' i h2)
          · rw [show n = i by omega]; exact h
        rw [if_pos ⟨hn, i3 hp' hz'⟩]
    · intro hp hz
      rw [if_neg (hp n (by omega)), if_neg (fun h => hz n (by omega) h.1), i3 (fun i hi => hp i (by omega)) (fun i hi => hz i (by omega))]
theorem lcI_c {H : Nat → Int64} {n : Nat} : ∀ k j r, n < j + k → ((∃ i, j ≤ i ∧ i < n ∧ 0 < H i) → lcI H n k j r = -1) ∧ ((∀ i, j ≤ i → i < n → ¬ 0 < H i) → (∃ i, j ≤ i ∧ i < n ∧ H i = 0) → lcI H n k j r = 0) ∧ ((∀ i, j ≤ i → i < n → ¬ 0 < H i) → (∀ i, j ≤ i → i < n → ¬ H i = 0) → lcI H n k j r = r) := by
  intro k
  induction k with
  | zero =>
    intro j r hk
    exact ⟨fun ⟨i, h1, h2, _⟩ => by omega, fun _ ⟨i, h1, h2, _⟩ => by omega, fun _ _ => rfl⟩
  | succ k ih =>
    intro j r hk
    simp only [lcI]
    by_cases hj : j < n
    · rw [if_pos hj]
      obtain ⟨i1, i2, i3⟩ := ih (j + 1) (if H j = 0 then 0 else r) (by omega)
      by_cases hp : 0 < H j
      · rw [if_pos hp]
        exact ⟨fun _ => rfl, fun h => absurd hp (h j (Nat.le_refl _) hj), fun h => absurd hp (h j (Nat.le_refl _) hj)⟩
      · rw [if_neg hp]
        refine ⟨?_, ?_, ?_⟩
        · rintro ⟨i, h1, h2, h3⟩
          have : j ≠ i := fun e => hp (e ▸ h3)
          exact i1 ⟨i, by omega, h2, h3⟩
        · rintro h ⟨i, h1, h2, h3⟩
          by_cases hz : ∃ i, j + 1 ≤ i ∧ i < n ∧ H i = 0
          · exact i2 (fun i h1 h2 => h i (by omega) h2) hz
          · have hz' : ∀ i, j + 1 ≤ i → i < n → ¬ H i = 0 := fun i h1 h2 e => hz ⟨i, h1, h2, e⟩
            have e : i = j := by
              rcases Nat.lt_or_ge j i with h4 | h4
              · exact absurd h3 (hz' i (by omega) h2)
              · omega
            subst e
            rw [i3 (fun i h1 h2 => h i (by omega) h2) hz', if_pos h3]
        · intro h hz
          rw [i3 (fun i h1 h2 => h i (by omega) h2) (fun i h1 h2 => hz i (by omega) h2), if_neg (hz j (Nat.le_refl _) hj)]
    · rw [if_neg hj]
      exact ⟨fun ⟨i, h1, h2, _⟩ => by omega, fun _ ⟨i, h1, h2, _⟩ => by omega, fun _ _ => rfl⟩
/-- where a point lies: the faces' order doesn't matter -/
theorem side_ok {d : Nat → Int64} {p : Nat → Nat} {N : Nat} (h1 : ∀ k, k < N → p k < N) (h2 : ∀ f, f < N → ∃ k, k < N ∧ p k = f) : lcI (fun f => d (p f)) N (N + 1) 0 1 = sdI d N := by
  obtain ⟨a1, a2, a3⟩ := sdI_c (d := d) N
  obtain ⟨b1, b2, b3⟩ := lcI_c (H := fun f => d (p f)) (n := N) (N + 1) 0 1 (by omega)
  by_cases hp : ∃ i, i < N ∧ 0 < d i
  · rw [a1 hp]
    obtain ⟨i, hi, h⟩ := hp
    obtain ⟨k, hk, e⟩ := h2 i hi
    exact b1 ⟨k, by omega, hk, by rw [e]; exact h⟩
  · have hp' : ∀ i, i < N → ¬ 0 < d i := fun i hi h => hp ⟨i, hi, h⟩
    have hq : ∀ i, 0 ≤ i → i < N → ¬ 0 < d (p i) := fun i _ hi => hp' _ (h1 i hi)
    by_cases hz : ∃ i, i < N ∧ d i = 0
    · rw [a2 hp' hz]
      obtain ⟨i, hi, h⟩ := hz
      obtain ⟨k, hk, e⟩ := h2 i hi
      exact b2 hq ⟨k, by omega, hk, by rw [e]; exact h⟩
    · have hz' : ∀ i, i < N → ¬ d i = 0 := fun i hi h => hz ⟨i, hi, h⟩
      rw [a3 hp' hz']
      exact b3 hq (fun i _ hi => hz' _ (h1 i hi))
/-- the furthest corner -/
theorem sup_ok {co : Int32} {ic : Nat → Bool} {d d' : Nat → Int64} : ∀ n, n ≤ 24 → (∀ k, k < n → hldB co k = ic k) → (∀ k, k < n → d k = d' k) → frN co d n = supP ic d' n ∧ ((frN co d n).1 = -1 ∨ ∃ j, j < 24 ∧ (frN co d n).1 = nI j) := by
  intro n
  induction n with
  | zero => intro _ _ _; exact ⟨rfl, Or.inl rfl⟩
  | succ n ih =>
    intro hn h1 h2
    obtain ⟨i1, i2⟩ := ih (by omega) (fun k hk => h1 k (by omega)) (fun k hk => h2 k (by omega))
    have hneg : (frN co d n).1 = -1 ↔ (frN co d n).1 < 0 := by
      rcases i2 with e | ⟨j, hj, e⟩
      · rw [e]; decide
      · rw [e]
        constructor
        · intro h
          have := congrArg Int32.toInt h
          rw [nI_toInt (by omega)] at this
          have e2 : (-1 : Int32).toInt = -1 := by decide
          omega
        · intro h; exact absurd h (nI_pos (by omega))
    simp only [frN, supP]
    rw [h1 n (by omega), h2 n (by omega)]
    by_cases hc : ic n = true ∧ ((frN co d n).1 = -1 ∨ (frN co d n).2 < d' n)
    · rw [if_pos hc, if_pos (by rw [← i1]; exact ⟨hc.1, hc.2.imp hneg.mp id⟩)]
      exact ⟨rfl, Or.inr ⟨n, by omega, rfl⟩⟩
    · rw [if_neg hc, if_neg (by rw [← i1]; exact fun h => hc ⟨h.1, h.2.imp hneg.mpr id⟩)]
      exact ⟨i1, i2⟩
theorem cnt_ok {co : Int32} {ic : Nat → Bool} {nh : Nat} (hn : nh ≤ 24) (h : ∀ q, q < 32 → (bt co q = true ↔ q < nh ∧ ic q = true)) : bcF co = nI (cntB nh ic) := by
  rw [bcF_cnt]
  · congr 1
    rw [cntB_zC, cntB_zC]
    have e : zC 24 (fun q => bt co q = true) = zC 24 (fun q => q < nh ∧ ic q = true) := zC_congr (fun i hi => h i (by omega))
    rw [e, zC_ext (fun i hi => hi.1) 24 hn]
    exact zC_congr (fun i hi => ⟨fun h => h.2, fun h => ⟨hi, h⟩⟩)
  · intro i h1 h2
    cases q : bt co i with
    | false => rfl
    | true => have := (h i h2).mp q; omega
theorem cor_ok {co : Int32} {n : Nat} {e : Nat → Nat} {nh : Nat} (hn : nh ≤ 24) (h : ∀ q, q < 32 → (bt co q = true ↔ q < nh ∧ icB n e (nI q) = true)) (q : Int32) : (rngB 24 q && hldB co q.toNatClampNeg) = (rngB nh q && icB n e q) := by
  have key : ∀ j, j < 24 → (rngB 24 (nI j) && hldB co (nI j).toNatClampNeg) = (rngB nh (nI j) && icB n e (nI j)) := by
    intro j hj
    rw [rngB_nI hj (by omega), nI_clamp (by omega), hldB_bt (by omega), Bool.true_and]
    rw [Bool.eq_iff_iff, h j (by omega), Bool.and_eq_true]
    constructor
    · rintro ⟨a, b⟩
      exact ⟨rngB_nI a (by omega), b⟩
    · rintro ⟨a, b⟩
      refine ⟨?_, b⟩
      obtain ⟨i, hi, e1, _⟩ := rngB_t (by omega) a
      have := (nI_eq (by omega) (by omega)).mp e1
      omega
  cases hq : rngB 24 q with
  | true =>
    obtain ⟨j, hj, e1, _⟩ := rngB_t (by omega) hq
    have := key j hj
    rw [← e1, hq] at this
    exact this
  | false =>
    cases hq2 : rngB nh q with
    | false => rfl
    | true =>
      obtain ⟨j, hj, e1, _⟩ := rngB_t (by omega) hq2
      rw [e1, rngB_nI (show j < 24 by omega) (by omega)] at hq
      cases hq
theorem goT_11 : goT true true = nI 0 := rfl
theorem goT_0 (s : Bool) : goT false s = nI 1 := rfl
theorem goT_10 : goT true false = nI 2 := rfl
