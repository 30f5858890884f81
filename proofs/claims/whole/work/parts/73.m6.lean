/-! ===== both sort their faces alike ===== -/
/-- the first N places hold 0 .. N - 1, by rising keys -/
def PS (key : Nat → Nat) (q : Nat → Nat) (N : Nat) : Prop := (∀ i, i < N → q i < N) ∧ (∀ f, f < N → ∃ i, i < N ∧ q i = f) ∧ ∀ i j, i < j → j < N → key (q i) < key (q j)
theorem PS_uniq {key p q : Nat → Nat} {N : Nat} (hk : ∀ f g, f < N → g < N → key f = key g → f = g) (hp : PS key p N) (hq : PS key q N) : ∀ k, k < N → p k = q k := by
  intro k
  induction k using Nat.strongRecOn with
  | ind k ih =>
    intro hkN
    have le1 : ∀ (p q : Nat → Nat), PS key p N → PS key q N → (∀ m, m < k → m < N → p m = q m) → key (q k) ≤ key (p k) := by
      intro p q hp hq h
      obtain ⟨j, hj, e⟩ := hq.2.1 (p k) (hp.1 k hkN)
      rcases Nat.lt_trichotomy j k with h1 | h1 | h1
      · have e2 := h j h1 (by omega)
        have := hp.2.2 j k h1 hkN
        rw [e2, e] at this
        omega
      · subst h1; rw [e]; exact Nat.le_refl _
      · have := hq.2.2 k j h1 hj
        rw [e] at this; omega
    have h1 := le1 p q hp hq (fun m hm hmN => ih m hm hmN)
    have h2 := le1 q p hq hp (fun m hm hmN => (ih m hm hmN).symm)
    exact hk _ _ (hp.1 k hkN) (hq.1 k hkN) (by omega)
theorem insS_out {rk : Nat → Nat} : ∀ (k : Nat) (p : Nat → Nat) (i : Nat), k < i → insS rk k p i = p i := by
  intro k
  induction k with
  | zero => intro p i _; rfl
  | succ k ih =>
    intro p i hi
    simp only [insS]
    split
    · rw [ih _ i (by omega)]
      simp only [swpN, updN]
      rw [if_neg (by omega), if_neg (by omega)]
    · rfl
/-- what is there before and after -/
theorem swpN_mem {p : Nat → Nat} {k M : Nat} (hk : k + 1 < M) (v : Nat) : (∃ i, i < M ∧ swpN p (k + 1) k i = v) ↔ ∃ i, i < M ∧ p i = v := by
  constructor
  · rintro ⟨i, hi, e⟩
    simp only [swpN, updN] at e
    split at e
    · exact ⟨k + 1, hk, e⟩
    · split at e
      · exact ⟨k, by omega, e⟩
      · exact ⟨i, hi, e⟩
  · rintro ⟨i, hi, e⟩
    by_cases h1 : i = k
    · subst h1
      exact ⟨i + 1, hk, by simp only [swpN, updN]; rw [if_neg (by omega)]; simp [e]⟩
    · by_cases h2 : i = k + 1
      · subst h2
        exact ⟨k, by omega, by simp only [swpN, updN]; simp [e]⟩
      · exact ⟨i, hi, by simp only [swpN, updN]; rw [if_neg h1, if_neg h2, e]⟩
theorem insS_mem {rk : Nat → Nat} {M : Nat} : ∀ (k : Nat) (p : Nat → Nat), k < M → ∀ v, (∃ i, i < M ∧ insS rk k p i = v) ↔ ∃ i, i < M ∧ p i = v := by
  intro k
  induction k with
  | zero => intro p _ v; rfl
  | succ k ih =>
    intro p hk v
    simp only [insS]
    split
    · rw [ih _ (by omega) v, swpN_mem hk v]
    · rfl
theorem swp_a (p : Nat → Nat) (k : Nat) : swpN p (k + 1) k k = p (k + 1) := by simp [swpN, updN]
theorem swp_b (p : Nat → Nat) (k : Nat) : swpN p (k + 1) k (k + 1) = p k := by
  simp only [swpN, updN]; rw [if_neg (by omega)]; simp
theorem swp_c (p : Nat → Nat) {k i : Nat} (h1 : i ≠ k) (h2 : i ≠ k + 1) : swpN p (k + 1) k i = p i := by
  simp only [swpN, updN]; rw [if_neg h1, if_neg h2]
theorem insS_sorted {rk : Nat → Nat} {M : Nat} : ∀ (k : Nat) (p : Nat → Nat), k < M → (∀ i j, i < j → j < M → i ≠ k → j ≠ k → rk (p i) < rk (p j)) → (∀ j, k < j → j < M → rk (p k) < rk (p j)) → (∀ i j, i < M → j < M → i ≠ j → rk (p i) ≠ rk (p j)) → ∀ i j, i < j → j < M → rk (insS rk k p i) < rk (insS rk k p j) := by
  intro k
  induction k with
  | zero =>
    intro p hk h1 h2 _ i j hij hj
    simp only [insS]
    by_cases e : i = 0
    · subst e; exact h2 j hij hj
    · exact h1 i j hij hj e (by omega)
  | succ k ih =>
    intro p hk h1 h2 h3 i j hij hj
    simp only [insS]
    split
    · rename_i hlt
      refine ih (swpN p (k + 1) k) (by omega) ?_ ?_ ?_ i j hij hj
      · intro i j hij hj hik hjk
        by_cases e1 : i = k + 1
        · subst e1
          rw [swp_b, swp_c p hjk (by omega)]
          exact h1 k j (by omega) hj (by omega) (by omega)
        · rw [swp_c p hik e1]
          by_cases e2 : j = k + 1
          · subst e2
            rw [swp_b]
            exact h1 i k (by omega) (by omega) (by omega) (by omega)
          · rw [swp_c p hjk e2]
            exact h1 i j hij hj e1 e2
      · intro j hkj hj
        rw [swp_a]
        by_cases e2 : j = k + 1
        · subst e2; rw [swp_b]; exact hlt
        · rw [swp_c p (by omega) e2]
          exact h2 j (by omega) hj
      · intro i j hi hj hij
        have v : ∀ x, x < M → ∃ y, y < M ∧ swpN p (k + 1) k x = p y ∧ (x = k → y = k + 1) ∧ (x = k + 1 → y = k) ∧ (x ≠ k → x ≠ k + 1 → y = x) := by
          intro x hx
          by_cases e1 : x = k
          · subst e1; exact ⟨x + 1, by omega, swp_a p x, fun _ => rfl, fun h => by omega, fun h => by omega⟩
          · by_cases e2 : x = k + 1
            · subst e2; exact ⟨k, by omega, swp_b p k, fun h => by omega, fun _ => rfl, fun _ h => by omega⟩
            · exact ⟨x, hx, swp_c p e1 e2, fun h => by omega, fun h => by omega, fun _ _ => rfl⟩
        obtain ⟨y1, a1, a2, a3, a4, a5⟩ := v i hi
        obtain ⟨y2, b1, b2, b3, b4, b5⟩ := v j hj
        rw [a2, b2]
        exact h3 y1 y2 a1 b1 (by omega)
    · rename_i hlt
      have hlt2 : rk (p k) < rk (p (k + 1)) := by
        have := h3 k (k + 1) (by omega) hk (by omega)
        omega
      by_cases e1 : i = k + 1
      · subst e1; exact h2 j hij hj
      · by_cases e2 : j = k + 1
        · subst e2
          by_cases e3 : i = k
          · subst e3; exact hlt2
          · have := h1 i k (by omega) (by omega) (by omega) (by omega)
            omega
        · exact h1 i j hij hj e1 e2
/-- one more put in -/
theorem PS_step {key q : Nat → Nat} {n : Nat} (hq : PS key q n) (hn : q n = n) (hk : ∀ f g, f < n + 1 → g < n + 1 → key f = key g → f = g) : PS key (insS key n q) (n + 1) := by
  have hb : ∀ i, i < n + 1 → q i < n + 1 := by
    intro i hi
    by_cases e : i = n
    · subst e; rw [hn]; omega
    · have := hq.1 i (by omega); omega
  have hs : ∀ f, f < n + 1 → ∃ i, i < n + 1 ∧ q i = f := by
    intro f hf
    by_cases e : f = n
    · exact ⟨n, by omega, by rw [hn, e]⟩
    · obtain ⟨i, h1, h2⟩ := hq.2.1 f (by omega)
      exact ⟨i, by omega, h2⟩
  have hne : ∀ i j, i < n + 1 → j < n + 1 → i ≠ j → key (q i) ≠ key (q j) := by
    intro i j hi hj hij e
    have e2 := hk _ _ (hb i hi) (hb j hj) e
    have aux : ∀ i j, i < j → j < n + 1 → q i = q j → False := by
      intro i j h1 h2 e3
      by_cases ej : j = n
      · subst ej
        have := hq.1 i h1
        rw [e3, hn] at this
        omega
      · have := hq.2.2 i j h1 (by omega)
        rw [e3] at this; omega
    rcases Nat.lt_or_gt_of_ne hij with h | h
    · exact aux i j h hj e2
    · exact aux j i h hi e2.symm
  refine ⟨?_, ?_, insS_sorted n q (by omega) (fun i j h1 h2 h3 h4 => hq.2.2 i j h1 (by omega)) (fun j h1 h2 => by omega) hne⟩
  · intro i hi
    obtain ⟨j, hj, e⟩ := (insS_mem (M := n + 1) n q (by omega) (insS key n q i)).mp ⟨i, hi, rfl⟩
    rw [← e]; exact hb j hj
  · intro f hf
    exact (insS_mem (M := n + 1) n q (by omega) f).mpr (hs f hf)
theorem insL_eq {key : Nat → Nat} (f : Nat) : ∀ (k : Nat) (p : Nat → Nat), insL (fun a b => decide (key a < key b)) f k p = insS key k (updN p k f) := by
  intro k
  induction k with
  | zero => intro p; rfl
  | succ k ih =>
    intro p
    simp only [insL, insS, decide_eq_true_eq]
    have e1 : updN p (k + 1) f (k + 1) = f := by simp [updN]
    have e2 : updN p (k + 1) f k = p k := by simp [updN]
    rw [e1, e2]
    by_cases h : key f < key (p k)
    · rw [if_pos h, if_pos h, ih]
      congr 1
      funext i
      simp only [swpN, updN]
      by_cases h1 : i = k
      · rw [if_pos h1, if_pos h1]; simp
      · rw [if_neg h1, if_neg h1]
        by_cases h2 : i = k + 1
        · rw [if_pos h2, if_pos h2]; simp
        · rw [if_neg h2, if_neg h2]
          rw [if_neg h2]
    · rw [if_neg h, if_neg h]
theorem ordL_PS {key p : Nat → Nat} : ∀ n, (∀ f g, f < n → g < n → key f = key g → f = g) → PS key (ordL (fun a b => decide (key a < key b)) p n) n := by
  intro n
  induction n with
  | zero => intro _; exact ⟨fun i hi => by omega, fun f hf => by omega, fun i j _ hj => by omega⟩
  | succ n ih =>
    intro hk
    have h1 := ih (fun f g hf hg => hk f g (by omega) (by omega))
    simp only [ordL]
    rw [insL_eq]
    refine PS_step ⟨?_, ?_, ?_⟩ (by simp [updN]) hk
    · intro i hi
      simp only [updN]
      rw [if_neg (by omega)]
      exact h1.1 i hi
    · intro f hf
      obtain ⟨i, hi, e⟩ := h1.2.1 f hf
      exact ⟨i, hi, by simp only [updN]; rw [if_neg (by omega)]; exact e⟩
    · intro i j hij hj
      simp only [updN]
      rw [if_neg (by omega), if_neg (by omega)]
      exact h1.2.2 i j hij hj
theorem ordS_out {key : Nat → Nat} {p : Nat → Nat} : ∀ (k i : Nat), k < i → ordS key p k i = p i := by
  intro k
  induction k with
  | zero => intro i _; rfl
  | succ k ih =>
    intro i hi
    simp only [ordS]
    rw [insS_out _ _ _ hi]
    exact ih i (by omega)
theorem ordS_PS {key : Nat → Nat} : ∀ n, (∀ f g, f < n + 1 → g < n + 1 → key f = key g → f = g) → PS key (ordS key (fun i => i) n) (n + 1) := by
  intro n
  induction n with
  | zero => intro _; exact ⟨fun i hi => by simp only [ordS]; exact hi, fun f hf => ⟨f, hf, rfl⟩, fun i j h1 h2 => by omega⟩
  | succ n ih =>
    intro hk
    have h1 := ih (fun f g hf hg => hk f g (by omega) (by omega))
    simp only [ordS]
    exact PS_step h1 (ordS_out n (n + 1) (by omega)) hk
/-- sorting slots is sorting their numbers -/
theorem insS_nat {rk pm : Nat → Nat} : ∀ (k : Nat) (s : Nat → Nat), insS rk k (fun i => pm (s i)) = fun i => pm (insS (fun x => rk (pm x)) k s i) := by
  intro k
  induction k with
  | zero => intro s; rfl
  | succ k ih =>
    intro s
    simp only [insS]
    by_cases h : rk (pm (s (k + 1))) < rk (pm (s k))
    · rw [if_pos h, if_pos h]
      rw [show swpN (fun i => pm (s i)) (k + 1) k = fun i => pm (swpN s (k + 1) k i) by
        funext i
        simp only [swpN, updN]
        split
        · rfl
        · split <;> rfl]
      exact ih _
    · rw [if_neg h, if_neg h]
theorem ordS_nat {rk pm : Nat → Nat} : ∀ (k : Nat), ordS rk pm k = fun i => pm (ordS (fun x => rk (pm x)) (fun i => i) k i) := by
  intro k
  induction k with
  | zero => rfl
  | succ k ih =>
    simp only [ordS]
    rw [ih, insS_nat]
/-- the sums don't see the order -/
def sumL (g : Nat → Int64) (p : Nat → Nat) : Nat → Int64
  | 0 => 0
  | k + 1 => sumL g p k + g (p k)
theorem sumL_congr {g : Nat → Int64} {p q : Nat → Nat} : ∀ n, (∀ i, i < n → p i = q i) → sumL g p n = sumL g q n := by
  intro n
  induction n with
  | zero => intro _; rfl
  | succ n ih => intro h; simp only [sumL]; rw [ih (fun i hi => h i (by omega)), h n (by omega)]
theorem sumL_swp {g : Nat → Int64} {p : Nat → Nat} {k : Nat} : ∀ M, k + 1 < M → sumL g (swpN p (k + 1) k) M = sumL g p M := by
  intro M
  induction M with
  | zero => intro h; omega
  | succ M ih =>
    intro h
    by_cases e : M = k + 1
    · subst e
      simp only [sumL]
      rw [sumL_congr k (fun i hi => swp_c p (by omega) (by omega)), swp_a, swp_b, Int64.add_assoc, Int64.add_comm (g (p (k + 1))), ← Int64.add_assoc]
    · simp only [sumL]
      rw [ih (by omega), swp_c p (by omega) (by omega)]
theorem sumL_insS {g : Nat → Int64} {rk : Nat → Nat} {M : Nat} : ∀ (k : Nat) (p : Nat → Nat), k < M → sumL g (insS rk k p) M = sumL g p M := by
  intro k
  induction k with
  | zero => intro p _; rfl
  | succ k ih =>
    intro p hk
    simp only [insS]
    split
    · rw [ih _ (by omega), sumL_swp M hk]
    · rfl
theorem sumL_ordS {g : Nat → Int64} {rk p : Nat → Nat} {M : Nat} : ∀ k, k < M → sumL g (ordS rk p k) M = sumL g p M := by
  intro k
  induction k with
  | zero => intro _; rfl
  | succ k ih =>
    intro hk
    simp only [ordS]
    rw [sumL_insS _ _ hk, ih (by omega)]
