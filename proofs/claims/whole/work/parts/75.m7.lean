/-! ===== sets of points as bits ===== -/
theorem bt_1 : ∀ j, j < 32 → bt (nI 1) j = decide (j = 0) := by decide +kernel
theorem bt_bit {q i : Nat} (hq : q < 32) (hi : i < 32) : bt (nI 1 <<< (nI q &&& 31)) i = decide (i = q) := by
  rw [b_shl q hq (nI 1) hi]
  by_cases h : q ≤ i
  · rw [bt_1 (i - q) (by omega)]
    by_cases e : i = q
    · subst e; simp
    · have : i - q ≠ 0 := by omega
      simp [h, e, this]
  · have : i ≠ q := by omega
    simp [h, this]
theorem i32_0 {x : Int32} : x = 0 ↔ ∀ i, i < 32 → bt x i = false := by
  constructor
  · intro h i _; rw [h]; exact b_0 i
  · intro h; exact b_ext (fun i hi => by rw [h i hi, b_0])
theorem hldB_bt {s : Int32} {q : Nat} (hq : q < 32) : hldB s q = bt s q := by
  unfold hldB
  cases e : bt s q with
  | false =>
    have : s &&& (nI 1 <<< (nI q &&& 31)) = 0 := by
      rw [i32_0]
      intro i hi
      rw [b_and, bt_bit hq hi]
      by_cases h : i = q
      · subst h; rw [e]; rfl
      · simp [h]
    simp [this]
  | true =>
    have : ¬ s &&& (nI 1 <<< (nI q &&& 31)) = 0 := by
      rw [i32_0]
      intro h
      have := h q hq
      rw [b_and, bt_bit hq hq, e] at this
      simp at this
    simp [this]
theorem btI_bt {H : Nat → Int64} : ∀ n, n ≤ 32 → ∀ i, i < 32 → bt (btI H n) i = (decide (i < n) && decide (H i = 0)) := by
  intro n
  induction n with
  | zero => intro _ i _; simp only [btI]; rw [b_0]; simp
  | succ n ih =>
    intro hn i hi
    simp only [btI]
    by_cases h : H n = 0
    · rw [if_pos h, b_or, ih (by omega) i hi, bt_bit (by omega) hi]
      by_cases e : i = n
      · subst e; simp [h]
      · have : (i < n + 1) ↔ i < n := by omega
        simp [e, this]
    · rw [if_neg h, ih (by omega) i hi]
      by_cases e : i = n
      · subst e; simp [h]
      · have : (i < n + 1) ↔ i < n := by omega
        simp [this]
theorem set3_in {s : Int32} {a b c : Nat} (ha : a < 32) (hb : b < 32) (hc : c < 32) : s &&& set3 a b c = set3 a b c ↔ (bt s a = true ∧ bt s b = true ∧ bt s c = true) := by
  have hs : ∀ i, i < 32 → bt (set3 a b c) i = (decide (i = a) || decide (i = b) || decide (i = c)) := by
    intro i hi
    unfold set3
    rw [b_or, b_or, bt_bit ha hi, bt_bit hb hi, bt_bit hc hi]
  constructor
  · intro h
    have k : ∀ i, i < 32 → bt (set3 a b c) i = true → bt s i = true := by
      intro i hi h2
      have e := congrArg (fun x => bt x i) h
      simp only [b_and, h2] at e
      simpa using e
    exact ⟨k a ha (by rw [hs a ha]; simp), k b hb (by rw [hs b hb]; simp), k c hc (by rw [hs c hc]; simp)⟩
  · rintro ⟨h1, h2, h3⟩
    refine b_ext (fun i hi => ?_)
    rw [b_and, hs i hi]
    by_cases e1 : i = a
    · subst e1; simp [h1]
    · by_cases e2 : i = b
      · subst e2; simp [h2]
      · by_cases e3 : i = c
        · subst e3; simp [h3]
        · simp [e1, e2, e3]
theorem coI_bt {S : CT} : ∀ n, n ≤ 32 → ∀ i, i < 32 → bt (coI S n) i = (decide (i < n) && decide (3 ≤ cntB S.1 (fun f => hldB (S.2.2.2.2.2.2.2 (S.2.1 f)) i))) := by
  intro n
  induction n with
  | zero => intro _ i _; simp only [coI]; rw [b_0]; simp
  | succ n ih =>
    intro hn i hi
    simp only [coI]
    by_cases h : 3 ≤ cntB S.1 (fun f => hldB (S.2.2.2.2.2.2.2 (S.2.1 f)) n)
    · rw [if_pos h, b_or, ih (by omega) i hi, bt_bit (by omega) hi]
      by_cases e : i = n
      · subst e; simp [h]
      · have : (i < n + 1) ↔ i < n := by omega
        simp [e, this]
    · rw [if_neg h, ih (by omega) i hi]
      by_cases e : i = n
      · subst e; simp [h]
      · have : (i < n + 1) ↔ i < n := by omega
        simp [this]
/-! ===== how many bits, the lowest ===== -/
/-- three bytes -/
def T3 (a b c : Nat) : Int32 := nI (a + 256 * b + 65536 * c)
theorem nI_bv (m : Nat) : (nI m).toBitVec = BitVec.ofNat 32 m := rfl
theorem nI_and (a b : Nat) : nI a &&& nI b = nI (a &&& b) := by
  apply Int32.toBitVec_inj.mp
  rw [Int32.toBitVec_and, nI_bv, nI_bv, nI_bv]
  apply BitVec.eq_of_getLsbD_eq
  intro i hi
  simp [hi, Nat.testBit_and]
theorem nI_sb {a b : Nat} (h : b ≤ a) : nI a - nI b = nI (a - b) := by
  apply Int32.toBitVec_inj.mp
  rw [Int32.toBitVec_sub, nI_bv, nI_bv, nI_bv]
  apply BitVec.eq_of_toNat_eq
  simp only [BitVec.toNat_sub, BitVec.toNat_ofNat]
  omega
theorem nI_shu {m k : Nat} (hm : m < 4294967296) (hk : k < 32) : shU (nI m) k = nI (m >>> k) := by
  unfold shU
  apply b_ext
  intro i hi
  rw [b_ushr k hk]
  unfold bt
  rw [nI_bv, nI_bv, BitVec.getLsbD_ofNat, BitVec.getLsbD_ofNat, Nat.testBit_shiftRight]
  by_cases h : k + i < 32
  · simp [h, hi]
  · have : m.testBit (k + i) = false := Nat.testBit_lt_two_pow (Nat.lt_of_lt_of_le hm (by
      have : (4294967296 : Nat) = 2 ^ 32 := by decide
      rw [this]
      exact Nat.pow_le_pow_right (by decide) (by omega)))
    simp [h, this]
theorem and3 {a b c a' b' c' : Nat} (ha : a < 256) (hb : b < 256) (ha' : a' < 256) (hb' : b' < 256) : (a + 256 * b + 65536 * c) &&& (a' + 256 * b' + 65536 * c') = (a &&& a') + 256 * (b &&& b') + 65536 * (c &&& c') := by
  have two : ∀ {u v w z : Nat}, u < 256 → v < 256 → (u + 256 * w) &&& (v + 256 * z) = (u &&& v) + 256 * (w &&& z) := by
    intro u v w z hu hv
    have h1 : ((u + 256 * w) &&& (v + 256 * z)) % 256 = u &&& v := by
      rw [show (256 : Nat) = 2 ^ 8 by decide, Nat.and_mod_two_pow]
      rw [show (u + 2 ^ 8 * w) % 2 ^ 8 = u by rw [Nat.add_mul_mod_self_left]; exact Nat.mod_eq_of_lt hu, show (v + 2 ^ 8 * z) % 2 ^ 8 = v by rw [Nat.add_mul_mod_self_left]; exact Nat.mod_eq_of_lt hv]
    have h2 : ((u + 256 * w) &&& (v + 256 * z)) / 256 = w &&& z := by
      rw [show (256 : Nat) = 2 ^ 8 by decide, ← Nat.shiftRight_eq_div_pow, Nat.shiftRight_and_distrib, Nat.shiftRight_eq_div_pow, Nat.shiftRight_eq_div_pow]
      rw [show (u + 2 ^ 8 * w) / 2 ^ 8 = w by omega, show (v + 2 ^ 8 * z) / 2 ^ 8 = z by omega]
    omega
  rw [show a + 256 * b + 65536 * c = a + 256 * (b + 256 * c) by omega, show a' + 256 * b' + 65536 * c' = a' + 256 * (b' + 256 * c') by omega, two ha ha', two hb hb']
  omega
def p1 (a : Nat) : Nat := a - ((a / 2) &&& 85)
def p2 (a : Nat) : Nat := (a &&& 51) + ((a / 4) &&& 51)
def p3 (a : Nat) : Nat := (a % 16) + a / 16
theorem d1 : ∀ a, a < 256 → ∀ t, t < 2 → ((a / 2) + 128 * t) &&& 85 = (a / 2) &&& 85 ∧ ((a / 2) &&& 85) ≤ a ∧ p1 a < 256 := by decide +kernel
theorem d2 : ∀ a, a < 256 → ∀ t, t < 4 → ((a / 4) + 64 * t) &&& 51 = (a / 4) &&& 51 ∧ (a &&& 51) ≤ 51 := by decide +kernel
theorem d3 : ∀ a, a < 256 → p2 (p1 a) ≤ 68 ∧ p2 (p1 a) % 16 ≤ 4 := by decide +kernel
theorem d4 : ∀ a, a < 69 → a % 16 ≤ 4 → ∀ t, t < 16 → (a + (a / 16 + 16 * t)) &&& 15 = p3 a := by decide +kernel
theorem d5 : ∀ a, a < 256 → p3 (p2 (p1 a)) = cntB 8 (fun i => a.testBit i) := by decide +kernel
theorem bc1_T {a b c : Nat} (ha : a < 256) (hb : b < 256) (hc : c < 256) : bc1 (T3 a b c) = T3 (p1 a) (p1 b) (p1 c) := by
  have s : (((T3 a b c).toUInt32 >>> ((nI 1).toUInt32 &&& Int32.toUInt32 31)).toInt32 &&& nI 1431655765) = nI (((a / 2) &&& 85) + 256 * ((b / 2) &&& 85) + 65536 * ((c / 2) &&& 85)) := by
    show shU (nI (a + 256 * b + 65536 * c)) 1 &&& _ = _
    rw [nI_shu (by omega) (by omega), Nat.shiftRight_eq_div_pow, nI_and]
    rw [show (a + 256 * b + 65536 * c) / 2 ^ 1 = (a / 2 + 128 * (b % 2)) + 256 * (b / 2 + 128 * (c % 2)) + 65536 * (c / 2) by omega]
    rw [show 1431655765 = 85 + 256 * 85 + 65536 * 21845 by decide, and3 (by omega) (by omega) (by omega) (by omega), (d1 a ha (b % 2) (by omega)).1, (d1 b hb (c % 2) (by omega)).1]
    rw [show (c / 2) &&& 21845 = (c / 2) &&& 85 from (by decide +kernel : ∀ c, c < 256 → (c / 2) &&& 21845 = (c / 2) &&& 85) c hc]
  unfold bc1
  rw [s]
  unfold T3
  have k1 := (d1 a ha 0 (by omega)).2.1; have k2 := (d1 b hb 0 (by omega)).2.1; have k3 := (d1 c hc 0 (by omega)).2.1
  rw [nI_sb (by omega)]
  congr 1
  unfold p1
  omega
theorem bc2_T {a b c : Nat} (ha : a < 256) (hb : b < 256) (hc : c < 256) : bc2 (T3 a b c) = T3 (p2 a) (p2 b) (p2 c) := by
  unfold bc2
  have s : (((T3 a b c).toUInt32 >>> ((nI 2).toUInt32 &&& Int32.toUInt32 31)).toInt32 &&& nI 858993459) = nI (((a / 4) &&& 51) + 256 * ((b / 4) &&& 51) + 65536 * ((c / 4) &&& 51)) := by
    show shU (nI (a + 256 * b + 65536 * c)) 2 &&& _ = _
    rw [nI_shu (by omega) (by omega), Nat.shiftRight_eq_div_pow, nI_and]
    rw [show (a + 256 * b + 65536 * c) / 2 ^ 2 = (a / 4 + 64 * (b % 4)) + 256 * (b / 4 + 64 * (c % 4)) + 65536 * (c / 4) by omega]
    rw [show 858993459 = 51 + 256 * 51 + 65536 * 13107 by decide, and3 (by omega) (by omega) (by omega) (by omega), (d2 a ha (b % 4) (by omega)).1, (d2 b hb (c % 4) (by omega)).1]
    rw [show (c / 4) &&& 13107 = (c / 4) &&& 51 from (by decide +kernel : ∀ c, c < 256 → (c / 4) &&& 13107 = (c / 4) &&& 51) c hc]
  have s2 : T3 a b c &&& nI 858993459 = nI ((a &&& 51) + 256 * (b &&& 51) + 65536 * (c &&& 51)) := by
    unfold T3
    rw [nI_and, show 858993459 = 51 + 256 * 51 + 65536 * 13107 by decide, and3 ha hb (by omega) (by omega)]
    rw [show c &&& 13107 = c &&& 51 from (by decide +kernel : ∀ c, c < 256 → c &&& 13107 = c &&& 51) c hc]
  rw [s, s2, nI_add]
  unfold T3 p2
  congr 1
  omega
theorem bc3_T {a b c : Nat} (ha : a < 69) (hb : b < 69) (hc : c < 69) (ha4 : a % 16 ≤ 4) (hb4 : b % 16 ≤ 4) (hc4 : c % 16 ≤ 4) : bc3 (T3 a b c) = T3 (p3 a) (p3 b) (p3 c) := by
  unfold bc3
  have s : ((T3 a b c).toUInt32 >>> ((nI 4).toUInt32 &&& Int32.toUInt32 31)).toInt32 = nI ((a / 16 + 16 * (b % 16)) + 256 * (b / 16 + 16 * (c % 16)) + 65536 * (c / 16)) := by
    show shU (nI (a + 256 * b + 65536 * c)) 4 = _
    rw [nI_shu (by omega) (by omega), Nat.shiftRight_eq_div_pow]
    congr 1
    omega
  rw [s]
  unfold T3
  rw [nI_add, nI_and]
  rw [show a + 256 * b + 65536 * c + (a / 16 + 16 * (b % 16) + 256 * (b / 16 + 16 * (c % 16)) + 65536 * (c / 16)) = (a + (a / 16 + 16 * (b % 16))) + 256 * (b + (b / 16 + 16 * (c % 16))) + 65536 * (c + (c / 16 + 16 * 0)) by omega]
  rw [show 252645135 = 15 + 256 * 15 + 65536 * 3855 by decide, and3 (by omega) (by omega) (by omega) (by omega), d4 a ha ha4 (b % 16) (by omega), d4 b hb hb4 (c % 16) (by omega)]
  rw [show (c + (c / 16 + 16 * 0)) &&& 3855 = p3 c from (by decide +kernel : ∀ c, c < 69 → c % 16 ≤ 4 → (c + (c / 16 + 16 * 0)) &&& 3855 = p3 c) c hc hc4]
theorem bc45_T {a b c : Nat} (ha : a ≤ 8) (hb : b ≤ 8) (hc : c ≤ 8) : bc5 (bc4 (T3 a b c)) &&& nI 63 = nI (a + b + c) := by
  have e4 : bc4 (T3 a b c) = nI ((a + b) + 256 * (b + c) + 65536 * c) := by
    unfold bc4
    have s : ((T3 a b c).toUInt32 >>> ((nI 8).toUInt32 &&& Int32.toUInt32 31)).toInt32 = nI (b + 256 * c) := by
      show shU (nI (a + 256 * b + 65536 * c)) 8 = _
      rw [nI_shu (by omega) (by omega), Nat.shiftRight_eq_div_pow]
      congr 1
      omega
    rw [s]; unfold T3; rw [nI_add]; congr 1; omega
  rw [e4]
  have e5 : bc5 (nI ((a + b) + 256 * (b + c) + 65536 * c)) = nI ((a + b + c) + 256 * (b + c) + 65536 * c) := by
    unfold bc5
    have s : ((nI ((a + b) + 256 * (b + c) + 65536 * c)).toUInt32 >>> ((nI 16).toUInt32 &&& Int32.toUInt32 31)).toInt32 = nI c := by
      show shU (nI ((a + b) + 256 * (b + c) + 65536 * c)) 16 = _
      rw [nI_shu (by omega) (by omega), Nat.shiftRight_eq_div_pow]
      congr 1
      omega
    rw [s, nI_add]; congr 1; omega
  rw [e5, nI_and, show 63 = 63 + 256 * 0 + 65536 * 0 by decide, and3 (by omega) (by omega) (by omega) (by omega)]
  rw [(by decide +kernel : ∀ m, m < 25 → m &&& 63 = m) (a + b + c) (by omega)]
  simp
theorem bcF_T {a b c : Nat} (ha : a < 256) (hb : b < 256) (hc : c < 256) : bcF (T3 a b c) = nI (cntB 8 (fun i => a.testBit i) + cntB 8 (fun i => b.testBit i) + cntB 8 (fun i => c.testBit i)) := by
  unfold bcF
  have l1 := (d1 a ha 0 (by omega)).2.2; have l2 := (d1 b hb 0 (by omega)).2.2; have l3 := (d1 c hc 0 (by omega)).2.2
  have m1 := d3 a ha; have m2 := d3 b hb; have m3 := d3 c hc
  rw [bc1_T ha hb hc, bc2_T l1 l2 l3, bc3_T (by omega) (by omega) (by omega) m1.2 m2.2 m3.2]
  have c1 := d5 a ha; have c2 := d5 b hb; have c3 := d5 c hc
  have k1 := @cntB_le 8 (fun i => a.testBit i); have k2 := @cntB_le 8 (fun i => b.testBit i); have k3 := @cntB_le 8 (fun i => c.testBit i)
  rw [bc45_T (by omega) (by omega) (by omega), c1, c2, c3]
theorem cntB_congr {p q : Nat → Bool} : ∀ n, (∀ k, k < n → p k = q k) → cntB n p = cntB n q := by
  intro n
  induction n with
  | zero => intro _; rfl
  | succ n ih => intro h; simp only [cntB]; rw [ih (fun k hk => h k (by omega)), h n (by omega)]
theorem cntB_add {p : Nat → Bool} (m : Nat) : ∀ n, cntB (m + n) p = cntB m p + cntB n (fun k => p (m + k)) := by
  intro n
  induction n with
  | zero => rfl
  | succ n ih => rw [← Nat.add_assoc]; simp only [cntB]; rw [ih]; omega
theorem i32_T {x : Int32} (h : ∀ i, 24 ≤ i → i < 32 → bt x i = false) : ∃ a b c, a < 256 ∧ b < 256 ∧ c < 256 ∧ x = T3 a b c ∧ (∀ i, i < 8 → bt x i = a.testBit i) ∧ (∀ i, i < 8 → bt x (8 + i) = b.testBit i) ∧ ∀ i, i < 8 → bt x (16 + i) = c.testBit i := by
  obtain ⟨m, hm⟩ : ∃ m, m = x.toBitVec.toNat := ⟨_, rfl⟩
  have hm32 : m < 2 ^ 32 := by rw [hm]; exact x.toBitVec.isLt
  have ex : x = nI m := by
    apply Int32.toBitVec_inj.mp
    rw [nI_bv, hm]; simp
  have hb : ∀ i, bt x i = m.testBit i := by
    intro i
    unfold bt
    rw [hm, BitVec.testBit_toNat]
  have hlt : m < 16777216 := by
    apply Classical.byContradiction
    intro h9
    obtain ⟨i, hi1, hi2⟩ := Nat.exists_ge_and_testBit_of_ge_two_pow (n := 24) (x := m) (by have : (2 : Nat) ^ 24 = 16777216 := by decide
                                                                                           omega)
    rcases Nat.lt_or_ge i 32 with h3 | h3
    · have := h i hi1 h3
      rw [hb i, hi2] at this; cases this
    · have := Nat.testBit_lt_two_pow (x := m) (i := i) (Nat.lt_of_lt_of_le hm32 (Nat.pow_le_pow_right (by decide) h3))
      rw [hi2] at this; cases this
  refine ⟨m % 256, m / 256 % 256, m / 65536, by omega, by omega, by omega, ?_, ?_, ?_, ?_⟩
  · rw [ex]; unfold T3; congr 1; omega
  · intro i hi
    rw [hb, show (256 : Nat) = 2 ^ 8 by decide, Nat.testBit_mod_two_pow]; simp [hi]
  · intro i hi
    rw [hb, show (256 : Nat) = 2 ^ 8 by decide, Nat.testBit_mod_two_pow, Nat.testBit_div_two_pow, Nat.add_comm]; simp [hi]
  · intro i hi
    rw [hb, show (65536 : Nat) = 2 ^ 16 by decide, Nat.testBit_div_two_pow, Nat.add_comm]
/-- bitCount counts the bits -/
theorem bcF_cnt {x : Int32} (h : ∀ i, 24 ≤ i → i < 32 → bt x i = false) : bcF x = nI (cntB 24 (fun q => bt x q)) := by
  obtain ⟨a, b, c, ha, hb, hc, e, k1, k2, k3⟩ := i32_T h
  have e2 : cntB 24 (fun q => bt x q) = cntB 8 (fun i => a.testBit i) + cntB 8 (fun i => b.testBit i) + cntB 8 (fun i => c.testBit i) := by
    rw [show 24 = 16 + 8 by rfl, cntB_add 16 8, show 16 = 8 + 8 by rfl, cntB_add 8 8]
    rw [cntB_congr 8 k1, cntB_congr 8 k2, cntB_congr 8 k3]
  rw [e2, e, bcF_T ha hb hc]
theorem ntZ : ∀ v, v < 24 → (if 0 < nI (2 ^ v - 1) then nt1 (nI (2 ^ v - 1)) 1 else nI (2 ^ v - 1) &&& nI 32) = nI v := by decide +kernel
/-- numberOfTrailingZeros gives the lowest bit -/
theorem ntF_low {x : Int32} {v : Nat} (hv : v < 24) (h1 : bt x v = true) (h2 : ∀ i, i < v → bt x i = false) : ntF x = nI v := by
  have hy : ntY x = nI (2 ^ v - 1) := by
    obtain ⟨m, hm⟩ : ∃ m, m = x.toBitVec.toNat := ⟨_, rfl⟩
    have hm32 : m < 2 ^ 32 := by rw [hm]; exact x.toBitVec.isLt
    have ex : x = nI m := by
      apply Int32.toBitVec_inj.mp
      rw [nI_bv, hm]; simp
    have hb : ∀ i, bt x i = m.testBit i := by
      intro i
      unfold bt
      rw [hm, BitVec.testBit_toNat]
    have hmod : m % 2 ^ v = 0 := by
      apply Nat.eq_of_testBit_eq
      intro i
      rw [Nat.testBit_mod_two_pow, Nat.zero_testBit]
      by_cases hi : i < v
      · rw [← hb i, h2 i hi]; simp
      · simp [hi]
    obtain ⟨q, hq⟩ : ∃ q, m = 2 ^ v * q := ⟨m / 2 ^ v, by have := Nat.div_add_mod m (2 ^ v); omega⟩
    have hodd : q % 2 = 1 := by
      have := hb v
      rw [h1, hq] at this
      have e := Nat.testBit_two_pow_mul (i := v) (a := q) (j := v)
      rw [e] at this
      simp at this
      exact this
    obtain ⟨y, hy⟩ : ∃ y, q = 2 * y + 1 := ⟨q / 2, by omega⟩
    have hp : 0 < 2 ^ v := Nat.pow_pos (by decide)
    have hm2 : m = 2 ^ (v + 1) * y + 2 ^ v := by
      rw [hq, hy, Nat.pow_succ, Nat.mul_add, Nat.mul_one, Nat.mul_assoc, ← Nat.mul_assoc (2 ^ v)]
    have hm1 : m - 1 = 2 ^ (v + 1) * y + (2 ^ v - 1) := by omega
    have hlt1 : 2 ^ v < 2 ^ (v + 1) := by rw [Nat.pow_succ]; omega
    unfold ntY
    rw [ex, nI_sb (by omega), hm1]
    apply b_ext
    intro i hi
    rw [b_and, b_xor, b_m1 i hi]
    have t1 : bt (nI m) i = m.testBit i := by rw [← ex]; exact hb i
    have t2 : ∀ k : Nat, bt (nI k) i = k.testBit i := by
      intro k
      unfold bt
      rw [nI_bv, BitVec.getLsbD_ofNat]; simp [hi]
    rw [t1, t2, t2, hm2, Nat.testBit_two_pow_mul_add _ hlt1, Nat.testBit_two_pow_mul_add _ (show 2 ^ v - 1 < 2 ^ (v + 1) by omega), Nat.testBit_two_pow_sub_one]
    by_cases c1 : i < v + 1
    · rw [if_pos c1, if_pos c1, Nat.testBit_two_pow]
      by_cases c2 : i < v
      · have : ¬ v = i := by omega
        simp [c2, this]
      · have : v = i := by omega
        simp [c2, this]
    · rw [if_neg c1, if_neg c1]
      have : ¬ i < v := by omega
      cases y.testBit (i - (v + 1)) <;> simp [this]
  unfold ntF
  rw [hy]
  exact ntZ v hv
