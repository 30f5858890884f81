/-! ===== doubles: the double of a whole number, four times it, the quotient ===== -/
theorem fp_tails : FP.Core.b64.tails = 4503599627370496 := by decide
theorem fp_exps : FP.Core.b64.exps = 2048 := by decide
theorem fp_qmin : FP.Core.b64.qmin = -1074 := by decide
theorem fp_qmax : FP.Core.b64.qmax = 971 := by decide
theorem fp_p : FP.Core.b64.p = 53 := rfl
def fpG (n : Nat) : Prop := n < 18446744073709551616 ∧ n % 9223372036854775808 ≤ 9218868437227405312
theorem fp_asm (s : Bool) (e t : Nat) (h : e * 4503599627370496 + t ≤ 9218868437227405312) : fpG (FP.Core.assemble FP.Core.b64 s e t) := by
  unfold FP.Core.assemble fpG
  rw [fp_tails, fp_exps]
  cases s
  · show (0 * 2048 + e) * 4503599627370496 + t < _ ∧ _
    simp only [Bool.toNat_false]
    omega
  · simp only [Bool.toNat_true]
    omega
theorem fp_inf (s : Bool) : fpG (FP.Core.encode FP.Core.b64 (.inf s)) := by
  show fpG (FP.Core.assemble FP.Core.b64 s (FP.Core.b64.exps - 1) 0)
  rw [fp_exps]
  exact fp_asm s _ _ (by omega)
theorem fp_bd (s : Bool) (c : Nat) (q : Int) (hc : c < 9007199254740992) : fpG (FP.Core.encode FP.Core.b64 (FP.Core.bound FP.Core.b64 s c q)) := by
  unfold FP.Core.bound
  rw [fp_qmax]
  by_cases h : q ≤ 971
  · rw [if_pos h]
    show fpG (if c < FP.Core.b64.tails then FP.Core.assemble FP.Core.b64 s 0 c else FP.Core.assemble FP.Core.b64 s ((q - FP.Core.b64.qmin).toNat + 1) (c - FP.Core.b64.tails))
    rw [fp_tails, fp_qmin]
    by_cases h2 : c < 4503599627370496
    · rw [if_pos h2]
      exact fp_asm s _ _ (by omega)
    · rw [if_neg h2]
      have : (q - -1074).toNat ≤ 2045 := by omega
      exact fp_asm s _ _ (by omega)
  · rw [if_neg h]
    exact fp_inf s
theorem fp_set (s : Bool) (c : Nat) (q : Int) : fpG (FP.Core.encode FP.Core.b64 (FP.Core.settle FP.Core.b64 s c q)) := by
  unfold FP.Core.settle
  by_cases h : c < 2 ^ FP.Core.b64.p
  · rw [if_pos h]
    rw [fp_p] at h
    exact fp_bd s c q (by omega)
  · rw [if_neg h]
    exact fp_bd s _ _ (by rw [fp_tails]; omega)
theorem fp_rr (s : Bool) (a b : Nat) (e : Int) : fpG (FP.Core.encode FP.Core.b64 (FP.Core.roundRatio FP.Core.b64 s a b e)) := by
  unfold FP.Core.roundRatio
  by_cases h : a = 0
  · rw [if_pos h]
    show fpG (if 0 < FP.Core.b64.tails then FP.Core.assemble FP.Core.b64 s 0 0 else FP.Core.assemble FP.Core.b64 s ((FP.Core.b64.qmin - FP.Core.b64.qmin).toNat + 1) (0 - FP.Core.b64.tails))
    rw [fp_tails, if_pos (by omega)]
    exact fp_asm s _ _ (by omega)
  · rw [if_neg h]
    exact fp_set _ _ _
theorem fp_nn {n : Nat} (h : fpG n) : FP.Core.decode FP.Core.b64 n ≠ .nan := by
  unfold FP.Core.decode FP.Core.fieldE FP.Core.fieldT
  rw [fp_tails, fp_exps]
  unfold fpG at h
  intro hn
  by_cases h1 : n / 4503599627370496 % 2048 = 2048 - 1
  · rw [if_pos h1] at hn
    by_cases h2 : n % 4503599627370496 = 0
    · rw [if_pos h2] at hn; cases hn
    · omega
  · rw [if_neg h1] at hn
    by_cases h2 : n / 4503599627370496 % 2048 = 0
    · rw [if_pos h2] at hn; cases hn
    · rw [if_neg h2] at hn; cases hn
theorem fp_quo {d : FP.Core.Datum} (hd : d ≠ .nan) (t : Bool) {c : Nat} (hc : c ≠ 0) (q : Int) : fpG (FP.Core.encode FP.Core.b64 (FP.Core.quotient FP.Core.b64 d (.fin t c q))) := by
  cases d with
  | nan => exact absurd rfl hd
  | inf s => exact fp_inf _
  | fin s c' q' =>
    show fpG (FP.Core.encode FP.Core.b64 (if c = 0 then (if c' = 0 then .nan else .inf (s != t)) else FP.Core.roundRatio FP.Core.b64 (s != t) c' c (q' - q)))
    rw [if_neg hc]
    exact fp_rr _ _ _ _
theorem fp_toNat {n : Nat} (h : n < 18446744073709551616) : (UInt64.ofNat n).toNat = n := UInt64.toNat_ofNat_of_lt' h
theorem fp_vf {n : Nat} (h : fpG n) : vf_n64 (UInt64.ofNat n) := by
  unfold vf_n64
  rw [UInt64.le_iff_toNat_le, UInt64.toNat_and, fp_toNat h.1]
  have e1 : (0x7fffffffffffffff : UInt64).toNat = 2 ^ 63 - 1 := by decide
  have e2 : (0x7ff0000000000000 : UInt64).toNat = 9218868437227405312 := by decide
  rw [e1, e2, Nat.and_two_pow_sub_one_eq_mod]
  exact h.2
theorem fp_l2dG (a : Int64) : fpG (FP.Core.fromInt FP.Core.b64 a.toInt) := fp_rr _ _ _ _
theorem fp_l2d_nn (a : Int64) : FP.Core.decode FP.Core.b64 (FP.l2d a).toNat ≠ .nan := by
  show FP.Core.decode FP.Core.b64 (UInt64.ofNat (FP.Core.fromInt FP.Core.b64 a.toInt)).toNat ≠ .nan
  rw [fp_toNat (fp_l2dG a).1]
  exact fp_nn (fp_l2dG a)
/-- the code of a whole number below 2^53 -/
def fpC (k c : Nat) : Nat := (k + 1022) * 4503599627370496 + c
theorem fp_lead {A k : Nat} (h1 : 2 ^ k ≤ A) (h2 : A < 2 ^ (k + 1)) : FP.Core.leading A 1 = (k : Int) := by
  have h0 : A ≠ 0 := by have := Nat.two_pow_pos k; omega
  have e := (Nat.log2_eq_iff h0).mpr ⟨h1, h2⟩
  have e1 : Nat.log2 1 = 0 := by decide
  unfold FP.Core.leading
  simp only [e, e1]
  rw [if_pos]
  · omega
  · rw [show ((k : Int) - ((0 : Nat) : Int)).toNat = k by omega, show (-((k : Int) - ((0 : Nat) : Int))).toNat = 0 by omega]
    omega
theorem fp_near (c d : Nat) (hd : 0 < d) : FP.Core.nearest (c * d) d = c := by
  unfold FP.Core.nearest
  rw [Nat.mul_mod_left, if_pos (by omega), Nat.mul_div_cancel _ hd]
theorem fp_round {A : Nat} {e : Int} {k c d : Nat} (h1 : 2 ^ k ≤ A) (h2 : A < 2 ^ (k + 1)) (hq1 : -1074 ≤ (k : Int) + e - 52) (hq2 : (k : Int) + e - 52 ≤ 971) (hc : c < 9007199254740992) (hA : A * 2 ^ (52 - k) = c * d) (hd : d = 2 ^ (k - 52)) : FP.Core.roundRatio FP.Core.b64 false A 1 e = .fin false c ((k : Int) + e - 52) := by
  have h0 : A ≠ 0 := by have := Nat.two_pow_pos k; omega
  have hdp : 0 < d := by rw [hd]; exact Nat.two_pow_pos _
  unfold FP.Core.roundRatio
  rw [if_neg h0]
  unfold FP.Core.roundAt FP.Core.quantum
  rw [fp_lead h1 h2, fp_qmin, fp_p]
  have eq : max (-1074) ((k : Int) + e - (((53 : Nat) : Int) - 1)) = (k : Int) + e - 52 := by omega
  rw [eq]
  unfold FP.Core.unitsNum FP.Core.unitsDen
  rw [show (e - ((k : Int) + e - 52)).toNat = 52 - k by omega, show ((k : Int) + e - 52 - e).toNat = k - 52 by omega, hA, Nat.one_mul, ← hd, fp_near c d hdp]
  unfold FP.Core.settle
  rw [fp_p, if_pos (by omega)]
  unfold FP.Core.bound
  rw [fp_qmax, if_pos hq2]
theorem fp_enc {k c : Nat} {q : Int} (hq : q = (k : Int) - 52) (h1 : 4503599627370496 ≤ c) : FP.Core.encode FP.Core.b64 (.fin false c q) = fpC k c := by
  show (if c < FP.Core.b64.tails then FP.Core.assemble FP.Core.b64 false 0 c else FP.Core.assemble FP.Core.b64 false ((q - FP.Core.b64.qmin).toNat + 1) (c - FP.Core.b64.tails)) = _
  rw [fp_tails, if_neg (by omega), fp_qmin]
  unfold FP.Core.assemble fpC
  rw [fp_tails, fp_exps, show (q - -1074).toNat = k + 1022 by omega]
  simp only [Bool.toNat_false]
  omega
theorem fp_dec {k c : Nat} (hk : k ≤ 60) (h1 : 4503599627370496 ≤ c) (h2 : c < 9007199254740992) : FP.Core.decode FP.Core.b64 (fpC k c) = .fin false c ((k : Int) - 52) := by
  unfold FP.Core.decode FP.Core.fieldE FP.Core.fieldT FP.Core.fieldS
  rw [fp_tails, fp_exps, fp_qmin]
  unfold fpC
  have e1 : ((k + 1022) * 4503599627370496 + c) / 4503599627370496 = k + 1023 := by omega
  have e2 : ((k + 1022) * 4503599627370496 + c) % 4503599627370496 = c - 4503599627370496 := by omega
  rw [e1, e2, if_neg (by omega), if_neg (by omega)]
  have e3 : (k + 1023) % 2048 = k + 1023 := by omega
  have e4 : (k + 1023) / 2048 % 2 = 0 := by omega
  rw [e3, e4, show 4503599627370496 + (c - 4503599627370496) = c by omega, show -1074 + (((k + 1023 : Nat) : Int) - 1) = (k : Int) - 52 by omega]
  rfl
/-- a positive long below 2^53 as a double -/
theorem fp_l2d {a : Int64} {V : Nat} (ha : a.toInt = (V : Int)) (h0 : 0 < V) (h1 : V < 9007199254740992) : ∃ k c, 2 ^ k ≤ V ∧ V < 2 ^ (k + 1) ∧ k ≤ 52 ∧ c = V * 2 ^ (52 - k) ∧ 4503599627370496 ≤ c ∧ c < 9007199254740992 ∧ FP.l2d a = UInt64.ofNat (fpC k c) := by
  have hV : V ≠ 0 := by omega
  obtain ⟨p1, p2⟩ := (Nat.log2_eq_iff (k := V.log2) hV).mp rfl
  have hk : V.log2 ≤ 52 := by
    have := (Nat.log2_lt (k := 53) hV).mpr (by omega)
    omega
  generalize V.log2 = k at p1 p2 hk
  have c1 : 4503599627370496 ≤ V * 2 ^ (52 - k) := by
    have := Nat.mul_le_mul_right (2 ^ (52 - k)) p1
    rw [← Nat.pow_add, show k + (52 - k) = 52 by omega] at this
    omega
  have c2 : V * 2 ^ (52 - k) < 9007199254740992 := by
    have := Nat.mul_lt_mul_of_pos_right p2 (Nat.two_pow_pos (52 - k))
    rw [← Nat.pow_add, show k + 1 + (52 - k) = 53 by omega] at this
    omega
  refine ⟨k, V * 2 ^ (52 - k), p1, p2, hk, rfl, c1, c2, ?_⟩
  show UInt64.ofNat (FP.Core.encode FP.Core.b64 (FP.Core.roundRatio FP.Core.b64 (decide (a.toInt < 0)) a.toInt.natAbs 1 0)) = _
  rw [ha, show decide ((V : Int) < 0) = false from decide_eq_false (by omega), show ((V : Int)).natAbs = V by omega]
  rw [fp_round (k := k) (c := V * 2 ^ (52 - k)) (d := 1) p1 p2 (by omega) (by omega) c2 (by omega) (by rw [show k - 52 = 0 by omega])]
  rw [fp_enc (k := k) (by omega) c1]
theorem fp_4 : FP.Core.decode FP.Core.b64 (c4D).toNat = .fin false 4503599627370496 (-50) := by decide
theorem fp_C_lt {k c : Nat} (hk : k ≤ 60) (h2 : c < 9007199254740992) : fpG (fpC k c) := by
  unfold fpG fpC
  omega
theorem fp_mul4 {k c : Nat} (hk : k ≤ 52) (h1 : 4503599627370496 ≤ c) (h2 : c < 9007199254740992) : FP.dmul c4D (UInt64.ofNat (fpC k c)) = UInt64.ofNat (fpC (k + 2) c) := by
  show UInt64.ofNat (FP.Core.encode FP.Core.b64 (FP.Core.round FP.Core.b64 (FP.Core.exactProduct (FP.Core.decode FP.Core.b64 (c4D).toNat) (FP.Core.decode FP.Core.b64 (UInt64.ofNat (fpC k c)).toNat)))) = _
  rw [fp_4, fp_toNat (fp_C_lt (by omega) h2).1, fp_dec (by omega) h1 h2]
  show UInt64.ofNat (FP.Core.encode FP.Core.b64 (FP.Core.roundRatio FP.Core.b64 false (4503599627370496 * c) 1 (-50 + ((k : Int) - 52)))) = _
  rw [fp_round (k := 104) (c := c) (d := 4503599627370496) (by omega) (by omega) (by omega) (by omega) h2 (by rw [show 52 - 104 = 0 by omega]; omega) (by decide)]
  rw [fp_enc (k := k + 2) (by omega) h1]
theorem fp_mul4l {a : Int64} {V : Nat} (ha : a.toInt = (V : Int)) (h0 : 0 < V) (h1 : V < 2251799813685248) : FP.dmul c4D (FP.l2d a) = FP.l2d (4 * a) := by
  obtain ⟨k, c, p1, p2, hk, hc, c1, c2, e⟩ := fp_l2d ha h0 (by omega)
  have ha4 : (4 * a).toInt = ((4 * V : Nat) : Int) := by
    have r4 : R64 (4 : Int64) 4 4 := ⟨rfl, by decide, by decide⟩
    have ra : R64 a (V : Int) 2251799813685248 := ⟨ha, by omega, by omega⟩
    rw [(r4.mul ra (by decide)).1]
    omega
  obtain ⟨k', c', q1, q2, hk', hc', d1, d2, e'⟩ := fp_l2d ha4 (by omega) (by omega)
  rw [e, e', fp_mul4 hk c1 c2]
  have ek : k' = k + 2 := by
    have h0' : 4 * V ≠ 0 := by omega
    have a1 := (Nat.log2_eq_iff h0').mpr ⟨q1, q2⟩
    have a2 := (Nat.log2_eq_iff (k := k + 2) h0').mpr ⟨by rw [Nat.pow_add]; omega, by rw [show k + 2 + 1 = (k + 1) + 2 by omega, Nat.pow_add]; omega⟩
    omega
  subst ek
  have ec : c' = c := by
    rw [hc', hc, show 52 - k = 52 - (k + 2) + 2 by omega, Nat.pow_add]
    generalize 2 ^ (52 - (k + 2)) = t
    rw [Nat.mul_comm 4 V, Nat.mul_assoc, Nat.mul_comm 4 t]
  rw [ec]
theorem fp_pos {k c : Nat} (hk : k ≤ 60) (h1 : 4503599627370496 ≤ c) (h2 : c < 9007199254740992) : FP.dcmp (UInt64.ofNat (fpC k c)) FP.dconst0 = some .gt := by
  show FP.Core.order (FP.Core.decode FP.Core.b64 (UInt64.ofNat (fpC k c)).toNat) (FP.Core.decode FP.Core.b64 (FP.dconst0).toNat) = _
  rw [fp_toNat (fp_C_lt hk h2).1, fp_dec hk h1 h2, show FP.Core.decode FP.Core.b64 (FP.dconst0).toNat = .fin false 0 (-1074) by decide]
  show some (compare (FP.Core.signed false (FP.Core.inUnits c ((k : Int) - 52) (min ((k : Int) - 52) (-1074)))) (FP.Core.signed false (FP.Core.inUnits 0 (-1074) (min ((k : Int) - 52) (-1074))))) = _
  unfold FP.Core.signed FP.Core.inUnits
  rw [Nat.zero_mul]
  simp only [Bool.false_eq_true, if_false]
  have hp := Nat.mul_pos (show 0 < c by omega) (Nat.two_pow_pos ((k : Int) - 52 - min ((k : Int) - 52) (-1074)).toNat)
  generalize c * 2 ^ ((k : Int) - 52 - min ((k : Int) - 52) (-1074)).toNat = t at hp
  congr 1
  rw [Int.compare_eq_gt]
  omega
/-- the class's quotient is the reference's -/
theorem md_ok {s : Int64} {V : Nat} (hs : s.toInt = (V : Int)) (h0 : 0 < V) (h1 : V < 2251799813685248) (m : Int64) : mdC s m = FP.ddiv (FP.l2d m) (FP.l2d (4 * s)) ∧ vf_n64 (FP.dmul c4D (FP.l2d s)) ∧ vf_n64 (FP.ddiv (FP.l2d m) (FP.dmul c4D (FP.l2d s))) ∧ vf_n64 (FP.ddiv (FP.l2d m) (FP.l2d (4 * s))) := by
  have e4 := fp_mul4l hs h0 h1
  obtain ⟨k, c, p1, p2, hk, hc, c1, c2, e⟩ := fp_l2d hs h0 (by omega)
  have e5 := fp_mul4 hk c1 c2
  rw [← e] at e5
  have hn : vf_n64 (FP.ddiv (FP.l2d m) (FP.dmul c4D (FP.l2d s))) := by
    rw [e5]
    show vf_n64 (UInt64.ofNat (FP.Core.encode FP.Core.b64 (FP.Core.quotient FP.Core.b64 (FP.Core.decode FP.Core.b64 (FP.l2d m).toNat) (FP.Core.decode FP.Core.b64 (UInt64.ofNat (fpC (k + 2) c)).toNat))))
    rw [fp_toNat (fp_C_lt (k := k + 2) (by omega) c2).1, fp_dec (by omega) c1 c2]
    exact fp_vf (fp_quo (fp_l2d_nn m) _ (by omega) _)
  refine ⟨?_, ?_, hn, ?_⟩
  · unfold mdC
    rw [e5, fp_pos (by omega) c1 c2, ← e5, e4]
    exact if_neg (by decide)
  · rw [e5]
    exact fp_vf (fp_C_lt (by omega) c2)
  · rw [← e4]
    exact hn
