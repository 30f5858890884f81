/-! ===== the class: its contracts ===== -/
set_option maxHeartbeats 4000000 in
set_option maxRecDepth 100000 in
theorem h3_isWithin (l : Launch) (D : va_G) (cI cJ cF cD : ClassId) (ws9 : va_W)  (v q : Int32)  : CtI l D (tyG cI cJ cF cD) yX3_isWithin wsX3_isWithin ({ frames := 0, cells := 0, slots := 0, locals := 0 }) [.int v, .int q] ws9 (fun r w => r = (b2i (withinB v q)) ∧ w = ws9) := by
  refine ctZ_of (cc := cX3_isWithin) (maxL := 2) (by decide) rfl (Nat.le_of_ble_eq_true rfl) (fun r w h => h.1 ▸ b2i_01 _) ?_
  intro X hXl hXd C hret
  show Kw X 0 0 ws9 0 [(0, .int v), (1, .int q)] []
  refine k_iload_n C 0 dX3_isWithin_0 rfl rfl ?_
  refine k_iload_n C 1 dX3_isWithin_1 rfl rfl ?_
  refine k_ineg C dX3_isWithin_2 ?_
  refine k_icmp_lt C 15 dX3_isWithin_3 (by decide) (fun h_1 => ?_) (fun h_1 => ?_)
  · refine k_iconst C (v := (nI 0)) dX3_isWithin_15 (by decide) ?_
    exact hret _ _ _ _ ⟨by simp [withinB, b2i, nI0, nI1, h_1], rfl⟩ dX3_isWithin_16
  · refine k_iload_n C 0 dX3_isWithin_6 rfl rfl ?_
    refine k_iload_n C 1 dX3_isWithin_7 rfl rfl ?_
    refine k_icmp_gt C 15 dX3_isWithin_8 (by decide) (fun h_2 => ?_) (fun h_2 => ?_)
    · refine k_iconst C (v := (nI 0)) dX3_isWithin_15 (by decide) ?_
      exact hret _ _ _ _ ⟨by simp [withinB, b2i, nI0, nI1, h_1, h_2], rfl⟩ dX3_isWithin_16
    · refine k_iconst C (v := (nI 1)) dX3_isWithin_11 (by decide) ?_
      refine k_goto C 16 dX3_isWithin_12 (by decide) ?_
      exact hret _ _ _ _ ⟨by simp [withinB, b2i, nI0, nI1, h_1, h_2], rfl⟩ dX3_isWithin_16
set_option maxHeartbeats 4000000 in
set_option maxRecDepth 100000 in
theorem h3_holds (l : Launch) (D : va_G) (cI cJ cF cD : ClassId) (ws9 : va_W)  (s9 : Int32) (q : Nat)  : CtI l D (tyG cI cJ cF cD) yX3_holds wsX3_holds ({ frames := 0, cells := 0, slots := 0, locals := 0 }) [.int s9, .int (nI q)] ws9 (fun r w => r = (b2i (hldB s9 q)) ∧ w = ws9) := by
  refine ctZ_of (cc := cX3_holds) (maxL := 2) (by decide) rfl (Nat.le_of_ble_eq_true rfl) (fun r w h => h.1 ▸ b2i_01 _) ?_
  intro X hXl hXd C hret
  show Kw X 0 0 ws9 0 [(0, .int s9), (1, .int (nI q))] []
  refine k_iload_n C 0 dX3_holds_0 rfl rfl ?_
  refine k_iconst C (v := (nI 1)) dX3_holds_1 (by decide) ?_
  refine k_iload_n C 1 dX3_holds_2 rfl rfl ?_
  refine k_ishl C dX3_holds_3 ?_
  refine k_iand C dX3_holds_4 ?_
  refine k_if_eq C 12 dX3_holds_5 (by decide) (fun h_1 => ?_) (fun h_1 => ?_)
  · refine k_iconst C (v := (nI 0)) dX3_holds_12 (by decide) ?_
    exact hret _ _ _ _ ⟨by simp [hldB, b2i, nI0, nI1, ← nI1, h_1], rfl⟩ dX3_holds_13
  · refine k_iconst C (v := (nI 1)) dX3_holds_8 (by decide) ?_
    refine k_goto C 13 dX3_holds_9 (by decide) ?_
    exact hret _ _ _ _ ⟨by simp [hldB, b2i, nI0, nI1, ← nI1, h_1], rfl⟩ dX3_holds_13
set_option maxHeartbeats 4000000 in
set_option maxRecDepth 100000 in
theorem h3_way (l : Launch) (D : va_G) (cI cJ cF cD : ClassId) (ws9 : va_W)  (a b : Nat)  : CtI l D (tyG cI cJ cF cD) yX3_way wsX3_way ({ frames := 0, cells := 0, slots := 0, locals := 0 }) [.int (nI a), .int (nI b)] ws9 (fun r w => r = (nI (a * 24 + b)) ∧ w = ws9) := by
  refine ctI_of (cc := cX3_way) (maxL := 2) (by decide) rfl (Nat.le_of_ble_eq_true rfl) ?_
  intro X hXl hXd C hret
  show Kw X 0 0 ws9 0 [(0, .int (nI a)), (1, .int (nI b))] []
  refine k_iload_n C 0 dX3_way_0 rfl rfl ?_
  refine k_bipush C (v := (nI 24)) dX3_way_1 (by decide) ?_
  refine k_imulN C dX3_way_3 ?_
  refine k_iload_n C 1 dX3_way_4 rfl rfl ?_
  refine k_iaddN C dX3_way_5 ?_
  exact hret _ _ _ _ ⟨rfl, rfl⟩ dX3_way_6
set_option maxHeartbeats 4000000 in
set_option maxRecDepth 100000 in
theorem h3_across (l : Launch) (D : va_G) (cI cJ cF cD : ClassId) (ws9 : va_W)  {u9 v9 q1 q2 a b c : Nat} {us vs : Nat → Int32} (e1 : ws9[q1]? = some (u9, .inl (cI, 24, .inl us))) (e2 : ws9[q2]? = some (v9, .inl (cI, 24, .inl vs))) (ha : a < 24) (hb : b < 24) (hc : c < 24) : CtL l D (tyG cI cJ cF cD) yX3_across wsX3_across ({ frames := 0, cells := 0, slots := 0, locals := 0 }) [.ref (u9), .ref (v9), .int (nI a), .int (nI b), .int (nI c)] ws9 (fun r w => r = (acI us vs a b c) ∧ w = ws9) := by
  refine ctL_of (cc := cX3_across) (maxL := 5) (by decide) rfl (Nat.le_of_ble_eq_true rfl) ?_
  intro X hXl hXd C hret
  show Kw X 0 0 ws9 0 [(0, .ref (u9)), (1, .ref (v9)), (2, .int (nI a)), (3, .int (nI b)), (4, .int (nI c))] []
  refine k_aload_n C 0 dX3_across_0 rfl rfl ?_
  refine k_iload_n C 3 dX3_across_1 rfl rfl ?_
  refine k_iald C (j := b) q1 0 e1 rfl (by omega) (by decide) dX3_across_2 ?_
  refine k_aload_n C 0 dX3_across_3 rfl rfl ?_
  refine k_iload_n C 2 dX3_across_4 rfl rfl ?_
  refine k_iald C (j := a) q1 0 e1 rfl (by omega) (by decide) dX3_across_5 ?_
  refine k_isub C dX3_across_6 ?_
  refine k_i2l C dX3_across_7 ?_
  refine k_aload_n C 1 dX3_across_8 rfl rfl ?_
  refine k_iload C 4 dX3_across_9 rfl ?_
  refine k_iald C (j := c) q2 0 e2 rfl (by omega) (by decide) dX3_across_11 ?_
  refine k_aload_n C 1 dX3_across_12 rfl rfl ?_
  refine k_iload_n C 2 dX3_across_13 rfl rfl ?_
  refine k_iald C (j := a) q2 0 e2 rfl (by omega) (by decide) dX3_across_14 ?_
  refine k_isub C dX3_across_15 ?_
  refine k_i2l C dX3_across_16 ?_
  refine k_lmul C dX3_across_17 ?_
  refine k_aload_n C 1 dX3_across_18 rfl rfl ?_
  refine k_iload_n C 3 dX3_across_19 rfl rfl ?_
  refine k_iald C (j := b) q2 0 e2 rfl (by omega) (by decide) dX3_across_20 ?_
  refine k_aload_n C 1 dX3_across_21 rfl rfl ?_
  refine k_iload_n C 2 dX3_across_22 rfl rfl ?_
  refine k_iald C (j := a) q2 0 e2 rfl (by omega) (by decide) dX3_across_23 ?_
  refine k_isub C dX3_across_24 ?_
  refine k_i2l C dX3_across_25 ?_
  refine k_aload_n C 0 dX3_across_26 rfl rfl ?_
  refine k_iload C 4 dX3_across_27 rfl ?_
  refine k_iald C (j := c) q1 0 e1 rfl (by omega) (by decide) dX3_across_29 ?_
  refine k_aload_n C 0 dX3_across_30 rfl rfl ?_
  refine k_iload_n C 2 dX3_across_31 rfl rfl ?_
  refine k_iald C (j := a) q1 0 e1 rfl (by omega) (by decide) dX3_across_32 ?_
  refine k_isub C dX3_across_33 ?_
  refine k_i2l C dX3_across_34 ?_
  refine k_lmul C dX3_across_35 ?_
  refine k_lsub C dX3_across_36 ?_
  exact hret _ _ _ _ ⟨rfl, rfl⟩ dX3_across_37
set_option maxHeartbeats 4000000 in
set_option maxRecDepth 100000 in
theorem h3_commonFactor (l : Launch) (D : va_G) (cI cJ cF cD : ClassId) (ws9 : va_W)  (a b : Int64)  : CtL l D (tyG cI cJ cF cD) yX3_commonFactor wsX3_commonFactor ({ frames := 0, cells := 0, slots := 0, locals := 0 }) [.long a, .long b] ws9 (fun r w => r = (cfA a b) ∧ w = ws9) := by
  refine ctL_of (cc := cX3_commonFactor) (maxL := 7) (by decide) rfl (Nat.le_of_ble_eq_true rfl) ?_
  intro X hXl hXd C hret
  show Kw X 0 0 ws9 0 [(0, .long a), (2, .long b)] []
  refine k_iconst C (v := (nI 0)) dX3_commonFactor_0 (by decide) ?_
  refine k_istore C (lv' := [(4, .int (nI 0)), (0, .long a), (2, .long b)]) dX3_commonFactor_1 (by decide) rfl ?_
  suffices L3 : ∀ (n3 j3 : Nat) (x9 : Int64) (y9 : Int64), j3 ≤ 64 → 64 + 1 ≤ j3 + n3 → cfL (64 - j3) x9 y9 = cfL 64 a b → Kw X 0 0 ws9 3 [(0, .long x9), (2, .long y9), (4, .int (nI j3))] [] by
    exact k_lv [1, 2, 0] rfl (L3 (64 + 1) 0 a b (by omega) (by omega) rfl)
  intro n3
  induction n3 with
  | zero => intro j3 x9 y9 a1 a2; exact absurd a2 (by omega)
  | succ n3 ih3 =>
    intro j3 x9 y9 b3 c3 g3_0
    refine k_iload C 2 dX3_commonFactor_3 rfl ?_
    refine k_bipush C (v := (nI 64)) dX3_commonFactor_5 (by decide) ?_
    refine k_icmp_geN C (by omega) (by omega) 32 dX3_commonFactor_7 (by decide) (fun h_1 => ?_) (fun h_1 => ?_)
    · have hfin : x9 = cfL 64 a b := by rw [← g3_0]; first | (rw [show 64 - j3 = 0 by omega]; rfl) | (rw [show 64 - j3 = (64 - (j3 + 1)) + 1 by omega, cfL, if_pos (by assumption)])
      refine k_lload_n C 0 dX3_commonFactor_32 rfl rfl ?_
      refine k_lconst C (v := 0) dX3_commonFactor_33 (by decide) ?_
      refine k_lc_ge C 43 dX3_commonFactor_34 dX3_commonFactor_35 (by decide) (fun h_2 => ?_) (fun h_2 => ?_)
      · refine k_lload_n C 0 dX3_commonFactor_43 rfl rfl ?_
        exact hret _ _ _ _ ⟨by rw [cfA, ← hfin]; first | rw [if_pos (by assumption)] | rw [if_neg (by assumption)], rfl⟩ dX3_commonFactor_44
      · refine k_lload_n C 0 dX3_commonFactor_38 rfl rfl ?_
        refine k_lneg C dX3_commonFactor_39 ?_
        refine k_goto C 44 dX3_commonFactor_40 (by decide) ?_
        exact hret _ _ _ _ ⟨by rw [cfA, ← hfin]; first | rw [if_pos (by assumption)] | rw [if_neg (by assumption)], rfl⟩ dX3_commonFactor_44
    · refine k_lload_n C 1 dX3_commonFactor_10 rfl rfl ?_
      refine k_lconst C (v := 0) dX3_commonFactor_11 (by decide) ?_
      refine k_lc_eq C 32 dX3_commonFactor_12 dX3_commonFactor_13 (by decide) (fun h_3 => ?_) (fun h_3 => ?_)
      · have hfin : x9 = cfL 64 a b := by rw [← g3_0]; first | (rw [show 64 - j3 = 0 by omega]; rfl) | (rw [show 64 - j3 = (64 - (j3 + 1)) + 1 by omega, cfL, if_pos (by assumption)])
        refine k_lload_n C 0 dX3_commonFactor_32 rfl rfl ?_
        refine k_lconst C (v := 0) dX3_commonFactor_33 (by decide) ?_
        refine k_lc_ge C 43 dX3_commonFactor_34 dX3_commonFactor_35 (by decide) (fun h_4 => ?_) (fun h_4 => ?_)
        · refine k_lload_n C 0 dX3_commonFactor_43 rfl rfl ?_
          exact hret _ _ _ _ ⟨by rw [cfA, ← hfin]; first | rw [if_pos (by assumption)] | rw [if_neg (by assumption)], rfl⟩ dX3_commonFactor_44
        · refine k_lload_n C 0 dX3_commonFactor_38 rfl rfl ?_
          refine k_lneg C dX3_commonFactor_39 ?_
          refine k_goto C 44 dX3_commonFactor_40 (by decide) ?_
          exact hret _ _ _ _ ⟨by rw [cfA, ← hfin]; first | rw [if_pos (by assumption)] | rw [if_neg (by assumption)], rfl⟩ dX3_commonFactor_44
      · refine k_lload_n C 0 dX3_commonFactor_16 rfl rfl ?_
        refine k_lload_n C 1 dX3_commonFactor_17 rfl rfl ?_
        refine k_lrem C dX3_commonFactor_18 (by assumption) ?_
        refine k_lstore C (lv' := [(5, .long (x9 - x9 / y9 * y9)), (0, .long x9), (2, .long y9), (4, .int (nI j3))]) dX3_commonFactor_19 (by decide) rfl ?_
        refine k_lload_n C 2 dX3_commonFactor_21 rfl rfl ?_
        refine k_lstore_n C (lv' := [(0, .long y9), (5, .long (x9 - x9 / y9 * y9)), (2, .long y9), (4, .int (nI j3))]) dX3_commonFactor_22 rfl (by decide) rfl ?_
        refine k_lload C 1 dX3_commonFactor_23 rfl ?_
        refine k_lstore_n C (lv' := [(2, .long (x9 - x9 / y9 * y9)), (0, .long y9), (5, .long (x9 - x9 / y9 * y9)), (4, .int (nI j3))]) dX3_commonFactor_25 rfl (by decide) rfl ?_
        refine k_iinc C (v := (nI (j3 + 1))) (lv' := [(4, .int (nI (j3 + 1))), (2, .long (x9 - x9 / y9 * y9)), (0, .long y9), (5, .long (x9 - x9 / y9 * y9))]) 3 dX3_commonFactor_26 rfl (nI_1 _) (by decide) rfl ?_
        refine k_goto C 3 dX3_commonFactor_29 (by decide) ?_
        exact k_lv [2, 1, 0] rfl (ih3 (j3 + 1) y9 (x9 - x9 / y9 * y9) (by omega) (by omega) (by rw [← g3_0, show 64 - j3 = (64 - (j3 + 1)) + 1 by omega, cfL, if_neg (by assumption)]))
set_option maxHeartbeats 4000000 in
set_option maxRecDepth 100000 in
theorem h2_isTaken (l : Launch) (D : va_G) (cI cJ cF cD : ClassId) {ba fa ra : Nat → Nat} {hb : Int32} {fc : Int32} {co : Int32} {ec : Int32} {asz : Int32} {sx : Int64} {tr : Nat} {pm : Nat → Nat} {xs : Nat → Int32} {ys : Nat → Int32} {zs : Nat → Int32} {ax : Nat → Int32} {ay : Nat → Int32} {az : Nat → Int32} {al : Nat → Int32} {el : Nat → Nat} {eh : Nat → Nat} {mo : Nat → Int64} {nx : Nat → Int64} {ny : Nat → Int64} {nz : Nat → Int64} {dd : Nat → Int64} {hd : Nat → Int32} {sz : Nat → Nat} {rn : Nat → Nat → Nat} {np : Nat} (x y z : Int32) (hnp : np ≤ 24) : CtI l D (tyG cI cJ cF cD) yX2_isTaken wsX2_isTaken ({ frames := 0, cells := 0, slots := 0, locals := 0 }) [.ref (ba 1), .int x, .int y, .int z] (wB ba fa ra cI cJ cF hb (nI np) fc co ec asz sx tr pm xs ys zs ax ay az al el eh mo nx ny nz dd hd sz rn) (fun r w => r = (b2i (takB np xs ys zs x y z)) ∧ w = (wB ba fa ra cI cJ cF hb (nI np) fc co ec asz sx tr pm xs ys zs ax ay az al el eh mo nx ny nz dd hd sz rn)) := by
  refine ctZ_of (cc := cX2_isTaken) (maxL := 5) (by decide) rfl (Nat.le_of_ble_eq_true rfl) (fun r w h => h.1 ▸ b2i_01 _) ?_
  intro X hXl hXd C hret
  have lk0 : Cond.fieldLink RX2 21 "HullBuilder$Points" "size" "I" ∈ wsX2_isTaken := by decide +kernel
  have hinX2 : ∀ w ∈ wsX20, w ∈ wsX2_isTaken := by decide +kernel
  have lk2 : Cond.fieldLink RX2 9 "HullBuilder$Points" "xs" "[I" ∈ wsX2_isTaken := by decide +kernel
  have lk3 : Cond.fieldLink RX2 15 "HullBuilder$Points" "ys" "[I" ∈ wsX2_isTaken := by decide +kernel
  have lk4 : Cond.fieldLink RX2 18 "HullBuilder$Points" "zs" "[I" ∈ wsX2_isTaken := by decide +kernel
  show Kw X 0 0 (wB ba fa ra cI cJ cF hb (nI np) fc co ec asz sx tr pm xs ys zs ax ay az al el eh mo nx ny nz dd hd sz rn) 0 [(0, .ref (ba 1)), (1, .int x), (2, .int y), (3, .int z)] []
  refine k_iconst C (v := (nI 0)) dX2_isTaken_0 (by decide) ?_
  refine k_istore C (lv' := [(4, .int (nI 0)), (0, .ref (ba 1)), (1, .int x), (2, .int y), (3, .int z)]) dX2_isTaken_1 (by decide) rfl ?_
  suffices L3 : ∀ (n3 j3 : Nat), j3 ≤ np → np + 1 ≤ j3 + n3 → takB j3 xs ys zs x y z = false → Kw X 0 0 (wB ba fa ra cI cJ cF hb (nI np) fc co ec asz sx tr pm xs ys zs ax ay az al el eh mo nx ny nz dd hd sz rn) 3 [(0, .ref (ba 1)), (1, .int x), (2, .int y), (3, .int z), (4, .int (nI j3))] [] by
    exact k_lv [1, 2, 3, 4, 0] rfl (L3 (np + 1) 0 (by omega) (by omega) rfl)
  intro n3
  induction n3 with
  | zero => intro j3 a1 a2; exact absurd a2 (by omega)
  | succ n3 ih3 =>
    intro j3 b3 c3 g3_0
    refine k_iload C 4 dX2_isTaken_3 rfl ?_
    refine k_aload_n C 0 dX2_isTaken_5 rfl rfl ?_
    refine k_get C hinX2 1 3 rfl rfl (by decide) lk0 rfl rfl dX2_isTaken_6 ?_
    refine k_icmp_geN C (by omega) (by omega) 53 dX2_isTaken_9 (by decide) (fun h_1 => ?_) (fun h_1 => ?_)
    · refine k_iconst C (v := (nI 0)) dX2_isTaken_53 (by decide) ?_
      exact hret _ _ _ _ ⟨by rw [← show j3 = np by omega, g3_0]; rfl, rfl⟩ dX2_isTaken_54
    · refine k_aload_n C 0 dX2_isTaken_12 rfl rfl ?_
      refine k_get C hinX2 1 0 rfl rfl (by decide) lk2 rfl rfl dX2_isTaken_13 ?_
      refine k_iload C 4 dX2_isTaken_16 rfl ?_
      refine k_iald C (j := j3) 2 0 rfl rfl (by omega) (by decide) dX2_isTaken_18 ?_
      refine k_iload_n C 1 dX2_isTaken_19 rfl rfl ?_
      refine k_icmp_ne C 47 dX2_isTaken_20 (by decide) (fun h_2 => ?_) (fun h_2 => ?_)
      · refine k_iinc C (v := (nI (j3 + 1))) (lv' := [(4, .int (nI (j3 + 1))), (0, .ref (ba 1)), (1, .int x), (2, .int y), (3, .int z)]) 4 dX2_isTaken_47 rfl (nI_1 _) (by decide) rfl ?_
        refine k_goto C 3 dX2_isTaken_50 (by decide) ?_
        exact k_lv [1, 2, 3, 4, 0] rfl (ih3 (j3 + 1) (by omega) (by omega) (by rw [takB_s, g3_0]; simp [h_1, h_2]))
      · refine k_aload_n C 0 dX2_isTaken_23 rfl rfl ?_
        refine k_get C hinX2 1 1 rfl rfl (by decide) lk3 rfl rfl dX2_isTaken_24 ?_
        refine k_iload C 4 dX2_isTaken_27 rfl ?_
        refine k_iald C (j := j3) 3 0 rfl rfl (by omega) (by decide) dX2_isTaken_29 ?_
        refine k_iload_n C 2 dX2_isTaken_30 rfl rfl ?_
        refine k_icmp_ne C 47 dX2_isTaken_31 (by decide) (fun h_3 => ?_) (fun h_3 => ?_)
        · refine k_iinc C (v := (nI (j3 + 1))) (lv' := [(4, .int (nI (j3 + 1))), (0, .ref (ba 1)), (1, .int x), (2, .int y), (3, .int z)]) 4 dX2_isTaken_47 rfl (nI_1 _) (by decide) rfl ?_
          refine k_goto C 3 dX2_isTaken_50 (by decide) ?_
          exact k_lv [1, 2, 3, 4, 0] rfl (ih3 (j3 + 1) (by omega) (by omega) (by rw [takB_s, g3_0]; simp [h_1, h_2, h_3]))
        · refine k_aload_n C 0 dX2_isTaken_34 rfl rfl ?_
          refine k_get C hinX2 1 2 rfl rfl (by decide) lk4 rfl rfl dX2_isTaken_35 ?_
          refine k_iload C 4 dX2_isTaken_38 rfl ?_
          refine k_iald C (j := j3) 4 0 rfl rfl (by omega) (by decide) dX2_isTaken_40 ?_
          refine k_iload_n C 3 dX2_isTaken_41 rfl rfl ?_
          refine k_icmp_ne C 47 dX2_isTaken_42 (by decide) (fun h_4 => ?_) (fun h_4 => ?_)
          · refine k_iinc C (v := (nI (j3 + 1))) (lv' := [(4, .int (nI (j3 + 1))), (0, .ref (ba 1)), (1, .int x), (2, .int y), (3, .int z)]) 4 dX2_isTaken_47 rfl (nI_1 _) (by decide) rfl ?_
            refine k_goto C 3 dX2_isTaken_50 (by decide) ?_
            exact k_lv [1, 2, 3, 4, 0] rfl (ih3 (j3 + 1) (by omega) (by omega) (by rw [takB_s, g3_0]; simp [h_1, h_2, h_3, h_4]))
          · refine k_iconst C (v := (nI 1)) dX2_isTaken_45 (by decide) ?_
            exact hret _ _ _ _ ⟨by rw [show takB np xs ys zs x y z = true from anyB_mono (j := j3 + 1) (show takB (j3 + 1) xs ys zs x y z = true by rw [takB_s]; simp [h_1, h_2, h_3, h_4]) (by omega)]; rfl, rfl⟩ dX2_isTaken_46
set_option maxHeartbeats 4000000 in
set_option maxRecDepth 100000 in
theorem h2_append (l : Launch) (D : va_G) (cI cJ cF cD : ClassId) {ba fa ra : Nat → Nat} {hb : Int32} {fc : Int32} {co : Int32} {ec : Int32} {asz : Int32} {sx : Int64} {tr : Nat} {pm : Nat → Nat} {xs : Nat → Int32} {ys : Nat → Int32} {zs : Nat → Int32} {ax : Nat → Int32} {ay : Nat → Int32} {az : Nat → Int32} {al : Nat → Int32} {el : Nat → Nat} {eh : Nat → Nat} {mo : Nat → Int64} {nx : Nat → Int64} {ny : Nat → Int64} {nz : Nat → Int64} {dd : Nat → Int64} {hd : Nat → Int32} {sz : Nat → Nat} {rn : Nat → Nat → Nat} {np : Nat} (x y z : Int32) (hnp : np < 24) : CtI l D (tyG cI cJ cF cD) yX2_append wsX2_append ({ frames := 0, cells := 0, slots := 0, locals := 0 }) [.ref (ba 1), .int x, .int y, .int z] (wB ba fa ra cI cJ cF hb (nI np) fc co ec asz sx tr pm xs ys zs ax ay az al el eh mo nx ny nz dd hd sz rn) (fun r w => r = (nI np) ∧ w = (wB ba fa ra cI cJ cF hb (nI (np + 1)) fc co ec asz sx tr pm (upd xs np x) (upd ys np y) (upd zs np z) ax ay az al el eh mo nx ny nz dd hd sz rn)) := by
  refine ctI_of (cc := cX2_append) (maxL := 4) (by decide) rfl (Nat.le_of_ble_eq_true rfl) ?_
  intro X hXl hXd C hret
  have lk0 : Cond.fieldLink RX2 21 "HullBuilder$Points" "size" "I" ∈ wsX2_append := by decide +kernel
  have hinX2 : ∀ w ∈ wsX20, w ∈ wsX2_append := by decide +kernel
  have lk2 : Cond.fieldLink RX2 9 "HullBuilder$Points" "xs" "[I" ∈ wsX2_append := by decide +kernel
  have lk3 : Cond.fieldLink RX2 15 "HullBuilder$Points" "ys" "[I" ∈ wsX2_append := by decide +kernel
  have lk4 : Cond.fieldLink RX2 18 "HullBuilder$Points" "zs" "[I" ∈ wsX2_append := by decide +kernel
  show Kw X 0 0 (wB ba fa ra cI cJ cF hb (nI np) fc co ec asz sx tr pm xs ys zs ax ay az al el eh mo nx ny nz dd hd sz rn) 0 [(0, .ref (ba 1)), (1, .int x), (2, .int y), (3, .int z)] []
  refine k_aload_n C 0 dX2_append_0 rfl rfl ?_
  refine k_get C hinX2 1 3 rfl rfl (by decide) lk0 rfl rfl dX2_append_1 ?_
  refine k_bipush C (v := (nI 24)) dX2_append_4 (by decide) ?_
  refine k_icmp_ltN C (by omega) (by omega) 11 dX2_append_6 (by decide) (fun h_1 => ?_) (fun h_1 => ?_)
  · refine k_aload_n C 0 dX2_append_11 rfl rfl ?_
    refine k_get C hinX2 1 0 rfl rfl (by decide) lk2 rfl rfl dX2_append_12 ?_
    refine k_aload_n C 0 dX2_append_15 rfl rfl ?_
    refine k_get C hinX2 1 3 rfl rfl (by decide) lk0 rfl rfl dX2_append_16 ?_
    refine k_iload_n C 1 dX2_append_19 rfl rfl ?_
    refine k_iast C (ws' := (wB ba fa ra cI cJ cF hb (nI np) fc co ec asz sx tr pm (upd xs np x) ys zs ax ay az al el eh mo nx ny nz dd hd sz rn)) (j := np) 2 0 rfl rfl (by omega) (by decide) rfl dX2_append_20 ?_
    refine k_aload_n C 0 dX2_append_21 rfl rfl ?_
    refine k_get C hinX2 1 1 rfl rfl (by decide) lk3 rfl rfl dX2_append_22 ?_
    refine k_aload_n C 0 dX2_append_25 rfl rfl ?_
    refine k_get C hinX2 1 3 rfl rfl (by decide) lk0 rfl rfl dX2_append_26 ?_
    refine k_iload_n C 2 dX2_append_29 rfl rfl ?_
    refine k_iast C (ws' := (wB ba fa ra cI cJ cF hb (nI np) fc co ec asz sx tr pm (upd xs np x) (upd ys np y) zs ax ay az al el eh mo nx ny nz dd hd sz rn)) (j := np) 3 0 rfl rfl (by omega) (by decide) rfl dX2_append_30 ?_
    refine k_aload_n C 0 dX2_append_31 rfl rfl ?_
    refine k_get C hinX2 1 2 rfl rfl (by decide) lk4 rfl rfl dX2_append_32 ?_
    refine k_aload_n C 0 dX2_append_35 rfl rfl ?_
    refine k_get C hinX2 1 3 rfl rfl (by decide) lk0 rfl rfl dX2_append_36 ?_
    refine k_iload_n C 3 dX2_append_39 rfl rfl ?_
    refine k_iast C (ws' := (wB ba fa ra cI cJ cF hb (nI np) fc co ec asz sx tr pm (upd xs np x) (upd ys np y) (upd zs np z) ax ay az al el eh mo nx ny nz dd hd sz rn)) (j := np) 4 0 rfl rfl (by omega) (by decide) rfl dX2_append_40 ?_
    refine k_aload_n C 0 dX2_append_41 rfl rfl ?_
    refine k_dup C dX2_append_42 rfl ?_
    refine k_get C hinX2 1 3 rfl rfl (by decide) lk0 rfl rfl dX2_append_43 ?_
    refine k_iconst C (v := (nI 1)) dX2_append_46 (by decide) ?_
    refine k_iaddN C dX2_append_47 ?_
    refine k_put C (ws' := (wB ba fa ra cI cJ cF hb (nI (np + 1)) fc co ec asz sx tr pm (upd xs np x) (upd ys np y) (upd zs np z) ax ay az al el eh mo nx ny nz dd hd sz rn)) hinX2 tyX2 tyX2_ok nmX2 1 3 rfl rfl (by decide) lk0 rfl rfl rfl rfl (Nat.le_of_ble_eq_true rfl) rfl dX2_append_48 ?_
    refine k_aload_n C 0 dX2_append_51 rfl rfl ?_
    refine k_get C hinX2 1 3 rfl rfl (by decide) lk0 rfl rfl dX2_append_52 ?_
    refine k_iconst C (v := (nI 1)) dX2_append_55 (by decide) ?_
    refine k_isubN C (by omega) dX2_append_56 ?_
    refine k_topi (nI np) (by rw [Nat.add_sub_cancel]) ?_
    exact hret _ _ _ _ ⟨rfl, rfl⟩ dX2_append_57
  · exact absurd hnp (by omega)
set_option maxHeartbeats 4000000 in
set_option maxRecDepth 100000 in
theorem h2_remove (l : Launch) (D : va_G) (cI cJ cF cD : ClassId) {ba fa ra : Nat → Nat} {hb : Int32} {fc : Int32} {co : Int32} {ec : Int32} {asz : Int32} {sx : Int64} {tr : Nat} {pm : Nat → Nat} {xs : Nat → Int32} {ys : Nat → Int32} {zs : Nat → Int32} {ax : Nat → Int32} {ay : Nat → Int32} {az : Nat → Int32} {al : Nat → Int32} {el : Nat → Nat} {eh : Nat → Nat} {mo : Nat → Int64} {nx : Nat → Int64} {ny : Nat → Int64} {nz : Nat → Int64} {dd : Nat → Int64} {hd : Nat → Int32} {sz : Nat → Nat} {rn : Nat → Nat → Nat} {np q : Nat} (hnp : np ≤ 24) (hq : q < np) : CtV l D (tyG cI cJ cF cD) yX2_remove wsX2_remove ({ frames := 0, cells := 0, slots := 0, locals := 0 }) [.ref (ba 1), .int (nI q)] (wB ba fa ra cI cJ cF hb (nI np) fc co ec asz sx tr pm xs ys zs ax ay az al el eh mo nx ny nz dd hd sz rn) (fun w => w = (wB ba fa ra cI cJ cF hb (nI (np - 1)) fc co ec asz sx tr pm (shfJ xs q (np - 1)) (shfJ ys q (np - 1)) (shfJ zs q (np - 1)) ax ay az al el eh mo nx ny nz dd hd sz rn)) := by
  refine ctV_of (cc := cX2_remove) (maxL := 3) (by decide) rfl (Nat.le_of_ble_eq_true rfl) ?_
  intro X hXl hXd C hret
  have lk0 : Cond.fieldLink RX2 21 "HullBuilder$Points" "size" "I" ∈ wsX2_remove := by decide +kernel
  have hinX2 : ∀ w ∈ wsX20, w ∈ wsX2_remove := by decide +kernel
  have lk2 : Cond.fieldLink RX2 9 "HullBuilder$Points" "xs" "[I" ∈ wsX2_remove := by decide +kernel
  have lk3 : Cond.fieldLink RX2 15 "HullBuilder$Points" "ys" "[I" ∈ wsX2_remove := by decide +kernel
  have lk4 : Cond.fieldLink RX2 18 "HullBuilder$Points" "zs" "[I" ∈ wsX2_remove := by decide +kernel
  show Kw X 0 0 (wB ba fa ra cI cJ cF hb (nI np) fc co ec asz sx tr pm xs ys zs ax ay az al el eh mo nx ny nz dd hd sz rn) 0 [(0, .ref (ba 1)), (1, .int (nI q))] []
  refine k_iload_n C 1 dX2_remove_0 rfl rfl ?_
  refine k_if_lt C 12 dX2_remove_1 (by decide) (fun h_1 => ?_) (fun h_1 => ?_)
  · exact absurd hq (by first | omega | exact absurd h_1 (nI_pos (by omega)))
  · refine k_iload_n C 1 dX2_remove_4 rfl rfl ?_
    refine k_aload_n C 0 dX2_remove_5 rfl rfl ?_
    refine k_get C hinX2 1 3 rfl rfl (by decide) lk0 rfl rfl dX2_remove_6 ?_
    refine k_icmp_ltN C (by omega) (by omega) 13 dX2_remove_9 (by decide) (fun h_2 => ?_) (fun h_2 => ?_)
    · refine k_iload_n C 1 dX2_remove_13 rfl rfl ?_
      refine k_istore_n C (lv' := [(2, .int (nI q)), (0, .ref (ba 1)), (1, .int (nI q))]) dX2_remove_14 rfl (by decide) rfl ?_
      suffices L15 : ∀ (n15 j15 : Nat), j15 ≤ (np - 1) → (np - 1) + 1 ≤ j15 + n15 → q ≤ j15 → Kw X 0 0 (wB ba fa ra cI cJ cF hb (nI np) fc co ec asz sx tr pm (shfJ xs q j15) (shfJ ys q j15) (shfJ zs q j15) ax ay az al el eh mo nx ny nz dd hd sz rn) 15 [(0, .ref (ba 1)), (1, .int (nI q)), (2, .int (nI j15))] [] by
        have w12_0 : xs = (shfJ xs q q) := (shfJ_0 _ _).symm
        have w13_1 : ys = (shfJ ys q q) := (shfJ_0 _ _).symm
        have w14_2 : zs = (shfJ zs q q) := (shfJ_0 _ _).symm
        refine k_ws (ws' := (wB ba fa ra cI cJ cF hb (nI np) fc co ec asz sx tr pm (shfJ xs q q) (shfJ ys q q) (shfJ zs q q) ax ay az al el eh mo nx ny nz dd hd sz rn)) (by rw [← w12_0, ← w13_1, ← w14_2]) ?_
        exact k_lv [1, 2, 0] rfl (L15 ((np - 1) + 1) q (by omega) (by omega) (Nat.le_refl _))
      intro n15
      induction n15 with
      | zero => intro j15 a1 a2; exact absurd a2 (by omega)
      | succ n15 ih15 =>
        intro j15 b15 c15 g15_0
        refine k_iload_n C 2 dX2_remove_15 rfl rfl ?_
        refine k_iconst C (v := (nI 1)) dX2_remove_16 (by decide) ?_
        refine k_iaddN C dX2_remove_17 ?_
        refine k_aload_n C 0 dX2_remove_18 rfl rfl ?_
        refine k_get C hinX2 1 3 rfl rfl (by decide) lk0 rfl rfl dX2_remove_19 ?_
        refine k_icmp_geN C (by omega) (by omega) 73 dX2_remove_22 (by decide) (fun h_3 => ?_) (fun h_3 => ?_)
        · refine k_aload_n C 0 dX2_remove_73 rfl rfl ?_
          refine k_dup C dX2_remove_74 rfl ?_
          refine k_get C hinX2 1 3 rfl rfl (by decide) lk0 rfl rfl dX2_remove_75 ?_
          refine k_iconst C (v := (nI 1)) dX2_remove_78 (by decide) ?_
          refine k_isubN C (by omega) dX2_remove_79 ?_
          refine k_put C (ws' := (wB ba fa ra cI cJ cF hb (nI (np - 1)) fc co ec asz sx tr pm (shfJ xs q j15) (shfJ ys q j15) (shfJ zs q j15) ax ay az al el eh mo nx ny nz dd hd sz rn)) hinX2 tyX2 tyX2_ok nmX2 1 3 rfl rfl (by decide) lk0 rfl rfl rfl rfl (Nat.le_of_ble_eq_true rfl) rfl dX2_remove_80 ?_
          exact hret _ _ _ (by rw [show j15 = np - 1 by omega]) dX2_remove_83
        · refine k_aload_n C 0 dX2_remove_25 rfl rfl ?_
          refine k_get C hinX2 1 0 rfl rfl (by decide) lk2 rfl rfl dX2_remove_26 ?_
          refine k_iload_n C 2 dX2_remove_29 rfl rfl ?_
          refine k_aload_n C 0 dX2_remove_30 rfl rfl ?_
          refine k_get C hinX2 1 0 rfl rfl (by decide) lk2 rfl rfl dX2_remove_31 ?_
          refine k_iload_n C 2 dX2_remove_34 rfl rfl ?_
          refine k_iconst C (v := (nI 1)) dX2_remove_35 (by decide) ?_
          refine k_iaddN C dX2_remove_36 ?_
          refine k_iald C (j := (j15 + 1)) 2 0 rfl rfl (by omega) (by decide) dX2_remove_37 ?_
          refine k_iast C (ws' := (wB ba fa ra cI cJ cF hb (nI np) fc co ec asz sx tr pm (upd (shfJ xs q j15) j15 ((shfJ xs q j15) (j15 + 1))) (shfJ ys q j15) (shfJ zs q j15) ax ay az al el eh mo nx ny nz dd hd sz rn)) (j := j15) 2 0 rfl rfl (by omega) (by decide) rfl dX2_remove_38 ?_
          refine k_aload_n C 0 dX2_remove_39 rfl rfl ?_
          refine k_get C hinX2 1 1 rfl rfl (by decide) lk3 rfl rfl dX2_remove_40 ?_
          refine k_iload_n C 2 dX2_remove_43 rfl rfl ?_
          refine k_aload_n C 0 dX2_remove_44 rfl rfl ?_
          refine k_get C hinX2 1 1 rfl rfl (by decide) lk3 rfl rfl dX2_remove_45 ?_
          refine k_iload_n C 2 dX2_remove_48 rfl rfl ?_
          refine k_iconst C (v := (nI 1)) dX2_remove_49 (by decide) ?_
          refine k_iaddN C dX2_remove_50 ?_
          refine k_iald C (j := (j15 + 1)) 3 0 rfl rfl (by omega) (by decide) dX2_remove_51 ?_
          refine k_iast C (ws' := (wB ba fa ra cI cJ cF hb (nI np) fc co ec asz sx tr pm (upd (shfJ xs q j15) j15 ((shfJ xs q j15) (j15 + 1))) (upd (shfJ ys q j15) j15 ((shfJ ys q j15) (j15 + 1))) (shfJ zs q j15) ax ay az al el eh mo nx ny nz dd hd sz rn)) (j := j15) 3 0 rfl rfl (by omega) (by decide) rfl dX2_remove_52 ?_
          refine k_aload_n C 0 dX2_remove_53 rfl rfl ?_
          refine k_get C hinX2 1 2 rfl rfl (by decide) lk4 rfl rfl dX2_remove_54 ?_
          refine k_iload_n C 2 dX2_remove_57 rfl rfl ?_
          refine k_aload_n C 0 dX2_remove_58 rfl rfl ?_
          refine k_get C hinX2 1 2 rfl rfl (by decide) lk4 rfl rfl dX2_remove_59 ?_
          refine k_iload_n C 2 dX2_remove_62 rfl rfl ?_
          refine k_iconst C (v := (nI 1)) dX2_remove_63 (by decide) ?_
          refine k_iaddN C dX2_remove_64 ?_
          refine k_iald C (j := (j15 + 1)) 4 0 rfl rfl (by omega) (by decide) dX2_remove_65 ?_
          refine k_iast C (ws' := (wB ba fa ra cI cJ cF hb (nI np) fc co ec asz sx tr pm (upd (shfJ xs q j15) j15 ((shfJ xs q j15) (j15 + 1))) (upd (shfJ ys q j15) j15 ((shfJ ys q j15) (j15 + 1))) (upd (shfJ zs q j15) j15 ((shfJ zs q j15) (j15 + 1))) ax ay az al el eh mo nx ny nz dd hd sz rn)) (j := j15) 4 0 rfl rfl (by omega) (by decide) rfl dX2_remove_66 ?_
          refine k_iinc C (v := (nI (j15 + 1))) (lv' := [(2, .int (nI (j15 + 1))), (0, .ref (ba 1)), (1, .int (nI q))]) 2 dX2_remove_67 rfl (nI_1 _) (by decide) rfl ?_
          refine k_goto C 15 dX2_remove_70 (by decide) ?_
          have w68_0 : (upd (shfJ xs q j15) j15 ((shfJ xs q j15) (j15 + 1))) = (shfJ xs q (j15 + 1)) := shfJ_s _ _ _ g15_0
          have w69_1 : (upd (shfJ ys q j15) j15 ((shfJ ys q j15) (j15 + 1))) = (shfJ ys q (j15 + 1)) := shfJ_s _ _ _ g15_0
          have w70_2 : (upd (shfJ zs q j15) j15 ((shfJ zs q j15) (j15 + 1))) = (shfJ zs q (j15 + 1)) := shfJ_s _ _ _ g15_0
          refine k_ws (ws' := (wB ba fa ra cI cJ cF hb (nI np) fc co ec asz sx tr pm (shfJ xs q (j15 + 1)) (shfJ ys q (j15 + 1)) (shfJ zs q (j15 + 1)) ax ay az al el eh mo nx ny nz dd hd sz rn)) (by rw [← w68_0, ← w69_1, ← w70_2]) ?_
          exact k_lv [1, 2, 0] rfl (ih15 (j15 + 1) (by omega) (by omega) (by omega))
    · exact absurd hq (by first | omega | exact absurd h_2 (nI_pos (by omega)))
set_option maxHeartbeats 4000000 in
set_option maxRecDepth 100000 in
theorem h2_coordinate (l : Launch) (D : va_G) (cI cJ cF cD : ClassId) {ba fa ra : Nat → Nat} {hb : Int32} {fc : Int32} {co : Int32} {ec : Int32} {asz : Int32} {sx : Int64} {tr : Nat} {pm : Nat → Nat} {xs : Nat → Int32} {ys : Nat → Int32} {zs : Nat → Int32} {ax : Nat → Int32} {ay : Nat → Int32} {az : Nat → Int32} {al : Nat → Int32} {el : Nat → Nat} {eh : Nat → Nat} {mo : Nat → Int64} {nx : Nat → Int64} {ny : Nat → Int64} {nz : Nat → Int64} {dd : Nat → Int64} {hd : Nat → Int32} {sz : Nat → Nat} {rn : Nat → Nat → Nat} {np q wh : Nat} (hnp : np ≤ 24) (hq : q < np) (hw : wh < 3) : CtI l D (tyG cI cJ cF cD) yX2_coordinate wsX2_coordinate ({ frames := 0, cells := 0, slots := 0, locals := 0 }) [.ref (ba 1), .int (nI q), .int (nI wh)] (wB ba fa ra cI cJ cF hb (nI np) fc co ec asz sx tr pm xs ys zs ax ay az al el eh mo nx ny nz dd hd sz rn) (fun r w => r = (ofV xs ys zs q wh) ∧ w = (wB ba fa ra cI cJ cF hb (nI np) fc co ec asz sx tr pm xs ys zs ax ay az al el eh mo nx ny nz dd hd sz rn)) := by
  refine ctI_of (cc := cX2_coordinate) (maxL := 3) (by decide) rfl (Nat.le_of_ble_eq_true rfl) ?_
  intro X hXl hXd C hret
  have lk0 : Cond.fieldLink RX2 18 "HullBuilder$Points" "zs" "[I" ∈ wsX2_coordinate := by decide +kernel
  have hinX2 : ∀ w ∈ wsX20, w ∈ wsX2_coordinate := by decide +kernel
  have lk2 : Cond.fieldLink RX2 15 "HullBuilder$Points" "ys" "[I" ∈ wsX2_coordinate := by decide +kernel
  have lk3 : Cond.fieldLink RX2 9 "HullBuilder$Points" "xs" "[I" ∈ wsX2_coordinate := by decide +kernel
  show Kw X 0 0 (wB ba fa ra cI cJ cF hb (nI np) fc co ec asz sx tr pm xs ys zs ax ay az al el eh mo nx ny nz dd hd sz rn) 0 [(0, .ref (ba 1)), (1, .int (nI q)), (2, .int (nI wh))] []
  refine k_iload_n C 2 dX2_coordinate_0 rfl rfl ?_
  refine k_if_neN C (by omega) 11 dX2_coordinate_1 (by decide) (fun h_1 => ?_) (fun h_1 => ?_)
  · refine k_iload_n C 2 dX2_coordinate_11 rfl rfl ?_
    refine k_iconst C (v := (nI 1)) dX2_coordinate_12 (by decide) ?_
    refine k_icmp_neN C (by omega) (by omega) 25 dX2_coordinate_13 (by decide) (fun h_2 => ?_) (fun h_2 => ?_)
    · refine k_aload_n C 0 dX2_coordinate_25 rfl rfl ?_
      refine k_get C hinX2 1 2 rfl rfl (by decide) lk0 rfl rfl dX2_coordinate_26 ?_
      refine k_iload_n C 1 dX2_coordinate_29 rfl rfl ?_
      refine k_iald C (j := q) 4 0 rfl rfl (by omega) (by decide) dX2_coordinate_30 ?_
      exact hret _ _ _ _ ⟨by simp [ofV, h_1, h_2], rfl⟩ dX2_coordinate_31
    · refine k_aload_n C 0 dX2_coordinate_16 rfl rfl ?_
      refine k_get C hinX2 1 1 rfl rfl (by decide) lk2 rfl rfl dX2_coordinate_17 ?_
      refine k_iload_n C 1 dX2_coordinate_20 rfl rfl ?_
      refine k_iald C (j := q) 3 0 rfl rfl (by omega) (by decide) dX2_coordinate_21 ?_
      refine k_goto C 31 dX2_coordinate_22 (by decide) ?_
      exact hret _ _ _ _ ⟨by simp [ofV, h_1, h_2], rfl⟩ dX2_coordinate_31
  · refine k_aload_n C 0 dX2_coordinate_4 rfl rfl ?_
    refine k_get C hinX2 1 0 rfl rfl (by decide) lk3 rfl rfl dX2_coordinate_5 ?_
    refine k_iload_n C 1 dX2_coordinate_8 rfl rfl ?_
    refine k_iald C (j := q) 2 0 rfl rfl (by omega) (by decide) dX2_coordinate_9 ?_
    exact hret _ _ _ _ ⟨by simp [ofV, h_1], rfl⟩ dX2_coordinate_10
set_option maxHeartbeats 4000000 in
set_option maxRecDepth 100000 in
theorem h2_copyFrom (l : Launch) (D : va_G) (cI cJ cF cD : ClassId) {ba fa ra : Nat → Nat} {hb : Int32} {fc : Int32} {co : Int32} {ec : Int32} {asz : Int32} {sx : Int64} {tr : Nat} {pm : Nat → Nat} {xs : Nat → Int32} {ys : Nat → Int32} {zs : Nat → Int32} {ax : Nat → Int32} {ay : Nat → Int32} {az : Nat → Int32} {al : Nat → Int32} {el : Nat → Nat} {eh : Nat → Nat} {mo : Nat → Int64} {nx : Nat → Int64} {ny : Nat → Int64} {nz : Nat → Int64} {dd : Nat → Int64} {hd : Nat → Int32} {sz : Nat → Nat} {rn : Nat → Nat → Nat} {np : Nat} (hnp : np ≤ 24) : CtV l D (tyG cI cJ cF cD) yX2_copyFrom wsX2_copyFrom ({ frames := 0, cells := 0, slots := 0, locals := 0 }) [.ref (ba 6), .ref (ba 1)] (wB ba fa ra cI cJ cF hb (nI np) fc co ec asz sx tr pm xs ys zs ax ay az al el eh mo nx ny nz dd hd sz rn) (fun w => w = (wB ba fa ra cI cJ cF hb (nI np) fc co ec (nI np) sx tr pm xs ys zs (cpI ax xs np) (cpI ay ys np) (cpI az zs np) al el eh mo nx ny nz dd hd sz rn)) := by
  refine ctV_of (cc := cX2_copyFrom) (maxL := 3) (by decide) rfl (Nat.le_of_ble_eq_true rfl) ?_
  intro X hXl hXd C hret
  have lk0 : Cond.fieldLink RX2 21 "HullBuilder$Points" "size" "I" ∈ wsX2_copyFrom := by decide +kernel
  have hinX2 : ∀ w ∈ wsX20, w ∈ wsX2_copyFrom := by decide +kernel
  have lk2 : Cond.fieldLink RX2 9 "HullBuilder$Points" "xs" "[I" ∈ wsX2_copyFrom := by decide +kernel
  have lk3 : Cond.fieldLink RX2 15 "HullBuilder$Points" "ys" "[I" ∈ wsX2_copyFrom := by decide +kernel
  have lk4 : Cond.fieldLink RX2 18 "HullBuilder$Points" "zs" "[I" ∈ wsX2_copyFrom := by decide +kernel
  show Kw X 0 0 (wB ba fa ra cI cJ cF hb (nI np) fc co ec asz sx tr pm xs ys zs ax ay az al el eh mo nx ny nz dd hd sz rn) 0 [(0, .ref (ba 6)), (1, .ref (ba 1))] []
  refine k_iconst C (v := (nI 0)) dX2_copyFrom_0 (by decide) ?_
  refine k_istore_n C (lv' := [(2, .int (nI 0)), (0, .ref (ba 6)), (1, .ref (ba 1))]) dX2_copyFrom_1 rfl (by decide) rfl ?_
  suffices L2 : ∀ (n2 j2 : Nat), j2 ≤ np → np + 1 ≤ j2 + n2 → Kw X 0 0 (wB ba fa ra cI cJ cF hb (nI np) fc co ec asz sx tr pm xs ys zs (cpI ax xs j2) (cpI ay ys j2) (cpI az zs j2) al el eh mo nx ny nz dd hd sz rn) 2 [(0, .ref (ba 6)), (1, .ref (ba 1)), (2, .int (nI j2))] [] by
    have w3_0 : ax = (cpI ax xs 0) := (cpI_0 _ _).symm
    have w4_1 : ay = (cpI ay ys 0) := (cpI_0 _ _).symm
    have w5_2 : az = (cpI az zs 0) := (cpI_0 _ _).symm
    refine k_ws (ws' := (wB ba fa ra cI cJ cF hb (nI np) fc co ec asz sx tr pm xs ys zs (cpI ax xs 0) (cpI ay ys 0) (cpI az zs 0) al el eh mo nx ny nz dd hd sz rn)) (by rw [← w3_0, ← w4_1, ← w5_2]) ?_
    exact k_lv [1, 2, 0] rfl (L2 (np + 1) 0 (by omega) (by omega))
  intro n2
  induction n2 with
  | zero => intro j2 a1 a2; exact absurd a2 (by omega)
  | succ n2 ih2 =>
    intro j2 b2 c2
    refine k_iload_n C 2 dX2_copyFrom_2 rfl rfl ?_
    refine k_aload_n C 1 dX2_copyFrom_3 rfl rfl ?_
    refine k_get C hinX2 1 3 rfl rfl (by decide) lk0 rfl rfl dX2_copyFrom_4 ?_
    refine k_icmp_geN C (by omega) (by omega) 52 dX2_copyFrom_7 (by decide) (fun h_1 => ?_) (fun h_1 => ?_)
    · refine k_aload_n C 0 dX2_copyFrom_52 rfl rfl ?_
      refine k_aload_n C 1 dX2_copyFrom_53 rfl rfl ?_
      refine k_get C hinX2 1 3 rfl rfl (by decide) lk0 rfl rfl dX2_copyFrom_54 ?_
      refine k_put C (ws' := (wB ba fa ra cI cJ cF hb (nI np) fc co ec (nI np) sx tr pm xs ys zs (cpI ax xs j2) (cpI ay ys j2) (cpI az zs j2) al el eh mo nx ny nz dd hd sz rn)) hinX2 tyX2 tyX2_ok nmX2 6 3 rfl rfl (by decide) lk0 rfl rfl rfl rfl (Nat.le_of_ble_eq_true rfl) rfl dX2_copyFrom_57 ?_
      exact hret _ _ _ (by rw [show j2 = np by omega]) dX2_copyFrom_60
    · refine k_aload_n C 0 dX2_copyFrom_10 rfl rfl ?_
      refine k_get C hinX2 6 0 rfl rfl (by decide) lk2 rfl rfl dX2_copyFrom_11 ?_
      refine k_iload_n C 2 dX2_copyFrom_14 rfl rfl ?_
      refine k_aload_n C 1 dX2_copyFrom_15 rfl rfl ?_
      refine k_get C hinX2 1 0 rfl rfl (by decide) lk2 rfl rfl dX2_copyFrom_16 ?_
      refine k_iload_n C 2 dX2_copyFrom_19 rfl rfl ?_
      refine k_iald C (j := j2) 2 0 rfl rfl (by omega) (by decide) dX2_copyFrom_20 ?_
      refine k_iast C (ws' := (wB ba fa ra cI cJ cF hb (nI np) fc co ec asz sx tr pm xs ys zs (upd (cpI ax xs j2) j2 (xs j2)) (cpI ay ys j2) (cpI az zs j2) al el eh mo nx ny nz dd hd sz rn)) (j := j2) 7 0 rfl rfl (by omega) (by decide) rfl dX2_copyFrom_21 ?_
      refine k_aload_n C 0 dX2_copyFrom_22 rfl rfl ?_
      refine k_get C hinX2 6 1 rfl rfl (by decide) lk3 rfl rfl dX2_copyFrom_23 ?_
      refine k_iload_n C 2 dX2_copyFrom_26 rfl rfl ?_
      refine k_aload_n C 1 dX2_copyFrom_27 rfl rfl ?_
      refine k_get C hinX2 1 1 rfl rfl (by decide) lk3 rfl rfl dX2_copyFrom_28 ?_
      refine k_iload_n C 2 dX2_copyFrom_31 rfl rfl ?_
      refine k_iald C (j := j2) 3 0 rfl rfl (by omega) (by decide) dX2_copyFrom_32 ?_
      refine k_iast C (ws' := (wB ba fa ra cI cJ cF hb (nI np) fc co ec asz sx tr pm xs ys zs (upd (cpI ax xs j2) j2 (xs j2)) (upd (cpI ay ys j2) j2 (ys j2)) (cpI az zs j2) al el eh mo nx ny nz dd hd sz rn)) (j := j2) 8 0 rfl rfl (by omega) (by decide) rfl dX2_copyFrom_33 ?_
      refine k_aload_n C 0 dX2_copyFrom_34 rfl rfl ?_
      refine k_get C hinX2 6 2 rfl rfl (by decide) lk4 rfl rfl dX2_copyFrom_35 ?_
      refine k_iload_n C 2 dX2_copyFrom_38 rfl rfl ?_
      refine k_aload_n C 1 dX2_copyFrom_39 rfl rfl ?_
      refine k_get C hinX2 1 2 rfl rfl (by decide) lk4 rfl rfl dX2_copyFrom_40 ?_
      refine k_iload_n C 2 dX2_copyFrom_43 rfl rfl ?_
      refine k_iald C (j := j2) 4 0 rfl rfl (by omega) (by decide) dX2_copyFrom_44 ?_
      refine k_iast C (ws' := (wB ba fa ra cI cJ cF hb (nI np) fc co ec asz sx tr pm xs ys zs (upd (cpI ax xs j2) j2 (xs j2)) (upd (cpI ay ys j2) j2 (ys j2)) (upd (cpI az zs j2) j2 (zs j2)) al el eh mo nx ny nz dd hd sz rn)) (j := j2) 9 0 rfl rfl (by omega) (by decide) rfl dX2_copyFrom_45 ?_
      refine k_iinc C (v := (nI (j2 + 1))) (lv' := [(2, .int (nI (j2 + 1))), (0, .ref (ba 6)), (1, .ref (ba 1))]) 2 dX2_copyFrom_46 rfl (nI_1 _) (by decide) rfl ?_
      refine k_goto C 2 dX2_copyFrom_49 (by decide) ?_
      have w49_0 : (upd (cpI ax xs j2) j2 (xs j2)) = (cpI ax xs (j2 + 1)) := cpI_s _ _ _
      have w50_1 : (upd (cpI ay ys j2) j2 (ys j2)) = (cpI ay ys (j2 + 1)) := cpI_s _ _ _
      have w51_2 : (upd (cpI az zs j2) j2 (zs j2)) = (cpI az zs (j2 + 1)) := cpI_s _ _ _
      refine k_ws (ws' := (wB ba fa ra cI cJ cF hb (nI np) fc co ec asz sx tr pm xs ys zs (cpI ax xs (j2 + 1)) (cpI ay ys (j2 + 1)) (cpI az zs (j2 + 1)) al el eh mo nx ny nz dd hd sz rn)) (by rw [← w49_0, ← w50_1, ← w51_2]) ?_
      exact k_lv [1, 2, 0] rfl (ih2 (j2 + 1) (by omega) (by omega))
