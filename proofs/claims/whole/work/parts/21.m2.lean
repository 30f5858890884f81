/-! ===== HullBuilderModel: its contracts, 2 ===== -/
set_option maxHeartbeats 4000000 in
set_option maxRecDepth 100000 in
theorem c4_common (l : Launch) (D : va_G) (cI cJ cF cD : ClassId) {ad : Nat → Nat} {thr pts blt bds hld fcs egs : Int32} {tx ty tz : Int64} {xs ys zs szs crn odr nds lfs rts far : Nat → Int32} {hx hy hz nx ny nz ofs : Nat → Int64} (a b : Int64)  : CtL l D (tyG cI cJ cF cD) yX4_common wsX4_common ({ frames := 0, cells := 0, slots := 0, locals := 0 }) [.long a, .long b] (wM ad cI cJ thr pts blt bds hld fcs egs tx ty tz xs ys zs szs crn odr nds lfs rts far hx hy hz nx ny nz ofs) (fun r w => r = (cmnL 64 (absL a) (absL b)) ∧ w = (wM ad cI cJ thr pts blt bds hld fcs egs tx ty tz xs ys zs szs crn odr nds lfs rts far hx hy hz nx ny nz ofs)) := by
  refine ctL_of (cc := cX4_common) (maxL := 11) (by decide) rfl (Nat.le_of_ble_eq_true rfl) ?_
  intro X hXl hXd C hret
  show Kw X 0 0 (wM ad cI cJ thr pts blt bds hld fcs egs tx ty tz xs ys zs szs crn odr nds lfs rts far hx hy hz nx ny nz ofs) 0 [(0, .long a), (2, .long b)] []
  have J13 : Kw X 0 0 (wM ad cI cJ thr pts blt bds hld fcs egs tx ty tz xs ys zs szs crn odr nds lfs rts far hx hy hz nx ny nz ofs) 13 [(0, .long a), (2, .long b)] [.long (absL a)] := by
    refine k_lstore C (lv' := [(4, .long (absL a)), (0, .long a), (2, .long b)]) dX4_common_13 (by decide) rfl ?_
    have J28 : Kw X 0 0 (wM ad cI cJ thr pts blt bds hld fcs egs tx ty tz xs ys zs szs crn odr nds lfs rts far hx hy hz nx ny nz ofs) 28 [(4, .long (absL a)), (0, .long a), (2, .long b)] [.long (absL b)] := by
      refine k_lstore C (lv' := [(6, .long (absL b)), (4, .long (absL a)), (0, .long a), (2, .long b)]) dX4_common_28 (by decide) rfl ?_
      refine k_iconst C (v := (nI 0)) dX4_common_30 (by decide) ?_
      refine k_istore C (lv' := [(8, .int (nI 0)), (6, .long (absL b)), (4, .long (absL a)), (0, .long a), (2, .long b)]) dX4_common_31 (by decide) rfl ?_
      suffices L33 : ∀ (n33 j33 : Nat) (x9 : Int64) (y9 : Int64), j33 ≤ 64 → 64 + 1 ≤ j33 + n33 → cmnL (64 - j33) x9 y9 = cmnL 64 (absL a) (absL b) → Kw X 0 0 (wM ad cI cJ thr pts blt bds hld fcs egs tx ty tz xs ys zs szs crn odr nds lfs rts far hx hy hz nx ny nz ofs) 33 [(0, .long a), (2, .long b), (4, .long x9), (6, .long y9), (8, .int (nI j33))] [] by
        exact k_lv [3, 4, 2, 1, 0] rfl (L33 (64 + 1) 0 (absL a) (absL b) (by omega) (by omega) rfl)
      intro n33
      induction n33 with
      | zero => intro j33 x9 y9 a1 a2; exact absurd a2 (by omega)
      | succ n33 ih33 =>
        intro j33 x9 y9 b33 c33 g33_0
        refine k_iload C 4 dX4_common_33 rfl ?_
        refine k_bipush C (v := (nI 64)) dX4_common_35 (by decide) ?_
        refine k_icmp_geN C (by omega) (by omega) 68 dX4_common_37 (by decide) (fun h_1 => ?_) (fun h_1 => ?_)
        · refine k_lload C 2 dX4_common_68 rfl ?_
          exact hret _ _ _ _ ⟨by rw [← g33_0]; first | (rw [show 64 - j33 = 0 by omega]; rfl) | (rw [show 64 - j33 = (64 - (j33 + 1)) + 1 by omega, cmnL, if_neg (by assumption)]), rfl⟩ dX4_common_70
        · refine k_lload C 3 dX4_common_40 rfl ?_
          refine k_lconst C (v := 0) dX4_common_42 (by decide) ?_
          refine k_lc_le C 68 dX4_common_43 dX4_common_44 (by decide) (fun h_2 => ?_) (fun h_2 => ?_)
          · refine k_lload C 2 dX4_common_68 rfl ?_
            exact hret _ _ _ _ ⟨by rw [← g33_0]; first | (rw [show 64 - j33 = 0 by omega]; rfl) | (rw [show 64 - j33 = (64 - (j33 + 1)) + 1 by omega, cmnL, if_neg (by assumption)]), rfl⟩ dX4_common_70
          · refine k_lload C 2 dX4_common_47 rfl ?_
            refine k_lload C 3 dX4_common_49 rfl ?_
            refine k_lrem C dX4_common_51 (by intro h0; rw [h0] at h_2; exact absurd h_2 (by decide)) ?_
            refine k_lstore C (lv' := [(9, .long (x9 - x9 / y9 * y9)), (0, .long a), (2, .long b), (4, .long x9), (6, .long y9), (8, .int (nI j33))]) dX4_common_52 (by decide) rfl ?_
            refine k_lload C 4 dX4_common_54 rfl ?_
            refine k_lstore C (lv' := [(4, .long y9), (9, .long (x9 - x9 / y9 * y9)), (0, .long a), (2, .long b), (6, .long y9), (8, .int (nI j33))]) dX4_common_56 (by decide) rfl ?_
            refine k_lload C 1 dX4_common_58 rfl ?_
            refine k_lstore C (lv' := [(6, .long (x9 - x9 / y9 * y9)), (4, .long y9), (9, .long (x9 - x9 / y9 * y9)), (0, .long a), (2, .long b), (8, .int (nI j33))]) dX4_common_60 (by decide) rfl ?_
            refine k_iinc C (v := (nI (j33 + 1))) (lv' := [(8, .int (nI (j33 + 1))), (6, .long (x9 - x9 / y9 * y9)), (4, .long y9), (9, .long (x9 - x9 / y9 * y9)), (0, .long a), (2, .long b)]) 5 dX4_common_62 rfl (nI_1 _) (by decide) rfl ?_
            refine k_goto C 33 dX4_common_65 (by decide) ?_
            exact k_lv [4, 5, 2, 1, 0] rfl (ih33 (j33 + 1) y9 (x9 - x9 / y9 * y9) (by omega) (by omega) (by rw [← g33_0, show 64 - j33 = (64 - (j33 + 1)) + 1 by omega, cmnL, if_pos (by assumption)]))
    refine k_lload_n C 2 dX4_common_15 rfl rfl ?_
    refine k_lconst C (v := 0) dX4_common_16 (by decide) ?_
    refine k_lc_ge C 27 dX4_common_17 dX4_common_18 (by decide) (fun h_3 => ?_) (fun h_3 => ?_)
    · refine k_lload_n C 2 dX4_common_27 rfl rfl ?_
      refine k_topl (absL b) (by simp [absL, h_3]) ?_
      exact k_lv [0, 1, 2] rfl (J28)
    · refine k_lconst C (v := 0) dX4_common_21 (by decide) ?_
      refine k_lload_n C 2 dX4_common_22 rfl rfl ?_
      refine k_lsub C dX4_common_23 ?_
      refine k_goto C 28 dX4_common_24 (by decide) ?_
      refine k_topl (absL b) (by simp [absL, h_3]) ?_
      exact k_lv [0, 1, 2] rfl (J28)
  refine k_lload_n C 0 dX4_common_0 rfl rfl ?_
  refine k_lconst C (v := 0) dX4_common_1 (by decide) ?_
  refine k_lc_ge C 12 dX4_common_2 dX4_common_3 (by decide) (fun h_4 => ?_) (fun h_4 => ?_)
  · refine k_lload_n C 0 dX4_common_12 rfl rfl ?_
    refine k_topl (absL a) (by simp [absL, h_4]) ?_
    exact k_lv [0, 1] rfl (J13)
  · refine k_lconst C (v := 0) dX4_common_6 (by decide) ?_
    refine k_lload_n C 0 dX4_common_7 rfl rfl ?_
    refine k_lsub C dX4_common_8 ?_
    refine k_goto C 13 dX4_common_9 (by decide) ?_
    refine k_topl (absL a) (by simp [absL, h_4]) ?_
    exact k_lv [0, 1] rfl (J13)
set_option maxHeartbeats 4000000 in
set_option maxRecDepth 100000 in
theorem c4_knownFace (l : Launch) (D : va_G) (cI cJ cF cD : ClassId) {ad : Nat → Nat} {thr pts blt bds hld egs : Int32} {tx ty tz : Int64} {xs ys zs szs crn odr nds lfs rts far : Nat → Int32} {hx hy hz : Nat → Int64} {F : FT} (o : Int64) (hF : F.1 ≤ 64) : CtI l D (tyG cI cJ cF cD) yX4_knownFace wsX4_knownFace ({ frames := 0, cells := 0, slots := 0, locals := 0 }) [.ref (ad 0), .long o] (wM ad cI cJ thr pts blt bds hld (nI F.1) egs tx ty tz xs ys zs szs crn odr nds lfs rts far hx hy hz F.2.1 F.2.2.1 F.2.2.2.1 F.2.2.2.2) (fun r w => r = (b2i (knB F tx ty tz o)) ∧ w = (wM ad cI cJ thr pts blt bds hld (nI F.1) egs tx ty tz xs ys zs szs crn odr nds lfs rts far hx hy hz F.2.1 F.2.2.1 F.2.2.2.1 F.2.2.2.2)) := by
  refine ctZ_of (cc := cX4_knownFace) (maxL := 5) (by decide) rfl (Nat.le_of_ble_eq_true rfl) (fun r w h => h.1 ▸ b2i_01 _) ?_
  intro X hXl hXd C hret
  have lk0 : Cond.fieldLink RX4 91 "HullBuilderModel" "faces" "I" ∈ wsX4_knownFace := by decide +kernel
  have hinX4 : ∀ w ∈ wsX40, w ∈ wsX4_knownFace := by decide +kernel
  have lk2 : Cond.fieldLink RX4 29 "HullBuilderModel" "nx" "[J" ∈ wsX4_knownFace := by decide +kernel
  have lk3 : Cond.fieldLink RX4 81 "HullBuilderModel" "tx" "J" ∈ wsX4_knownFace := by decide +kernel
  have lk4 : Cond.fieldLink RX4 32 "HullBuilderModel" "ny" "[J" ∈ wsX4_knownFace := by decide +kernel
  have lk5 : Cond.fieldLink RX4 85 "HullBuilderModel" "ty" "J" ∈ wsX4_knownFace := by decide +kernel
  have lk6 : Cond.fieldLink RX4 35 "HullBuilderModel" "nz" "[J" ∈ wsX4_knownFace := by decide +kernel
  have lk7 : Cond.fieldLink RX4 88 "HullBuilderModel" "tz" "J" ∈ wsX4_knownFace := by decide +kernel
  have lk8 : Cond.fieldLink RX4 38 "HullBuilderModel" "offsets" "[J" ∈ wsX4_knownFace := by decide +kernel
  show Kw X 0 0 (wM ad cI cJ thr pts blt bds hld (nI F.1) egs tx ty tz xs ys zs szs crn odr nds lfs rts far hx hy hz F.2.1 F.2.2.1 F.2.2.2.1 F.2.2.2.2) 0 [(0, .ref (ad 0)), (1, .long o)] []
  refine k_iconst C (v := (nI 0)) dX4_knownFace_0 (by decide) ?_
  refine k_istore_n C (lv' := [(3, .int (nI 0)), (0, .ref (ad 0)), (1, .long o)]) dX4_knownFace_1 rfl (by decide) rfl ?_
  refine k_iconst C (v := (nI 0)) dX4_knownFace_2 (by decide) ?_
  refine k_istore C (lv' := [(4, .int (nI 0)), (3, .int (nI 0)), (0, .ref (ad 0)), (1, .long o)]) dX4_knownFace_3 (by decide) rfl ?_
  suffices L5 : ∀ (n5 j5 : Nat), j5 ≤ F.1 → F.1 + 1 ≤ j5 + n5 → Kw X 0 0 (wM ad cI cJ thr pts blt bds hld (nI F.1) egs tx ty tz xs ys zs szs crn odr nds lfs rts far hx hy hz F.2.1 F.2.2.1 F.2.2.2.1 F.2.2.2.2) 5 [(0, .ref (ad 0)), (1, .long o), (3, .int (b2i (anyB j5 (fun f => (F.2.1 f == tx) && (F.2.2.1 f == ty) && (F.2.2.2.1 f == tz) && (F.2.2.2.2 f == o))))), (4, .int (nI j5))] [] by
    have e5_0 : (nI 0) = (b2i (anyB 0 (fun f => (F.2.1 f == tx) && (F.2.2.1 f == ty) && (F.2.2.2.1 f == tz) && (F.2.2.2.2 f == o)))) := rfl
    exact k_lv [2, 3, 1, 0] (by rw [← e5_0]; rfl) (L5 (F.1 + 1) 0 (by omega) (by omega))
  intro n5
  induction n5 with
  | zero => intro j5 a1 a2; exact absurd a2 (by omega)
  | succ n5 ih5 =>
    intro j5 b5 c5
    refine k_iload C 3 dX4_knownFace_5 rfl ?_
    refine k_aload_n C 0 dX4_knownFace_7 rfl rfl ?_
    refine k_get C hinX4 0 11 rfl rfl (by decide) lk0 rfl rfl dX4_knownFace_8 ?_
    refine k_icmp_geN C (by omega) (by omega) 87 dX4_knownFace_11 (by decide) (fun h_1 => ?_) (fun h_1 => ?_)
    · refine k_iload_n C 2 dX4_knownFace_87 rfl rfl ?_
      exact hret _ _ _ _ ⟨by rw [show j5 = F.1 by omega]; rfl, rfl⟩ dX4_knownFace_88
    · refine k_iload_n C 2 dX4_knownFace_14 rfl rfl ?_
      refine k_if_neB C 75 dX4_knownFace_15 (by decide) (fun h_2 => ?_) (fun h_2 => ?_)
      · refine k_iconst C (v := (nI 1)) dX4_knownFace_75 (by decide) ?_
        refine k_goto C 80 dX4_knownFace_76 (by decide) ?_
        refine k_istore_n C (lv' := [(3, .int (nI 1)), (0, .ref (ad 0)), (1, .long o), (4, .int (nI j5))]) dX4_knownFace_80 rfl (by decide) rfl ?_
        refine k_iinc C (v := (nI (j5 + 1))) (lv' := [(4, .int (nI (j5 + 1))), (3, .int (nI 1)), (0, .ref (ad 0)), (1, .long o)]) 3 dX4_knownFace_81 rfl (nI_1 _) (by decide) rfl ?_
        refine k_goto C 5 dX4_knownFace_84 (by decide) ?_
        have e27_0 : (nI 1) = (b2i (anyB (j5 + 1) (fun f => (F.2.1 f == tx) && (F.2.2.1 f == ty) && (F.2.2.2.1 f == tz) && (F.2.2.2.2 f == o)))) := by simp [anyB, b2i, nI0, nI1, h_1, h_2]
        exact k_lv [2, 3, 1, 0] (by rw [← e27_0]; rfl) (ih5 (j5 + 1) (by omega) (by omega))
      · refine k_aload_n C 0 dX4_knownFace_18 rfl rfl ?_
        refine k_get C hinX4 0 12 rfl rfl (by decide) lk2 rfl rfl dX4_knownFace_19 ?_
        refine k_iload C 3 dX4_knownFace_22 rfl ?_
        refine k_lald C (j := j5) 7 1 rfl rfl (by omega) (by decide) dX4_knownFace_24 ?_
        refine k_aload_n C 0 dX4_knownFace_25 rfl rfl ?_
        refine k_get C hinX4 0 23 rfl rfl (by decide) lk3 rfl rfl dX4_knownFace_26 ?_
        refine k_lc_ne C 79 dX4_knownFace_29 dX4_knownFace_30 (by decide) (fun h_3 => ?_) (fun h_3 => ?_)
        · refine k_iconst C (v := (nI 0)) dX4_knownFace_79 (by decide) ?_
          refine k_istore_n C (lv' := [(3, .int (nI 0)), (0, .ref (ad 0)), (1, .long o), (4, .int (nI j5))]) dX4_knownFace_80 rfl (by decide) rfl ?_
          refine k_iinc C (v := (nI (j5 + 1))) (lv' := [(4, .int (nI (j5 + 1))), (3, .int (nI 0)), (0, .ref (ad 0)), (1, .long o)]) 3 dX4_knownFace_81 rfl (nI_1 _) (by decide) rfl ?_
          refine k_goto C 5 dX4_knownFace_84 (by decide) ?_
          have e41_0 : (nI 0) = (b2i (anyB (j5 + 1) (fun f => (F.2.1 f == tx) && (F.2.2.1 f == ty) && (F.2.2.2.1 f == tz) && (F.2.2.2.2 f == o)))) := by simp [anyB, b2i, nI0, nI1, h_1, h_2, h_3]
          exact k_lv [2, 3, 1, 0] (by rw [← e41_0]; rfl) (ih5 (j5 + 1) (by omega) (by omega))
        · refine k_aload_n C 0 dX4_knownFace_33 rfl rfl ?_
          refine k_get C hinX4 0 13 rfl rfl (by decide) lk4 rfl rfl dX4_knownFace_34 ?_
          refine k_iload C 3 dX4_knownFace_37 rfl ?_
          refine k_lald C (j := j5) 8 1 rfl rfl (by omega) (by decide) dX4_knownFace_39 ?_
          refine k_aload_n C 0 dX4_knownFace_40 rfl rfl ?_
          refine k_get C hinX4 0 24 rfl rfl (by decide) lk5 rfl rfl dX4_knownFace_41 ?_
          refine k_lc_ne C 79 dX4_knownFace_44 dX4_knownFace_45 (by decide) (fun h_4 => ?_) (fun h_4 => ?_)
          · refine k_iconst C (v := (nI 0)) dX4_knownFace_79 (by decide) ?_
            refine k_istore_n C (lv' := [(3, .int (nI 0)), (0, .ref (ad 0)), (1, .long o), (4, .int (nI j5))]) dX4_knownFace_80 rfl (by decide) rfl ?_
            refine k_iinc C (v := (nI (j5 + 1))) (lv' := [(4, .int (nI (j5 + 1))), (3, .int (nI 0)), (0, .ref (ad 0)), (1, .long o)]) 3 dX4_knownFace_81 rfl (nI_1 _) (by decide) rfl ?_
            refine k_goto C 5 dX4_knownFace_84 (by decide) ?_
            have e55_0 : (nI 0) = (b2i (anyB (j5 + 1) (fun f => (F.2.1 f == tx) && (F.2.2.1 f == ty) && (F.2.2.2.1 f == tz) && (F.2.2.2.2 f == o)))) := by simp [anyB, b2i, nI0, nI1, h_1, h_2, h_3, h_4]
            exact k_lv [2, 3, 1, 0] (by rw [← e55_0]; rfl) (ih5 (j5 + 1) (by omega) (by omega))
          · refine k_aload_n C 0 dX4_knownFace_48 rfl rfl ?_
            refine k_get C hinX4 0 14 rfl rfl (by decide) lk6 rfl rfl dX4_knownFace_49 ?_
            refine k_iload C 3 dX4_knownFace_52 rfl ?_
            refine k_lald C (j := j5) 9 1 rfl rfl (by omega) (by decide) dX4_knownFace_54 ?_
            refine k_aload_n C 0 dX4_knownFace_55 rfl rfl ?_
            refine k_get C hinX4 0 25 rfl rfl (by decide) lk7 rfl rfl dX4_knownFace_56 ?_
            refine k_lc_ne C 79 dX4_knownFace_59 dX4_knownFace_60 (by decide) (fun h_5 => ?_) (fun h_5 => ?_)
            · refine k_iconst C (v := (nI 0)) dX4_knownFace_79 (by decide) ?_
              refine k_istore_n C (lv' := [(3, .int (nI 0)), (0, .ref (ad 0)), (1, .long o), (4, .int (nI j5))]) dX4_knownFace_80 rfl (by decide) rfl ?_
              refine k_iinc C (v := (nI (j5 + 1))) (lv' := [(4, .int (nI (j5 + 1))), (3, .int (nI 0)), (0, .ref (ad 0)), (1, .long o)]) 3 dX4_knownFace_81 rfl (nI_1 _) (by decide) rfl ?_
              refine k_goto C 5 dX4_knownFace_84 (by decide) ?_
              have e69_0 : (nI 0) = (b2i (anyB (j5 + 1) (fun f => (F.2.1 f == tx) && (F.2.2.1 f == ty) && (F.2.2.2.1 f == tz) && (F.2.2.2.2 f == o)))) := by simp [anyB, b2i, nI0, nI1, h_1, h_2, h_3, h_4, h_5]
              exact k_lv [2, 3, 1, 0] (by rw [← e69_0]; rfl) (ih5 (j5 + 1) (by omega) (by omega))
            · refine k_aload_n C 0 dX4_knownFace_63 rfl rfl ?_
              refine k_get C hinX4 0 15 rfl rfl (by decide) lk8 rfl rfl dX4_knownFace_64 ?_
              refine k_iload C 3 dX4_knownFace_67 rfl ?_
              refine k_lald C (j := j5) 10 1 rfl rfl (by omega) (by decide) dX4_knownFace_69 ?_
              refine k_lload_n C 1 dX4_knownFace_70 rfl rfl ?_
              refine k_lc_ne C 79 dX4_knownFace_71 dX4_knownFace_72 (by decide) (fun h_6 => ?_) (fun h_6 => ?_)
              · refine k_iconst C (v := (nI 0)) dX4_knownFace_79 (by decide) ?_
                refine k_istore_n C (lv' := [(3, .int (nI 0)), (0, .ref (ad 0)), (1, .long o), (4, .int (nI j5))]) dX4_knownFace_80 rfl (by decide) rfl ?_
                refine k_iinc C (v := (nI (j5 + 1))) (lv' := [(4, .int (nI (j5 + 1))), (3, .int (nI 0)), (0, .ref (ad 0)), (1, .long o)]) 3 dX4_knownFace_81 rfl (nI_1 _) (by decide) rfl ?_
                refine k_goto C 5 dX4_knownFace_84 (by decide) ?_
                have e82_0 : (nI 0) = (b2i (anyB (j5 + 1) (fun f => (F.2.1 f == tx) && (F.2.2.1 f == ty) && (F.2.2.2.1 f == tz) && (F.2.2.2.2 f == o)))) := by simp [anyB, b2i, nI0, nI1, h_1, h_2, h_3, h_4, h_5, h_6]
                exact k_lv [2, 3, 1, 0] (by rw [← e82_0]; rfl) (ih5 (j5 + 1) (by omega) (by omega))
              · refine k_iconst C (v := (nI 1)) dX4_knownFace_75 (by decide) ?_
                refine k_goto C 80 dX4_knownFace_76 (by decide) ?_
                refine k_istore_n C (lv' := [(3, .int (nI 1)), (0, .ref (ad 0)), (1, .long o), (4, .int (nI j5))]) dX4_knownFace_80 rfl (by decide) rfl ?_
                refine k_iinc C (v := (nI (j5 + 1))) (lv' := [(4, .int (nI (j5 + 1))), (3, .int (nI 1)), (0, .ref (ad 0)), (1, .long o)]) 3 dX4_knownFace_81 rfl (nI_1 _) (by decide) rfl ?_
                refine k_goto C 5 dX4_knownFace_84 (by decide) ?_
                have e89_0 : (nI 1) = (b2i (anyB (j5 + 1) (fun f => (F.2.1 f == tx) && (F.2.2.1 f == ty) && (F.2.2.2.1 f == tz) && (F.2.2.2.2 f == o)))) := by simp [anyB, b2i, nI0, nI1, h_1, h_2, h_3, h_4, h_5, h_6]
                exact k_lv [2, 3, 1, 0] (by rw [← e89_0]; rfl) (ih5 (j5 + 1) (by omega) (by omega))
set_option maxHeartbeats 4000000 in
set_option maxRecDepth 100000 in
theorem c4_addFace (l : Launch) (D : va_G) (cI cJ cF cD : ClassId) {ad : Nat → Nat} {thr pts blt bds hld egs : Int32} {tx ty tz : Int64} {xs ys zs szs crn odr nds lfs rts far : Nat → Int32} {hx hy hz : Nat → Int64} {F : FT} (o : Int64) (hF : F.1 < 64) : CtV l D (tyG cI cJ cF cD) yX4_addFace wsX4_addFace ({ frames := 1, cells := 0, slots := 0, locals := 24 }) [.ref (ad 0), .long o] (wM ad cI cJ thr pts blt bds hld (nI F.1) egs tx ty tz xs ys zs szs crn odr nds lfs rts far hx hy hz F.2.1 F.2.2.1 F.2.2.2.1 F.2.2.2.2) (fun w => w = (wM ad cI cJ thr pts blt bds hld (nI ((addF F tx ty tz o).1)) egs tx ty tz xs ys zs szs crn odr nds lfs rts far hx hy hz ((addF F tx ty tz o).2.1) ((addF F tx ty tz o).2.2.1) ((addF F tx ty tz o).2.2.2.1) ((addF F tx ty tz o).2.2.2.2))) := by
  refine ctV_of (cc := cX4_addFace) (maxL := 3) (by decide) rfl (Nat.le_of_ble_eq_true rfl) ?_
  intro X hXl hXd C hret
  have lk0 : Cond.fieldLink RX4 29 "HullBuilderModel" "nx" "[J" ∈ wsX4_addFace := by decide +kernel
  have hinX4 : ∀ w ∈ wsX40, w ∈ wsX4_addFace := by decide +kernel
  have lk2 : Cond.fieldLink RX4 91 "HullBuilderModel" "faces" "I" ∈ wsX4_addFace := by decide +kernel
  have lk3 : Cond.fieldLink RX4 81 "HullBuilderModel" "tx" "J" ∈ wsX4_addFace := by decide +kernel
  have lk4 : Cond.fieldLink RX4 32 "HullBuilderModel" "ny" "[J" ∈ wsX4_addFace := by decide +kernel
  have lk5 : Cond.fieldLink RX4 85 "HullBuilderModel" "ty" "J" ∈ wsX4_addFace := by decide +kernel
  have lk6 : Cond.fieldLink RX4 35 "HullBuilderModel" "nz" "[J" ∈ wsX4_addFace := by decide +kernel
  have lk7 : Cond.fieldLink RX4 88 "HullBuilderModel" "tz" "J" ∈ wsX4_addFace := by decide +kernel
  have lk8 : Cond.fieldLink RX4 38 "HullBuilderModel" "offsets" "[J" ∈ wsX4_addFace := by decide +kernel
  show Kw X 0 0 (wM ad cI cJ thr pts blt bds hld (nI F.1) egs tx ty tz xs ys zs szs crn odr nds lfs rts far hx hy hz F.2.1 F.2.2.1 F.2.2.2.1 F.2.2.2.2) 0 [(0, .ref (ad 0)), (1, .long o)] []
  refine k_aload_n C 0 dX4_addFace_0 rfl rfl ?_
  refine k_lload_n C 1 dX4_addFace_1 rfl rfl ?_
  refine k_callVI C (ar := 1) (As := [.long o]) (rest := []) (c4_knownFace (kxL X) (kxD X) cI cJ cF cD o (by omega)) gX4_addFace_X4_knownFace rfl rfl rfl (by decide +kernel) ⟨Nat.le_of_ble_eq_true rfl, Nat.le_of_ble_eq_true rfl⟩ 0 rfl rfl rfl rfl (Nat.le_of_ble_eq_true rfl) dX4_addFace_2 (Nat.zero_le _) (Nat.zero_le _) (fun r w hw => ?_)
  obtain ⟨rfl, rfl⟩ := hw
  refine k_if_neB C 67 dX4_addFace_5 (by decide) (fun h_1 => ?_) (fun h_1 => ?_)
  · exact hret _ _ _ (by rw [addF]; first | rw [if_pos h_1] | rw [if_neg (by rw [h_1]; decide)]) dX4_addFace_67
  · refine k_aload_n C 0 dX4_addFace_8 rfl rfl ?_
    refine k_get C hinX4 0 12 rfl rfl (by decide) lk0 rfl rfl dX4_addFace_9 ?_
    refine k_aload_n C 0 dX4_addFace_12 rfl rfl ?_
    refine k_get C hinX4 0 11 rfl rfl (by decide) lk2 rfl rfl dX4_addFace_13 ?_
    refine k_aload_n C 0 dX4_addFace_16 rfl rfl ?_
    refine k_get C hinX4 0 23 rfl rfl (by decide) lk3 rfl rfl dX4_addFace_17 ?_
    refine k_last C (ws' := (wM ad cI cJ thr pts blt bds hld (nI F.1) egs tx ty tz xs ys zs szs crn odr nds lfs rts far hx hy hz (vp_updL F.2.1 F.1 tx) F.2.2.1 F.2.2.2.1 F.2.2.2.2)) (j := F.1) 7 1 rfl rfl (by omega) (by decide) rfl dX4_addFace_20 ?_
    refine k_aload_n C 0 dX4_addFace_21 rfl rfl ?_
    refine k_get C hinX4 0 13 rfl rfl (by decide) lk4 rfl rfl dX4_addFace_22 ?_
    refine k_aload_n C 0 dX4_addFace_25 rfl rfl ?_
    refine k_get C hinX4 0 11 rfl rfl (by decide) lk2 rfl rfl dX4_addFace_26 ?_
    refine k_aload_n C 0 dX4_addFace_29 rfl rfl ?_
    refine k_get C hinX4 0 24 rfl rfl (by decide) lk5 rfl rfl dX4_addFace_30 ?_
    refine k_last C (ws' := (wM ad cI cJ thr pts blt bds hld (nI F.1) egs tx ty tz xs ys zs szs crn odr nds lfs rts far hx hy hz (vp_updL F.2.1 F.1 tx) (vp_updL F.2.2.1 F.1 ty) F.2.2.2.1 F.2.2.2.2)) (j := F.1) 8 1 rfl rfl (by omega) (by decide) rfl dX4_addFace_33 ?_
    refine k_aload_n C 0 dX4_addFace_34 rfl rfl ?_
    refine k_get C hinX4 0 14 rfl rfl (by decide) lk6 rfl rfl dX4_addFace_35 ?_
    refine k_aload_n C 0 dX4_addFace_38 rfl rfl ?_
    refine k_get C hinX4 0 11 rfl rfl (by decide) lk2 rfl rfl dX4_addFace_39 ?_
    refine k_aload_n C 0 dX4_addFace_42 rfl rfl ?_
    refine k_get C hinX4 0 25 rfl rfl (by decide) lk7 rfl rfl dX4_addFace_43 ?_
    refine k_last C (ws' := (wM ad cI cJ thr pts blt bds hld (nI F.1) egs tx ty tz xs ys zs szs crn odr nds lfs rts far hx hy hz (vp_updL F.2.1 F.1 tx) (vp_updL F.2.2.1 F.1 ty) (vp_updL F.2.2.2.1 F.1 tz) F.2.2.2.2)) (j := F.1) 9 1 rfl rfl (by omega) (by decide) rfl dX4_addFace_46 ?_
    refine k_aload_n C 0 dX4_addFace_47 rfl rfl ?_
    refine k_get C hinX4 0 15 rfl rfl (by decide) lk8 rfl rfl dX4_addFace_48 ?_
    refine k_aload_n C 0 dX4_addFace_51 rfl rfl ?_
    refine k_get C hinX4 0 11 rfl rfl (by decide) lk2 rfl rfl dX4_addFace_52 ?_
    refine k_lload_n C 1 dX4_addFace_55 rfl rfl ?_
    refine k_last C (ws' := (wM ad cI cJ thr pts blt bds hld (nI F.1) egs tx ty tz xs ys zs szs crn odr nds lfs rts far hx hy hz (vp_updL F.2.1 F.1 tx) (vp_updL F.2.2.1 F.1 ty) (vp_updL F.2.2.2.1 F.1 tz) (vp_updL F.2.2.2.2 F.1 o))) (j := F.1) 10 1 rfl rfl (by omega) (by decide) rfl dX4_addFace_56 ?_
    refine k_aload_n C 0 dX4_addFace_57 rfl rfl ?_
    refine k_dup C dX4_addFace_58 rfl ?_
    refine k_get C hinX4 0 11 rfl rfl (by decide) lk2 rfl rfl dX4_addFace_59 ?_
    refine k_iconst C (v := (nI 1)) dX4_addFace_62 (by decide) ?_
    refine k_iaddN C dX4_addFace_63 ?_
    refine k_put C (ws' := (wM ad cI cJ thr pts blt bds hld (nI (F.1 + 1)) egs tx ty tz xs ys zs szs crn odr nds lfs rts far hx hy hz (vp_updL F.2.1 F.1 tx) (vp_updL F.2.2.1 F.1 ty) (vp_updL F.2.2.2.1 F.1 tz) (vp_updL F.2.2.2.2 F.1 o))) hinX4 tyX4 tyX4_ok nmX4 0 11 rfl rfl (by decide) lk2 rfl rfl rfl rfl (Nat.le_of_ble_eq_true rfl) rfl dX4_addFace_64 ?_
    exact hret _ _ _ (by rw [addF]; first | rw [if_pos h_1] | rw [if_neg (by rw [h_1]; decide)]) dX4_addFace_67
set_option maxHeartbeats 4000000 in
set_option maxRecDepth 100000 in
theorem c4_tries (l : Launch) (D : va_G) (cI cJ cF cD : ClassId) {ad : Nat → Nat} {thr pts blt bds egs : Int32} {tx ty tz : Int64} {xs ys zs szs crn odr nds lfs rts far : Nat → Int32} {hx hy hz : Nat → Int64} {F : FT} {nh a b c : Nat} (hh : nh ≤ 24) (ha : a < nh) (hb : b < nh) (hc : c < nh) (hF : F.1 < 64) (hby : (acx hy hz a b c == 0 && acx hz hx a b c == 0 && acx hx hy a b c == 0) = false → gcd3 (acx hy hz a b c) (acx hz hx a b c) (acx hx hy a b c) ≠ 0) : CtI l D (tyG cI cJ cF cD) yX4_tries wsX4_tries ({ frames := 2, cells := 0, slots := 0, locals := 46 }) [.ref (ad 0), .int (nI a), .int (nI b), .int (nI c)] (wM ad cI cJ thr pts blt bds (nI nh) (nI F.1) egs tx ty tz xs ys zs szs crn odr nds lfs rts far hx hy hz F.2.1 F.2.2.1 F.2.2.2.1 F.2.2.2.2) (fun r w => (r = 0 ∨ r = 1) ∧ ∃ t1 t2 t3 : Int64, w = (wM ad cI cJ thr pts blt bds (nI nh) (nI ((triF F nh hx hy hz a b c).1)) egs t1 t2 t3 xs ys zs szs crn odr nds lfs rts far hx hy hz ((triF F nh hx hy hz a b c).2.1) ((triF F nh hx hy hz a b c).2.2.1) ((triF F nh hx hy hz a b c).2.2.2.1) ((triF F nh hx hy hz a b c).2.2.2.2))) := by
  refine ctZ_of (cc := cX4_tries) (maxL := 10) (by decide) rfl (Nat.le_of_ble_eq_true rfl) (fun r w h => h.1) ?_
  intro X hXl hXd C hret
  have lk0 : Cond.fieldLink RX4 98 "HullBuilderModel" "held" "I" ∈ wsX4_tries := by decide +kernel
  have hinX4 : ∀ w ∈ wsX40, w ∈ wsX4_tries := by decide +kernel
  have lk2 : Cond.constantLong RX4 105 (-1) ∈ wsX4_tries := by decide +kernel
  have lk3 : Cond.fieldLink RX4 81 "HullBuilderModel" "tx" "J" ∈ wsX4_tries := by decide +kernel
  have lk4 : Cond.fieldLink RX4 85 "HullBuilderModel" "ty" "J" ∈ wsX4_tries := by decide +kernel
  have lk5 : Cond.fieldLink RX4 88 "HullBuilderModel" "tz" "J" ∈ wsX4_tries := by decide +kernel
  have lk6 : Cond.fieldLink RX4 19 "HullBuilderModel" "hx" "[J" ∈ wsX4_tries := by decide +kernel
  have lk7 : Cond.fieldLink RX4 23 "HullBuilderModel" "hy" "[J" ∈ wsX4_tries := by decide +kernel
  have lk8 : Cond.fieldLink RX4 26 "HullBuilderModel" "hz" "[J" ∈ wsX4_tries := by decide +kernel
  show Kw X 0 0 (wM ad cI cJ thr pts blt bds (nI nh) (nI F.1) egs tx ty tz xs ys zs szs crn odr nds lfs rts far hx hy hz F.2.1 F.2.2.1 F.2.2.2.1 F.2.2.2.2) 0 [(0, .ref (ad 0)), (1, .int (nI a)), (2, .int (nI b)), (3, .int (nI c))] []
  refine k_aload_n C 0 dX4_tries_0 rfl rfl ?_
  refine k_iload_n C 1 dX4_tries_1 rfl rfl ?_
  refine k_iload_n C 2 dX4_tries_2 rfl rfl ?_
  refine k_iload_n C 3 dX4_tries_3 rfl rfl ?_
  refine k_callVV C (ar := 3) (As := [.int (nI a), .int (nI b), .int (nI c)]) (rest := []) (c4_across (kxL X) (kxD X) cI cJ cF cD (by omega) (by omega) (by omega)) gX4_tries_X4_across rfl rfl rfl (by decide +kernel) ⟨Nat.le_of_ble_eq_true rfl, Nat.le_of_ble_eq_true rfl⟩ 0 rfl rfl rfl rfl (Nat.le_of_ble_eq_true rfl) dX4_tries_4 (Nat.zero_le _) (Nat.zero_le _) (fun w hw => ?_)
  subst hw
  have J36 : (acx hy hz a b c == 0 && acx hz hx a b c == 0 && acx hx hy a b c == 0) = false → Kw X 0 0 (wM ad cI cJ thr pts blt bds (nI nh) (nI F.1) egs (acx hy hz a b c) (acx hz hx a b c) (acx hx hy a b c) xs ys zs szs crn odr nds lfs rts far hx hy hz F.2.1 F.2.2.1 F.2.2.2.1 F.2.2.2.2) 36 [(0, .ref (ad 0)), (1, .int (nI a)), (2, .int (nI b)), (3, .int (nI c))] [] := by
    intro hj
    refine k_iconst C (v := (nI 0)) dX4_tries_36 (by decide) ?_
    refine k_istore C (lv' := [(4, .int (nI 0)), (0, .ref (ad 0)), (1, .int (nI a)), (2, .int (nI b)), (3, .int (nI c))]) dX4_tries_37 (by decide) rfl ?_
    refine k_iconst C (v := (nI 0)) dX4_tries_39 (by decide) ?_
    refine k_istore C (lv' := [(5, .int (nI 0)), (4, .int (nI 0)), (0, .ref (ad 0)), (1, .int (nI a)), (2, .int (nI b)), (3, .int (nI c))]) dX4_tries_40 (by decide) rfl ?_
    refine k_iconst C (v := (nI 0)) dX4_tries_42 (by decide) ?_
    refine k_istore C (lv' := [(6, .int (nI 0)), (5, .int (nI 0)), (4, .int (nI 0)), (0, .ref (ad 0)), (1, .int (nI a)), (2, .int (nI b)), (3, .int (nI c))]) dX4_tries_43 (by decide) rfl ?_
    suffices L45 : ∀ (n45 j45 : Nat), j45 ≤ nh → nh + 1 ≤ j45 + n45 → Kw X 0 0 (wM ad cI cJ thr pts blt bds (nI nh) (nI F.1) egs (acx hy hz a b c) (acx hz hx a b c) (acx hx hy a b c) xs ys zs szs crn odr nds lfs rts far hx hy hz F.2.1 F.2.2.1 F.2.2.2.1 F.2.2.2.2) 45 [(0, .ref (ad 0)), (1, .int (nI a)), (2, .int (nI b)), (3, .int (nI c)), (4, .int (nI (ovr j45 hx hy hz a b c))), (5, .int (nI (und j45 hx hy hz a b c))), (6, .int (nI j45))] [] by
      have e15_0 : (nI 0) = (nI (ovr 0 hx hy hz a b c)) := rfl
      have e16_1 : (nI 0) = (nI (und 0 hx hy hz a b c)) := rfl
      exact k_lv [3, 4, 5, 6, 2, 1, 0] (by rw [← e15_0, ← e16_1]; rfl) (L45 (nh + 1) 0 (by omega) (by omega))
    intro n45
    induction n45 with
    | zero => intro j45 a1 a2; exact absurd a2 (by omega)
    | succ n45 ih45 =>
      intro j45 b45 c45
      refine k_iload C 6 dX4_tries_45 rfl ?_
      refine k_aload_n C 0 dX4_tries_47 rfl rfl ?_
      refine k_get C hinX4 0 7 rfl rfl (by decide) lk0 rfl rfl dX4_tries_48 ?_
      refine k_icmp_geN C (by omega) (by omega) 105 dX4_tries_51 (by decide) (fun h_1 => ?_) (fun h_1 => ?_)
      · have ej : nh = j45 := by omega
        subst ej
        have bo : ovr nh hx hy hz a b c ≤ nh := cntB_le
        have bu : und nh hx hy hz a b c ≤ nh := cntB_le
        have hg : gcd3 (acx hy hz a b c) (acx hz hx a b c) (acx hx hy a b c) ≠ 0 := hby hj
        refine k_lv (lv' := [(0, .ref (ad 0)), (1, .int (nI a)), (2, .int (nI b)), (3, .int (nI c)), (4, .int (nI (ovr nh hx hy hz a b c))), (5, .int (nI (und nh hx hy hz a b c))), (6, .int (nI nh))]) [0, 1, 2, 3, 4, 5, 6] rfl ?_
        refine k_iload C 4 dX4_tries_105 rfl ?_
        refine k_if_neN C (by omega) 117 dX4_tries_107 (by decide) (fun h_2 => ?_) (fun h_2 => ?_)
        · refine k_iload C 4 dX4_tries_117 rfl ?_
          refine k_if_eqN C (by omega) 127 dX4_tries_119 (by decide) (fun h_3 => absurd h_3 h_2) (fun h_3 => ?_)
          refine k_iload C 5 dX4_tries_122 rfl ?_
          refine k_if_neN C (by omega) 236 dX4_tries_124 (by decide) (fun h_4 => ?_) (fun h_4 => ?_)
          · refine k_iconst C (v := (nI 0)) dX4_tries_236 (by decide) ?_
            exact hret _ _ _ _ (⟨Or.inl rfl, _, _, _, by rw [triF, if_pos (by simp [triNo, hj, h_1, h_2, h_4])]⟩) dX4_tries_237
          · refine k_iload C 4 dX4_tries_127 rfl ?_
            refine k_if_neN C (by omega) 136 dX4_tries_129 (by decide) (fun h_5 => ?_) (fun h_5 => absurd h_5 h_2)
            refine k_ldc2 C (v := -1) dX4_tries_136 lk2 ?_
            refine k_lstore C (lv' := [(6, .long (-1)), (0, .ref (ad 0)), (1, .int (nI a)), (2, .int (nI b)), (3, .int (nI c)), (4, .int (nI (ovr nh hx hy hz a b c))), (5, .int (nI (und nh hx hy hz a b c)))]) dX4_tries_139 (by decide) rfl ?_
            refine k_lload C 0 dX4_tries_141 rfl ?_
            refine k_aload_n C 1 dX4_tries_143 rfl rfl ?_
            refine k_get C hinX4 0 23 rfl rfl (by decide) lk3 rfl rfl dX4_tries_144 ?_
            refine k_aload_n C 1 dX4_tries_147 rfl rfl ?_
            refine k_get C hinX4 0 24 rfl rfl (by decide) lk4 rfl rfl dX4_tries_148 ?_
            refine k_callSL C (ar := 2) (As := [.long (acx hy hz a b c), .long (acx hz hx a b c)]) (rest := [.long (-1)]) (c4_common (kxL X) (kxD X) cI cJ cF cD (acx hy hz a b c) (acx hz hx a b c)) gX4_tries_X4_common rfl rfl rfl (by decide +kernel) ⟨Nat.le_of_ble_eq_true rfl, Nat.le_of_ble_eq_true rfl⟩ rfl rfl (Nat.le_of_ble_eq_true rfl) dX4_tries_151 (Nat.zero_le _) (Nat.zero_le _) (fun r w hw => ?_)
            obtain ⟨rfl, rfl⟩ := hw
            refine k_aload_n C 1 dX4_tries_154 rfl rfl ?_
            refine k_get C hinX4 0 25 rfl rfl (by decide) lk5 rfl rfl dX4_tries_155 ?_
            refine k_callSL C (ar := 2) (As := [.long (cmnL 64 (absL (acx hy hz a b c)) (absL (acx hz hx a b c))), .long (acx hx hy a b c)]) (rest := [.long (-1)]) (c4_common (kxL X) (kxD X) cI cJ cF cD (cmnL 64 (absL (acx hy hz a b c)) (absL (acx hz hx a b c))) (acx hx hy a b c)) gX4_tries_X4_common rfl rfl rfl (by decide +kernel) ⟨Nat.le_of_ble_eq_true rfl, Nat.le_of_ble_eq_true rfl⟩ rfl rfl (Nat.le_of_ble_eq_true rfl) dX4_tries_158 (Nat.zero_le _) (Nat.zero_le _) (fun r w hw => ?_)
            obtain ⟨rfl, rfl⟩ := hw
            refine k_lmul C dX4_tries_161 ?_
            refine k_lstore C (lv' := [(8, .long ((-1) * (cmnL 64 (absL (cmnL 64 (absL (acx hy hz a b c)) (absL (acx hz hx a b c)))) (absL (acx hx hy a b c))))), (6, .long (-1)), (0, .ref (ad 0)), (1, .int (nI a)), (2, .int (nI b)), (3, .int (nI c)), (4, .int (nI (ovr nh hx hy hz a b c))), (5, .int (nI (und nh hx hy hz a b c)))]) dX4_tries_162 (by decide) rfl ?_
            refine k_aload_n C 2 dX4_tries_164 rfl rfl ?_
            refine k_aload_n C 2 dX4_tries_165 rfl rfl ?_
            refine k_get C hinX4 0 23 rfl rfl (by decide) lk3 rfl rfl dX4_tries_166 ?_
            refine k_lload C 0 dX4_tries_169 rfl ?_
            refine k_ldiv C dX4_tries_171 (by first | exact p1ne hg | exact m1ne hg) ?_
            refine k_put C (ws' := (wM ad cI cJ thr pts blt bds (nI nh) (nI F.1) egs ((acx hy hz a b c) / ((-1) * (cmnL 64 (absL (cmnL 64 (absL (acx hy hz a b c)) (absL (acx hz hx a b c)))) (absL (acx hx hy a b c))))) (acx hz hx a b c) (acx hx hy a b c) xs ys zs szs crn odr nds lfs rts far hx hy hz F.2.1 F.2.2.1 F.2.2.2.1 F.2.2.2.2)) hinX4 tyX4 tyX4_ok nmX4 0 23 rfl rfl (by decide) lk3 rfl rfl rfl rfl (Nat.le_of_ble_eq_true rfl) rfl dX4_tries_172 ?_
            refine k_aload_n C 2 dX4_tries_175 rfl rfl ?_
            refine k_aload_n C 2 dX4_tries_176 rfl rfl ?_
            refine k_get C hinX4 0 24 rfl rfl (by decide) lk4 rfl rfl dX4_tries_177 ?_
            refine k_lload C 0 dX4_tries_180 rfl ?_
            refine k_ldiv C dX4_tries_182 (by first | exact p1ne hg | exact m1ne hg) ?_
            refine k_put C (ws' := (wM ad cI cJ thr pts blt bds (nI nh) (nI F.1) egs ((acx hy hz a b c) / ((-1) * (cmnL 64 (absL (cmnL 64 (absL (acx hy hz a b c)) (absL (acx hz hx a b c)))) (absL (acx hx hy a b c))))) ((acx hz hx a b c) / ((-1) * (cmnL 64 (absL (cmnL 64 (absL (acx hy hz a b c)) (absL (acx hz hx a b c)))) (absL (acx hx hy a b c))))) (acx hx hy a b c) xs ys zs szs crn odr nds lfs rts far hx hy hz F.2.1 F.2.2.1 F.2.2.2.1 F.2.2.2.2)) hinX4 tyX4 tyX4_ok nmX4 0 24 rfl rfl (by decide) lk4 rfl rfl rfl rfl (Nat.le_of_ble_eq_true rfl) rfl dX4_tries_183 ?_
            refine k_aload_n C 2 dX4_tries_186 rfl rfl ?_
            refine k_aload_n C 2 dX4_tries_187 rfl rfl ?_
            refine k_get C hinX4 0 25 rfl rfl (by decide) lk5 rfl rfl dX4_tries_188 ?_
            refine k_lload C 0 dX4_tries_191 rfl ?_
            refine k_ldiv C dX4_tries_193 (by first | exact p1ne hg | exact m1ne hg) ?_
            refine k_put C (ws' := (wM ad cI cJ thr pts blt bds (nI nh) (nI F.1) egs ((acx hy hz a b c) / ((-1) * (cmnL 64 (absL (cmnL 64 (absL (acx hy hz a b c)) (absL (acx hz hx a b c)))) (absL (acx hx hy a b c))))) ((acx hz hx a b c) / ((-1) * (cmnL 64 (absL (cmnL 64 (absL (acx hy hz a b c)) (absL (acx hz hx a b c)))) (absL (acx hx hy a b c))))) ((acx hx hy a b c) / ((-1) * (cmnL 64 (absL (cmnL 64 (absL (acx hy hz a b c)) (absL (acx hz hx a b c)))) (absL (acx hx hy a b c))))) xs ys zs szs crn odr nds lfs rts far hx hy hz F.2.1 F.2.2.1 F.2.2.2.1 F.2.2.2.2)) hinX4 tyX4 tyX4_ok nmX4 0 25 rfl rfl (by decide) lk5 rfl rfl rfl rfl (Nat.le_of_ble_eq_true rfl) rfl dX4_tries_194 ?_
            refine k_aload_n C 2 dX4_tries_197 rfl rfl ?_
            refine k_aload_n C 2 dX4_tries_198 rfl rfl ?_
            refine k_get C hinX4 0 23 rfl rfl (by decide) lk3 rfl rfl dX4_tries_199 ?_
            refine k_aload_n C 2 dX4_tries_202 rfl rfl ?_
            refine k_get C hinX4 0 8 rfl rfl (by decide) lk6 rfl rfl dX4_tries_203 ?_
            refine k_iload_n C 3 dX4_tries_206 rfl rfl ?_
            refine k_lald C (j := a) 4 1 rfl rfl (by omega) (by decide) dX4_tries_207 ?_
            refine k_lmul C dX4_tries_208 ?_
            refine k_aload_n C 2 dX4_tries_209 rfl rfl ?_
            refine k_get C hinX4 0 24 rfl rfl (by decide) lk4 rfl rfl dX4_tries_210 ?_
            refine k_aload_n C 2 dX4_tries_213 rfl rfl ?_
            refine k_get C hinX4 0 9 rfl rfl (by decide) lk7 rfl rfl dX4_tries_214 ?_
            refine k_iload_n C 3 dX4_tries_217 rfl rfl ?_
            refine k_lald C (j := a) 5 1 rfl rfl (by omega) (by decide) dX4_tries_218 ?_
            refine k_lmul C dX4_tries_219 ?_
            refine k_ladd C dX4_tries_220 ?_
            refine k_aload_n C 2 dX4_tries_221 rfl rfl ?_
            refine k_get C hinX4 0 25 rfl rfl (by decide) lk5 rfl rfl dX4_tries_222 ?_
            refine k_aload_n C 2 dX4_tries_225 rfl rfl ?_
            refine k_get C hinX4 0 10 rfl rfl (by decide) lk8 rfl rfl dX4_tries_226 ?_
            refine k_iload_n C 3 dX4_tries_229 rfl rfl ?_
            refine k_lald C (j := a) 6 1 rfl rfl (by omega) (by decide) dX4_tries_230 ?_
            refine k_lmul C dX4_tries_231 ?_
            refine k_ladd C dX4_tries_232 ?_
            refine k_callVV C (ar := 1) (As := [.long (((((acx hy hz a b c) / ((-1) * (cmnL 64 (absL (cmnL 64 (absL (acx hy hz a b c)) (absL (acx hz hx a b c)))) (absL (acx hx hy a b c))))) * (hx a)) + (((acx hz hx a b c) / ((-1) * (cmnL 64 (absL (cmnL 64 (absL (acx hy hz a b c)) (absL (acx hz hx a b c)))) (absL (acx hx hy a b c))))) * (hy a))) + (((acx hx hy a b c) / ((-1) * (cmnL 64 (absL (cmnL 64 (absL (acx hy hz a b c)) (absL (acx hz hx a b c)))) (absL (acx hx hy a b c))))) * (hz a)))]) (rest := []) (c4_addFace (kxL X) (kxD X) cI cJ cF cD (((((acx hy hz a b c) / ((-1) * (cmnL 64 (absL (cmnL 64 (absL (acx hy hz a b c)) (absL (acx hz hx a b c)))) (absL (acx hx hy a b c))))) * (hx a)) + (((acx hz hx a b c) / ((-1) * (cmnL 64 (absL (cmnL 64 (absL (acx hy hz a b c)) (absL (acx hz hx a b c)))) (absL (acx hx hy a b c))))) * (hy a))) + (((acx hx hy a b c) / ((-1) * (cmnL 64 (absL (cmnL 64 (absL (acx hy hz a b c)) (absL (acx hz hx a b c)))) (absL (acx hx hy a b c))))) * (hz a))) (by omega)) gX4_tries_X4_addFace rfl rfl rfl (by decide +kernel) ⟨Nat.le_of_ble_eq_true rfl, Nat.le_of_ble_eq_true rfl⟩ 0 rfl rfl rfl rfl (Nat.le_of_ble_eq_true rfl) dX4_tries_233 (Nat.zero_le _) (Nat.zero_le _) (fun w hw => ?_)
            subst hw
            refine k_iconst C (v := (nI 0)) dX4_tries_236 (by decide) ?_
            exact hret _ _ _ _ (⟨Or.inl rfl, _, _, _, by rw [triF, if_neg (by simp [triNo, hj, h_1, h_2, h_4]), triA, triBy]; first | (rw [if_pos (by assumption)]; rfl) | (rw [if_neg (by assumption)]; rfl)⟩) dX4_tries_237
        · refine k_iload C 5 dX4_tries_110 rfl ?_
          refine k_if_neN C (by omega) 117 dX4_tries_112 (by decide) (fun h_6 => ?_) (fun h_6 => ?_)
          · refine k_iload C 4 dX4_tries_117 rfl ?_
            refine k_if_eqN C (by omega) 127 dX4_tries_119 (by decide) (fun h_7 => ?_) (fun h_7 => absurd h_2 h_7)
            refine k_iload C 4 dX4_tries_127 rfl ?_
            refine k_if_neN C (by omega) 136 dX4_tries_129 (by decide) (fun h_8 => absurd h_2 h_8) (fun h_8 => ?_)
            refine k_lconst C (v := 1) dX4_tries_132 (by decide) ?_
            refine k_goto C 139 dX4_tries_133 (by decide) ?_
            refine k_lstore C (lv' := [(6, .long 1), (0, .ref (ad 0)), (1, .int (nI a)), (2, .int (nI b)), (3, .int (nI c)), (4, .int (nI (ovr nh hx hy hz a b c))), (5, .int (nI (und nh hx hy hz a b c)))]) dX4_tries_139 (by decide) rfl ?_
            refine k_lload C 0 dX4_tries_141 rfl ?_
            refine k_aload_n C 1 dX4_tries_143 rfl rfl ?_
            refine k_get C hinX4 0 23 rfl rfl (by decide) lk3 rfl rfl dX4_tries_144 ?_
            refine k_aload_n C 1 dX4_tries_147 rfl rfl ?_
            refine k_get C hinX4 0 24 rfl rfl (by decide) lk4 rfl rfl dX4_tries_148 ?_
            refine k_callSL C (ar := 2) (As := [.long (acx hy hz a b c), .long (acx hz hx a b c)]) (rest := [.long 1]) (c4_common (kxL X) (kxD X) cI cJ cF cD (acx hy hz a b c) (acx hz hx a b c)) gX4_tries_X4_common rfl rfl rfl (by decide +kernel) ⟨Nat.le_of_ble_eq_true rfl, Nat.le_of_ble_eq_true rfl⟩ rfl rfl (Nat.le_of_ble_eq_true rfl) dX4_tries_151 (Nat.zero_le _) (Nat.zero_le _) (fun r w hw => ?_)
            obtain ⟨rfl, rfl⟩ := hw
            refine k_aload_n C 1 dX4_tries_154 rfl rfl ?_
            refine k_get C hinX4 0 25 rfl rfl (by decide) lk5 rfl rfl dX4_tries_155 ?_
            refine k_callSL C (ar := 2) (As := [.long (cmnL 64 (absL (acx hy hz a b c)) (absL (acx hz hx a b c))), .long (acx hx hy a b c)]) (rest := [.long 1]) (c4_common (kxL X) (kxD X) cI cJ cF cD (cmnL 64 (absL (acx hy hz a b c)) (absL (acx hz hx a b c))) (acx hx hy a b c)) gX4_tries_X4_common rfl rfl rfl (by decide +kernel) ⟨Nat.le_of_ble_eq_true rfl, Nat.le_of_ble_eq_true rfl⟩ rfl rfl (Nat.le_of_ble_eq_true rfl) dX4_tries_158 (Nat.zero_le _) (Nat.zero_le _) (fun r w hw => ?_)
            obtain ⟨rfl, rfl⟩ := hw
            refine k_lmul C dX4_tries_161 ?_
            refine k_lstore C (lv' := [(8, .long (1 * (cmnL 64 (absL (cmnL 64 (absL (acx hy hz a b c)) (absL (acx hz hx a b c)))) (absL (acx hx hy a b c))))), (6, .long 1), (0, .ref (ad 0)), (1, .int (nI a)), (2, .int (nI b)), (3, .int (nI c)), (4, .int (nI (ovr nh hx hy hz a b c))), (5, .int (nI (und nh hx hy hz a b c)))]) dX4_tries_162 (by decide) rfl ?_
            refine k_aload_n C 2 dX4_tries_164 rfl rfl ?_
            refine k_aload_n C 2 dX4_tries_165 rfl rfl ?_
            refine k_get C hinX4 0 23 rfl rfl (by decide) lk3 rfl rfl dX4_tries_166 ?_
            refine k_lload C 0 dX4_tries_169 rfl ?_
            refine k_ldiv C dX4_tries_171 (by first | exact p1ne hg | exact m1ne hg) ?_
            refine k_put C (ws' := (wM ad cI cJ thr pts blt bds (nI nh) (nI F.1) egs ((acx hy hz a b c) / (1 * (cmnL 64 (absL (cmnL 64 (absL (acx hy hz a b c)) (absL (acx hz hx a b c)))) (absL (acx hx hy a b c))))) (acx hz hx a b c) (acx hx hy a b c) xs ys zs szs crn odr nds lfs rts far hx hy hz F.2.1 F.2.2.1 F.2.2.2.1 F.2.2.2.2)) hinX4 tyX4 tyX4_ok nmX4 0 23 rfl rfl (by decide) lk3 rfl rfl rfl rfl (Nat.le_of_ble_eq_true rfl) rfl dX4_tries_172 ?_
            refine k_aload_n C 2 dX4_tries_175 rfl rfl ?_
            refine k_aload_n C 2 dX4_tries_176 rfl rfl ?_
            refine k_get C hinX4 0 24 rfl rfl (by decide) lk4 rfl rfl dX4_tries_177 ?_
            refine k_lload C 0 dX4_tries_180 rfl ?_
            refine k_ldiv C dX4_tries_182 (by first | exact p1ne hg | exact m1ne hg) ?_
            refine k_put C (ws' := (wM ad cI cJ thr pts blt bds (nI nh) (nI F.1) egs ((acx hy hz a b c) / (1 * (cmnL 64 (absL (cmnL 64 (absL (acx hy hz a b c)) (absL (acx hz hx a b c)))) (absL (acx hx hy a b c))))) ((acx hz hx a b c) / (1 * (cmnL 64 (absL (cmnL 64 (absL (acx hy hz a b c)) (absL (acx hz hx a b c)))) (absL (acx hx hy a b c))))) (acx hx hy a b c) xs ys zs szs crn odr nds lfs rts far hx hy hz F.2.1 F.2.2.1 F.2.2.2.1 F.2.2.2.2)) hinX4 tyX4 tyX4_ok nmX4 0 24 rfl rfl (by decide) lk4 rfl rfl rfl rfl (Nat.le_of_ble_eq_true rfl) rfl dX4_tries_183 ?_
            refine k_aload_n C 2 dX4_tries_186 rfl rfl ?_
            refine k_aload_n C 2 dX4_tries_187 rfl rfl ?_
            refine k_get C hinX4 0 25 rfl rfl (by decide) lk5 rfl rfl dX4_tries_188 ?_
            refine k_lload C 0 dX4_tries_191 rfl ?_
            refine k_ldiv C dX4_tries_193 (by first | exact p1ne hg | exact m1ne hg) ?_
            refine k_put C (ws' := (wM ad cI cJ thr pts blt bds (nI nh) (nI F.1) egs ((acx hy hz a b c) / (1 * (cmnL 64 (absL (cmnL 64 (absL (acx hy hz a b c)) (absL (acx hz hx a b c)))) (absL (acx hx hy a b c))))) ((acx hz hx a b c) / (1 * (cmnL 64 (absL (cmnL 64 (absL (acx hy hz a b c)) (absL (acx hz hx a b c)))) (absL (acx hx hy a b c))))) ((acx hx hy a b c) / (1 * (cmnL 64 (absL (cmnL 64 (absL (acx hy hz a b c)) (absL (acx hz hx a b c)))) (absL (acx hx hy a b c))))) xs ys zs szs crn odr nds lfs rts far hx hy hz F.2.1 F.2.2.1 F.2.2.2.1 F.2.2.2.2)) hinX4 tyX4 tyX4_ok nmX4 0 25 rfl rfl (by decide) lk5 rfl rfl rfl rfl (Nat.le_of_ble_eq_true rfl) rfl dX4_tries_194 ?_
            refine k_aload_n C 2 dX4_tries_197 rfl rfl ?_
            refine k_aload_n C 2 dX4_tries_198 rfl rfl ?_
            refine k_get C hinX4 0 23 rfl rfl (by decide) lk3 rfl rfl dX4_tries_199 ?_
            refine k_aload_n C 2 dX4_tries_202 rfl rfl ?_
            refine k_get C hinX4 0 8 rfl rfl (by decide) lk6 rfl rfl dX4_tries_203 ?_
            refine k_iload_n C 3 dX4_tries_206 rfl rfl ?_
            refine k_lald C (j := a) 4 1 rfl rfl (by omega) (by decide) dX4_tries_207 ?_
            refine k_lmul C dX4_tries_208 ?_
            refine k_aload_n C 2 dX4_tries_209 rfl rfl ?_
            refine k_get C hinX4 0 24 rfl rfl (by decide) lk4 rfl rfl dX4_tries_210 ?_
            refine k_aload_n C 2 dX4_tries_213 rfl rfl ?_
            refine k_get C hinX4 0 9 rfl rfl (by decide) lk7 rfl rfl dX4_tries_214 ?_
            refine k_iload_n C 3 dX4_tries_217 rfl rfl ?_
            refine k_lald C (j := a) 5 1 rfl rfl (by omega) (by decide) dX4_tries_218 ?_
            refine k_lmul C dX4_tries_219 ?_
            refine k_ladd C dX4_tries_220 ?_
            refine k_aload_n C 2 dX4_tries_221 rfl rfl ?_
            refine k_get C hinX4 0 25 rfl rfl (by decide) lk5 rfl rfl dX4_tries_222 ?_
            refine k_aload_n C 2 dX4_tries_225 rfl rfl ?_
            refine k_get C hinX4 0 10 rfl rfl (by decide) lk8 rfl rfl dX4_tries_226 ?_
            refine k_iload_n C 3 dX4_tries_229 rfl rfl ?_
            refine k_lald C (j := a) 6 1 rfl rfl (by omega) (by decide) dX4_tries_230 ?_
            refine k_lmul C dX4_tries_231 ?_
            refine k_ladd C dX4_tries_232 ?_
            refine k_callVV C (ar := 1) (As := [.long (((((acx hy hz a b c) / (1 * (cmnL 64 (absL (cmnL 64 (absL (acx hy hz a b c)) (absL (acx hz hx a b c)))) (absL (acx hx hy a b c))))) * (hx a)) + (((acx hz hx a b c) / (1 * (cmnL 64 (absL (cmnL 64 (absL (acx hy hz a b c)) (absL (acx hz hx a b c)))) (absL (acx hx hy a b c))))) * (hy a))) + (((acx hx hy a b c) / (1 * (cmnL 64 (absL (cmnL 64 (absL (acx hy hz a b c)) (absL (acx hz hx a b c)))) (absL (acx hx hy a b c))))) * (hz a)))]) (rest := []) (c4_addFace (kxL X) (kxD X) cI cJ cF cD (((((acx hy hz a b c) / (1 * (cmnL 64 (absL (cmnL 64 (absL (acx hy hz a b c)) (absL (acx hz hx a b c)))) (absL (acx hx hy a b c))))) * (hx a)) + (((acx hz hx a b c) / (1 * (cmnL 64 (absL (cmnL 64 (absL (acx hy hz a b c)) (absL (acx hz hx a b c)))) (absL (acx hx hy a b c))))) * (hy a))) + (((acx hx hy a b c) / (1 * (cmnL 64 (absL (cmnL 64 (absL (acx hy hz a b c)) (absL (acx hz hx a b c)))) (absL (acx hx hy a b c))))) * (hz a))) (by omega)) gX4_tries_X4_addFace rfl rfl rfl (by decide +kernel) ⟨Nat.le_of_ble_eq_true rfl, Nat.le_of_ble_eq_true rfl⟩ 0 rfl rfl rfl rfl (Nat.le_of_ble_eq_true rfl) dX4_tries_233 (Nat.zero_le _) (Nat.zero_le _) (fun w hw => ?_)
            subst hw
            refine k_iconst C (v := (nI 0)) dX4_tries_236 (by decide) ?_
            exact hret _ _ _ _ (⟨Or.inl rfl, _, _, _, by rw [triF, if_neg (by simp [triNo, hj, h_1, h_2, h_6]), triA, triBy]; first | (rw [if_pos (by assumption)]; rfl) | (rw [if_neg (by assumption)]; rfl)⟩) dX4_tries_237
          · refine k_iconst C (v := (nI 1)) dX4_tries_115 (by decide) ?_
            exact hret _ _ _ _ (⟨Or.inr rfl, _, _, _, by rw [triF, if_pos (by simp [triNo, hj, h_1, h_2, h_6])]⟩) dX4_tries_116
      · refine k_aload_n C 0 dX4_tries_54 rfl rfl ?_
        refine k_iload_n C 1 dX4_tries_55 rfl rfl ?_
        refine k_iload C 6 dX4_tries_56 rfl ?_
        refine k_callVL C (ar := 2) (As := [.int (nI a), .int (nI j45)]) (rest := []) (c4_above (kxL X) (kxD X) cI cJ cF cD (by omega) (by omega)) gX4_tries_X4_above rfl rfl rfl (by decide +kernel) ⟨Nat.le_of_ble_eq_true rfl, Nat.le_of_ble_eq_true rfl⟩ 0 rfl rfl rfl rfl (Nat.le_of_ble_eq_true rfl) dX4_tries_58 (Nat.zero_le _) (Nat.zero_le _) (fun r w hw => ?_)
        obtain ⟨rfl, rfl⟩ := hw
        refine k_lstore C (lv' := [(7, .long (dot3 (acx hy hz a b c) (acx hz hx a b c) (acx hx hy a b c) (hx j45 - hx a) (hy j45 - hy a) (hz j45 - hz a))), (0, .ref (ad 0)), (1, .int (nI a)), (2, .int (nI b)), (3, .int (nI c)), (4, .int (nI (ovr j45 hx hy hz a b c))), (5, .int (nI (und j45 hx hy hz a b c))), (6, .int (nI j45))]) dX4_tries_61 (by decide) rfl ?_
        refine k_lload C 0 dX4_tries_63 rfl ?_
        refine k_lconst C (v := 0) dX4_tries_65 (by decide) ?_
        refine k_lc_le C 77 dX4_tries_66 dX4_tries_67 (by decide) (fun h_9 => ?_) (fun h_9 => ?_)
        · refine k_iload C 5 dX4_tries_77 rfl ?_
          refine k_istore C (lv' := [(4, .int (nI (ovr j45 hx hy hz a b c))), (7, .long (dot3 (acx hy hz a b c) (acx hz hx a b c) (acx hx hy a b c) (hx j45 - hx a) (hy j45 - hy a) (hz j45 - hz a))), (0, .ref (ad 0)), (1, .int (nI a)), (2, .int (nI b)), (3, .int (nI c)), (5, .int (nI (und j45 hx hy hz a b c))), (6, .int (nI j45))]) dX4_tries_79 (by decide) rfl ?_
          refine k_lload C 1 dX4_tries_81 rfl ?_
          refine k_lconst C (v := 0) dX4_tries_83 (by decide) ?_
          refine k_lc_ge C 95 dX4_tries_84 dX4_tries_85 (by decide) (fun h_10 => ?_) (fun h_10 => ?_)
          · refine k_iload C 6 dX4_tries_95 rfl ?_
            refine k_istore C (lv' := [(5, .int (nI (und j45 hx hy hz a b c))), (4, .int (nI (ovr j45 hx hy hz a b c))), (7, .long (dot3 (acx hy hz a b c) (acx hz hx a b c) (acx hx hy a b c) (hx j45 - hx a) (hy j45 - hy a) (hz j45 - hz a))), (0, .ref (ad 0)), (1, .int (nI a)), (2, .int (nI b)), (3, .int (nI c)), (6, .int (nI j45))]) dX4_tries_97 (by decide) rfl ?_
            refine k_iinc C (v := (nI (j45 + 1))) (lv' := [(6, .int (nI (j45 + 1))), (5, .int (nI (und j45 hx hy hz a b c))), (4, .int (nI (ovr j45 hx hy hz a b c))), (7, .long (dot3 (acx hy hz a b c) (acx hz hx a b c) (acx hx hy a b c) (hx j45 - hx a) (hy j45 - hy a) (hz j45 - hz a))), (0, .ref (ad 0)), (1, .int (nI a)), (2, .int (nI b)), (3, .int (nI c))]) 7 dX4_tries_99 rfl (nI_1 _) (by decide) rfl ?_
            refine k_goto C 45 dX4_tries_102 (by decide) ?_
            have e195_0 : (nI (ovr j45 hx hy hz a b c)) = (nI (ovr (j45 + 1) hx hy hz a b c)) := by rw [ovr_s, if_neg (by first | assumption | exact Int64.lt_asymm (by assumption))]; rfl
            have e196_1 : (nI (und j45 hx hy hz a b c)) = (nI (und (j45 + 1) hx hy hz a b c)) := by rw [und_s, if_neg (by first | assumption | exact Int64.lt_asymm (by assumption))]; rfl
            exact k_lv [4, 5, 6, 7, 2, 1, 0] (by rw [← e195_0, ← e196_1]; rfl) (ih45 (j45 + 1) (by omega) (by omega))
          · refine k_iload C 6 dX4_tries_88 rfl ?_
            refine k_iconst C (v := (nI 1)) dX4_tries_90 (by decide) ?_
            refine k_iaddN C dX4_tries_91 ?_
            refine k_goto C 97 dX4_tries_92 (by decide) ?_
            refine k_istore C (lv' := [(5, .int (nI ((und j45 hx hy hz a b c) + 1))), (4, .int (nI (ovr j45 hx hy hz a b c))), (7, .long (dot3 (acx hy hz a b c) (acx hz hx a b c) (acx hx hy a b c) (hx j45 - hx a) (hy j45 - hy a) (hz j45 - hz a))), (0, .ref (ad 0)), (1, .int (nI a)), (2, .int (nI b)), (3, .int (nI c)), (6, .int (nI j45))]) dX4_tries_97 (by decide) rfl ?_
            refine k_iinc C (v := (nI (j45 + 1))) (lv' := [(6, .int (nI (j45 + 1))), (5, .int (nI ((und j45 hx hy hz a b c) + 1))), (4, .int (nI (ovr j45 hx hy hz a b c))), (7, .long (dot3 (acx hy hz a b c) (acx hz hx a b c) (acx hx hy a b c) (hx j45 - hx a) (hy j45 - hy a) (hz j45 - hz a))), (0, .ref (ad 0)), (1, .int (nI a)), (2, .int (nI b)), (3, .int (nI c))]) 7 dX4_tries_99 rfl (nI_1 _) (by decide) rfl ?_
            refine k_goto C 45 dX4_tries_102 (by decide) ?_
            have e205_0 : (nI (ovr j45 hx hy hz a b c)) = (nI (ovr (j45 + 1) hx hy hz a b c)) := by rw [ovr_s, if_neg (by first | assumption | exact Int64.lt_asymm (by assumption))]; rfl
            have e206_1 : (nI ((und j45 hx hy hz a b c) + 1)) = (nI (und (j45 + 1) hx hy hz a b c)) := by rw [und_s, if_pos (by first | assumption | exact Int64.lt_asymm (by assumption))]
            exact k_lv [4, 5, 6, 7, 2, 1, 0] (by rw [← e205_0, ← e206_1]; rfl) (ih45 (j45 + 1) (by omega) (by omega))
        · refine k_iload C 5 dX4_tries_70 rfl ?_
          refine k_iconst C (v := (nI 1)) dX4_tries_72 (by decide) ?_
          refine k_iaddN C dX4_tries_73 ?_
          refine k_goto C 79 dX4_tries_74 (by decide) ?_
          refine k_istore C (lv' := [(4, .int (nI ((ovr j45 hx hy hz a b c) + 1))), (7, .long (dot3 (acx hy hz a b c) (acx hz hx a b c) (acx hx hy a b c) (hx j45 - hx a) (hy j45 - hy a) (hz j45 - hz a))), (0, .ref (ad 0)), (1, .int (nI a)), (2, .int (nI b)), (3, .int (nI c)), (5, .int (nI (und j45 hx hy hz a b c))), (6, .int (nI j45))]) dX4_tries_79 (by decide) rfl ?_
          refine k_lload C 1 dX4_tries_81 rfl ?_
          refine k_lconst C (v := 0) dX4_tries_83 (by decide) ?_
          refine k_lc_ge C 95 dX4_tries_84 dX4_tries_85 (by decide) (fun h_11 => ?_) (fun h_11 => ?_)
          · refine k_iload C 6 dX4_tries_95 rfl ?_
            refine k_istore C (lv' := [(5, .int (nI (und j45 hx hy hz a b c))), (4, .int (nI ((ovr j45 hx hy hz a b c) + 1))), (7, .long (dot3 (acx hy hz a b c) (acx hz hx a b c) (acx hx hy a b c) (hx j45 - hx a) (hy j45 - hy a) (hz j45 - hz a))), (0, .ref (ad 0)), (1, .int (nI a)), (2, .int (nI b)), (3, .int (nI c)), (6, .int (nI j45))]) dX4_tries_97 (by decide) rfl ?_
            refine k_iinc C (v := (nI (j45 + 1))) (lv' := [(6, .int (nI (j45 + 1))), (5, .int (nI (und j45 hx hy hz a b c))), (4, .int (nI ((ovr j45 hx hy hz a b c) + 1))), (7, .long (dot3 (acx hy hz a b c) (acx hz hx a b c) (acx hx hy a b c) (hx j45 - hx a) (hy j45 - hy a) (hz j45 - hz a))), (0, .ref (ad 0)), (1, .int (nI a)), (2, .int (nI b)), (3, .int (nI c))]) 7 dX4_tries_99 rfl (nI_1 _) (by decide) rfl ?_
            refine k_goto C 45 dX4_tries_102 (by decide) ?_
            have e220_0 : (nI ((ovr j45 hx hy hz a b c) + 1)) = (nI (ovr (j45 + 1) hx hy hz a b c)) := by rw [ovr_s, if_pos (by first | assumption | exact Int64.lt_asymm (by assumption))]
            have e221_1 : (nI (und j45 hx hy hz a b c)) = (nI (und (j45 + 1) hx hy hz a b c)) := by rw [und_s, if_neg (by first | assumption | exact Int64.lt_asymm (by assumption))]; rfl
            exact k_lv [4, 5, 6, 7, 2, 1, 0] (by rw [← e220_0, ← e221_1]; rfl) (ih45 (j45 + 1) (by omega) (by omega))
          · refine k_iload C 6 dX4_tries_88 rfl ?_
            refine k_iconst C (v := (nI 1)) dX4_tries_90 (by decide) ?_
            refine k_iaddN C dX4_tries_91 ?_
            refine k_goto C 97 dX4_tries_92 (by decide) ?_
            refine k_istore C (lv' := [(5, .int (nI ((und j45 hx hy hz a b c) + 1))), (4, .int (nI ((ovr j45 hx hy hz a b c) + 1))), (7, .long (dot3 (acx hy hz a b c) (acx hz hx a b c) (acx hx hy a b c) (hx j45 - hx a) (hy j45 - hy a) (hz j45 - hz a))), (0, .ref (ad 0)), (1, .int (nI a)), (2, .int (nI b)), (3, .int (nI c)), (6, .int (nI j45))]) dX4_tries_97 (by decide) rfl ?_
            refine k_iinc C (v := (nI (j45 + 1))) (lv' := [(6, .int (nI (j45 + 1))), (5, .int (nI ((und j45 hx hy hz a b c) + 1))), (4, .int (nI ((ovr j45 hx hy hz a b c) + 1))), (7, .long (dot3 (acx hy hz a b c) (acx hz hx a b c) (acx hx hy a b c) (hx j45 - hx a) (hy j45 - hy a) (hz j45 - hz a))), (0, .ref (ad 0)), (1, .int (nI a)), (2, .int (nI b)), (3, .int (nI c))]) 7 dX4_tries_99 rfl (nI_1 _) (by decide) rfl ?_
            refine k_goto C 45 dX4_tries_102 (by decide) ?_
            have e230_0 : (nI ((ovr j45 hx hy hz a b c) + 1)) = (nI (ovr (j45 + 1) hx hy hz a b c)) := by rw [ovr_s, if_pos (by first | assumption | exact Int64.lt_asymm (by assumption))]
            have e231_1 : (nI ((und j45 hx hy hz a b c) + 1)) = (nI (und (j45 + 1) hx hy hz a b c)) := by rw [und_s, if_pos (by first | assumption | exact Int64.lt_asymm (by assumption))]
            exact k_lv [4, 5, 6, 7, 2, 1, 0] (by rw [← e230_0, ← e231_1]; rfl) (ih45 (j45 + 1) (by omega) (by omega))
  refine k_aload_n C 0 dX4_tries_7 rfl rfl ?_
  refine k_get C hinX4 0 23 rfl rfl (by decide) lk3 rfl rfl dX4_tries_8 ?_
  refine k_lconst C (v := 0) dX4_tries_11 (by decide) ?_
  refine k_lc_ne C 36 dX4_tries_12 dX4_tries_13 (by decide) (fun h_12 => ?_) (fun h_12 => ?_)
  · exact k_lv [0, 1, 2, 3] rfl (J36 (by simp [*]))
  · refine k_aload_n C 0 dX4_tries_16 rfl rfl ?_
    refine k_get C hinX4 0 24 rfl rfl (by decide) lk4 rfl rfl dX4_tries_17 ?_
    refine k_lconst C (v := 0) dX4_tries_20 (by decide) ?_
    refine k_lc_ne C 36 dX4_tries_21 dX4_tries_22 (by decide) (fun h_13 => ?_) (fun h_13 => ?_)
    · exact k_lv [0, 1, 2, 3] rfl (J36 (by simp [*]))
    · refine k_aload_n C 0 dX4_tries_25 rfl rfl ?_
      refine k_get C hinX4 0 25 rfl rfl (by decide) lk5 rfl rfl dX4_tries_26 ?_
      refine k_lconst C (v := 0) dX4_tries_29 (by decide) ?_
      refine k_lc_ne C 36 dX4_tries_30 dX4_tries_31 (by decide) (fun h_14 => ?_) (fun h_14 => ?_)
      · exact k_lv [0, 1, 2, 3] rfl (J36 (by simp [*]))
      · refine k_iconst C (v := (nI 0)) dX4_tries_34 (by decide) ?_
        exact hret _ _ _ _ (⟨Or.inl rfl, _, _, _, by rw [triF, if_pos (by simp [triNo, h_12, h_13, h_14])]⟩) dX4_tries_35
set_option maxHeartbeats 4000000 in
set_option maxRecDepth 100000 in
theorem c4_in (l : Launch) (D : va_G) (cI cJ cF cD : ClassId) {ad : Nat → Nat} {thr pts blt bds hld egs : Int32} {tx ty tz : Int64} {xs ys zs szs crn odr nds lfs rts far : Nat → Int32} {hx hy hz : Nat → Int64} {F : FT} {f q : Nat} (hf : f < 64) (hq : q < 24) : CtI l D (tyG cI cJ cF cD) yX4_in wsX4_in ({ frames := 0, cells := 0, slots := 0, locals := 0 }) [.ref (ad 0), .int (nI f), .int (nI q)] (wM ad cI cJ thr pts blt bds hld (nI F.1) egs tx ty tz xs ys zs szs crn odr nds lfs rts far hx hy hz F.2.1 F.2.2.1 F.2.2.2.1 F.2.2.2.2) (fun r w => r = (b2i (inB F hx hy hz f q)) ∧ w = (wM ad cI cJ thr pts blt bds hld (nI F.1) egs tx ty tz xs ys zs szs crn odr nds lfs rts far hx hy hz F.2.1 F.2.2.1 F.2.2.2.1 F.2.2.2.2)) := by
  refine ctZ_of (cc := cX4_in) (maxL := 3) (by decide) rfl (Nat.le_of_ble_eq_true rfl) (fun r w h => h.1 ▸ b2i_01 _) ?_
  intro X hXl hXd C hret
  have lk0 : Cond.fieldLink RX4 29 "HullBuilderModel" "nx" "[J" ∈ wsX4_in := by decide +kernel
  have hinX4 : ∀ w ∈ wsX40, w ∈ wsX4_in := by decide +kernel
  have lk2 : Cond.fieldLink RX4 19 "HullBuilderModel" "hx" "[J" ∈ wsX4_in := by decide +kernel
  have lk3 : Cond.fieldLink RX4 32 "HullBuilderModel" "ny" "[J" ∈ wsX4_in := by decide +kernel
  have lk4 : Cond.fieldLink RX4 23 "HullBuilderModel" "hy" "[J" ∈ wsX4_in := by decide +kernel
  have lk5 : Cond.fieldLink RX4 35 "HullBuilderModel" "nz" "[J" ∈ wsX4_in := by decide +kernel
  have lk6 : Cond.fieldLink RX4 26 "HullBuilderModel" "hz" "[J" ∈ wsX4_in := by decide +kernel
  have lk7 : Cond.fieldLink RX4 38 "HullBuilderModel" "offsets" "[J" ∈ wsX4_in := by decide +kernel
  show Kw X 0 0 (wM ad cI cJ thr pts blt bds hld (nI F.1) egs tx ty tz xs ys zs szs crn odr nds lfs rts far hx hy hz F.2.1 F.2.2.1 F.2.2.2.1 F.2.2.2.2) 0 [(0, .ref (ad 0)), (1, .int (nI f)), (2, .int (nI q))] []
  refine k_aload_n C 0 dX4_in_0 rfl rfl ?_
  refine k_get C hinX4 0 12 rfl rfl (by decide) lk0 rfl rfl dX4_in_1 ?_
  refine k_iload_n C 1 dX4_in_4 rfl rfl ?_
  refine k_lald C (j := f) 7 1 rfl rfl (by omega) (by decide) dX4_in_5 ?_
  refine k_aload_n C 0 dX4_in_6 rfl rfl ?_
  refine k_get C hinX4 0 8 rfl rfl (by decide) lk2 rfl rfl dX4_in_7 ?_
  refine k_iload_n C 2 dX4_in_10 rfl rfl ?_
  refine k_lald C (j := q) 4 1 rfl rfl (by omega) (by decide) dX4_in_11 ?_
  refine k_lmul C dX4_in_12 ?_
  refine k_aload_n C 0 dX4_in_13 rfl rfl ?_
  refine k_get C hinX4 0 13 rfl rfl (by decide) lk3 rfl rfl dX4_in_14 ?_
  refine k_iload_n C 1 dX4_in_17 rfl rfl ?_
  refine k_lald C (j := f) 8 1 rfl rfl (by omega) (by decide) dX4_in_18 ?_
  refine k_aload_n C 0 dX4_in_19 rfl rfl ?_
  refine k_get C hinX4 0 9 rfl rfl (by decide) lk4 rfl rfl dX4_in_20 ?_
  refine k_iload_n C 2 dX4_in_23 rfl rfl ?_
  refine k_lald C (j := q) 5 1 rfl rfl (by omega) (by decide) dX4_in_24 ?_
  refine k_lmul C dX4_in_25 ?_
  refine k_ladd C dX4_in_26 ?_
  refine k_aload_n C 0 dX4_in_27 rfl rfl ?_
  refine k_get C hinX4 0 14 rfl rfl (by decide) lk5 rfl rfl dX4_in_28 ?_
  refine k_iload_n C 1 dX4_in_31 rfl rfl ?_
  refine k_lald C (j := f) 9 1 rfl rfl (by omega) (by decide) dX4_in_32 ?_
  refine k_aload_n C 0 dX4_in_33 rfl rfl ?_
  refine k_get C hinX4 0 10 rfl rfl (by decide) lk6 rfl rfl dX4_in_34 ?_
  refine k_iload_n C 2 dX4_in_37 rfl rfl ?_
  refine k_lald C (j := q) 6 1 rfl rfl (by omega) (by decide) dX4_in_38 ?_
  refine k_lmul C dX4_in_39 ?_
  refine k_ladd C dX4_in_40 ?_
  refine k_aload_n C 0 dX4_in_41 rfl rfl ?_
  refine k_get C hinX4 0 15 rfl rfl (by decide) lk7 rfl rfl dX4_in_42 ?_
  refine k_iload_n C 1 dX4_in_45 rfl rfl ?_
  refine k_lald C (j := f) 10 1 rfl rfl (by omega) (by decide) dX4_in_46 ?_
  refine k_lc_ne C 55 dX4_in_47 dX4_in_48 (by decide) (fun h_1 => ?_) (fun h_1 => ?_)
  · refine k_iconst C (v := (nI 0)) dX4_in_55 (by decide) ?_
    exact hret _ _ _ _ ⟨by simp [inB, b2i, nI0, nI1, h_1], rfl⟩ dX4_in_56
  · refine k_iconst C (v := (nI 1)) dX4_in_51 (by decide) ?_
    refine k_goto C 56 dX4_in_52 (by decide) ?_
    exact hret _ _ _ _ ⟨by simp [inB, b2i, nI0, nI1, h_1], rfl⟩ dX4_in_56
set_option maxHeartbeats 4000000 in
set_option maxRecDepth 100000 in
theorem c4_goesOn (l : Launch) (D : va_G) (cI cJ cF cD : ClassId) {ad : Nat → Nat} {thr pts blt bds egs : Int32} {tx ty tz : Int64} {xs ys zs szs crn odr nds lfs rts far : Nat → Int32} {hx hy hz : Nat → Int64} {F : FT} {nh f a b : Nat} (hh : nh ≤ 24) (hf : f < 64) (ha : a < nh) (hb : b < nh) : CtI l D (tyG cI cJ cF cD) yX4_goesOn wsX4_goesOn ({ frames := 1, cells := 0, slots := 0, locals := 35 }) [.ref (ad 0), .int (nI f), .int (nI a), .int (nI b)] (wM ad cI cJ thr pts blt bds (nI nh) (nI F.1) egs tx ty tz xs ys zs szs crn odr nds lfs rts far hx hy hz F.2.1 F.2.2.1 F.2.2.2.1 F.2.2.2.2) (fun r w => ∃ t1 t2 t3 : Int64, r = b2i (gonB F nh hx hy hz f a b) ∧ w = (wM ad cI cJ thr pts blt bds (nI nh) (nI F.1) egs t1 t2 t3 xs ys zs szs crn odr nds lfs rts far hx hy hz F.2.1 F.2.2.1 F.2.2.2.1 F.2.2.2.2)) := by
  refine ctZ_of (cc := cX4_goesOn) (maxL := 10) (by decide) rfl (Nat.le_of_ble_eq_true rfl) (fun r w h => by obtain ⟨_, _, _, h, _⟩ := h; rw [h]; exact b2i_01 _) ?_
  intro X hXl hXd C hret
  have lk0 : Cond.fieldLink RX4 98 "HullBuilderModel" "held" "I" ∈ wsX4_goesOn := by decide +kernel
  have hinX4 : ∀ w ∈ wsX40, w ∈ wsX4_goesOn := by decide +kernel
  have lk2 : Cond.fieldLink RX4 81 "HullBuilderModel" "tx" "J" ∈ wsX4_goesOn := by decide +kernel
  have lk3 : Cond.fieldLink RX4 29 "HullBuilderModel" "nx" "[J" ∈ wsX4_goesOn := by decide +kernel
  have lk4 : Cond.fieldLink RX4 85 "HullBuilderModel" "ty" "J" ∈ wsX4_goesOn := by decide +kernel
  have lk5 : Cond.fieldLink RX4 32 "HullBuilderModel" "ny" "[J" ∈ wsX4_goesOn := by decide +kernel
  have lk6 : Cond.fieldLink RX4 88 "HullBuilderModel" "tz" "J" ∈ wsX4_goesOn := by decide +kernel
  have lk7 : Cond.fieldLink RX4 35 "HullBuilderModel" "nz" "[J" ∈ wsX4_goesOn := by decide +kernel
  have lk8 : Cond.fieldLink RX4 19 "HullBuilderModel" "hx" "[J" ∈ wsX4_goesOn := by decide +kernel
  have lk9 : Cond.fieldLink RX4 23 "HullBuilderModel" "hy" "[J" ∈ wsX4_goesOn := by decide +kernel
  have lk10 : Cond.fieldLink RX4 26 "HullBuilderModel" "hz" "[J" ∈ wsX4_goesOn := by decide +kernel
  show Kw X 0 0 (wM ad cI cJ thr pts blt bds (nI nh) (nI F.1) egs tx ty tz xs ys zs szs crn odr nds lfs rts far hx hy hz F.2.1 F.2.2.1 F.2.2.2.1 F.2.2.2.2) 0 [(0, .ref (ad 0)), (1, .int (nI f)), (2, .int (nI a)), (3, .int (nI b))] []
  refine k_iload_n C 2 dX4_goesOn_0 rfl rfl ?_
  refine k_iload_n C 3 dX4_goesOn_1 rfl rfl ?_
  refine k_icmp_eqN C (by omega) (by omega) 9 dX4_goesOn_2 (by decide) (fun h_1 => ?_) (fun h_1 => ?_)
  · refine k_iconst C (v := (nI 0)) dX4_goesOn_9 (by decide) ?_
    refine k_istore C (lv' := [(4, .int (nI 0)), (0, .ref (ad 0)), (1, .int (nI f)), (2, .int (nI a)), (3, .int (nI b))]) dX4_goesOn_10 (by decide) rfl ?_
    refine k_iconst C (v := (nI 0)) dX4_goesOn_12 (by decide) ?_
    refine k_istore C (lv' := [(5, .int (nI 0)), (4, .int (nI 0)), (0, .ref (ad 0)), (1, .int (nI f)), (2, .int (nI a)), (3, .int (nI b))]) dX4_goesOn_13 (by decide) rfl ?_
    suffices L15 : ∀ (n15 j15 : Nat) (t1 : Int64) (t2 : Int64) (t3 : Int64), j15 ≤ nh → nh + 1 ≤ j15 + n15 → Kw X 0 0 (wM ad cI cJ thr pts blt bds (nI nh) (nI F.1) egs t1 t2 t3 xs ys zs szs crn odr nds lfs rts far hx hy hz F.2.1 F.2.2.1 F.2.2.2.1 F.2.2.2.2) 15 [(0, .ref (ad 0)), (1, .int (nI f)), (2, .int (nI a)), (3, .int (nI b)), (4, .int (b2i (gonP F hx hy hz f a b j15))), (5, .int (nI j15))] [] by
      have e9_0 : (nI 0) = (b2i (gonP F hx hy hz f a b 0)) := by simp [gonP, allB, b2i, nI0, nI1, h_1]
      exact k_lv [2, 3, 4, 5, 1, 0] (by rw [← e9_0]; rfl) (L15 (nh + 1) 0 tx ty tz (by omega) (by omega))
    intro n15
    induction n15 with
    | zero => intro j15 t1 t2 t3 a1 a2; exact absurd a2 (by omega)
    | succ n15 ih15 =>
      intro j15 t1 t2 t3 b15 c15
      refine k_iload C 5 dX4_goesOn_15 rfl ?_
      refine k_aload_n C 0 dX4_goesOn_17 rfl rfl ?_
      refine k_get C hinX4 0 7 rfl rfl (by decide) lk0 rfl rfl dX4_goesOn_18 ?_
      refine k_icmp_geN C (by omega) (by omega) 221 dX4_goesOn_21 (by decide) (fun h_2 => ?_) (fun h_2 => ?_)
      · refine k_iload C 4 dX4_goesOn_221 rfl ?_
        exact hret _ _ _ _ (⟨_, _, _, by first | (rw [show j15 = nh by omega]; rfl) | (exact congrArg b2i (gon_false F hx hy hz b15 (by assumption))), rfl⟩) dX4_goesOn_223
      · refine k_iload C 4 dX4_goesOn_24 rfl ?_
        refine k_if_eqB C 221 dX4_goesOn_26 (by decide) (fun h_3 => ?_) (fun h_3 => ?_)
        · refine k_iload C 4 dX4_goesOn_221 rfl ?_
          exact hret _ _ _ _ (⟨_, _, _, by first | (rw [show j15 = nh by omega]; rfl) | (exact congrArg b2i (gon_false F hx hy hz b15 (by assumption))), rfl⟩) dX4_goesOn_223
        · refine k_iload C 5 dX4_goesOn_29 rfl ?_
          refine k_iload_n C 2 dX4_goesOn_31 rfl rfl ?_
          refine k_icmp_eqN C (by omega) (by omega) 215 dX4_goesOn_32 (by decide) (fun h_4 => ?_) (fun h_4 => ?_)
          · refine k_iinc C (v := (nI (j15 + 1))) (lv' := [(5, .int (nI (j15 + 1))), (0, .ref (ad 0)), (1, .int (nI f)), (2, .int (nI a)), (3, .int (nI b)), (4, .int (b2i (gonP F hx hy hz f a b j15)))]) 5 dX4_goesOn_215 rfl (nI_1 _) (by decide) rfl ?_
            refine k_goto C 15 dX4_goesOn_218 (by decide) ?_
            have e34_0 : (b2i (gonP F hx hy hz f a b j15)) = (b2i (gonP F hx hy hz f a b (j15 + 1))) := by simp [gonP_s, okB, lft, btw, b2i, nI0, nI1, h_2, h_3, h_4]
            exact k_lv [1, 2, 3, 4, 5, 0] (by rw [← e34_0]; rfl) (ih15 (j15 + 1) t1 t2 t3 (by omega) (by omega))
          · refine k_iload C 5 dX4_goesOn_35 rfl ?_
            refine k_iload_n C 3 dX4_goesOn_37 rfl rfl ?_
            refine k_icmp_eqN C (by omega) (by omega) 215 dX4_goesOn_38 (by decide) (fun h_5 => ?_) (fun h_5 => ?_)
            · refine k_iinc C (v := (nI (j15 + 1))) (lv' := [(5, .int (nI (j15 + 1))), (0, .ref (ad 0)), (1, .int (nI f)), (2, .int (nI a)), (3, .int (nI b)), (4, .int (b2i (gonP F hx hy hz f a b j15)))]) 5 dX4_goesOn_215 rfl (nI_1 _) (by decide) rfl ?_
              refine k_goto C 15 dX4_goesOn_218 (by decide) ?_
              have e42_0 : (b2i (gonP F hx hy hz f a b j15)) = (b2i (gonP F hx hy hz f a b (j15 + 1))) := by simp [gonP_s, okB, lft, btw, b2i, nI0, nI1, h_2, h_3, h_4, h_5]
              exact k_lv [1, 2, 3, 4, 5, 0] (by rw [← e42_0]; rfl) (ih15 (j15 + 1) t1 t2 t3 (by omega) (by omega))
            · refine k_aload_n C 0 dX4_goesOn_41 rfl rfl ?_
              refine k_iload_n C 1 dX4_goesOn_42 rfl rfl ?_
              refine k_iload C 5 dX4_goesOn_43 rfl ?_
              refine k_callVI C (ar := 2) (As := [.int (nI f), .int (nI j15)]) (rest := []) (c4_in (kxL X) (kxD X) cI cJ cF cD (by omega) (by omega)) gX4_goesOn_X4_in rfl rfl rfl (by decide +kernel) ⟨Nat.le_of_ble_eq_true rfl, Nat.le_of_ble_eq_true rfl⟩ 0 rfl rfl rfl rfl (Nat.le_of_ble_eq_true rfl) dX4_goesOn_45 (Nat.zero_le _) (Nat.zero_le _) (fun r w hw => ?_)
              obtain ⟨rfl, rfl⟩ := hw
              refine k_if_eqB C 215 dX4_goesOn_48 (by decide) (fun h_6 => ?_) (fun h_6 => ?_)
              · refine k_iinc C (v := (nI (j15 + 1))) (lv' := [(5, .int (nI (j15 + 1))), (0, .ref (ad 0)), (1, .int (nI f)), (2, .int (nI a)), (3, .int (nI b)), (4, .int (b2i (gonP F hx hy hz f a b j15)))]) 5 dX4_goesOn_215 rfl (nI_1 _) (by decide) rfl ?_
                refine k_goto C 15 dX4_goesOn_218 (by decide) ?_
                have e53_0 : (b2i (gonP F hx hy hz f a b j15)) = (b2i (gonP F hx hy hz f a b (j15 + 1))) := by simp [gonP_s, okB, lft, btw, b2i, nI0, nI1, h_2, h_3, h_4, h_5, h_6]
                exact k_lv [1, 2, 3, 4, 5, 0] (by rw [← e53_0]; rfl) (ih15 (j15 + 1) t1 t2 t3 (by omega) (by omega))
              · refine k_aload_n C 0 dX4_goesOn_51 rfl rfl ?_
                refine k_iload_n C 2 dX4_goesOn_52 rfl rfl ?_
                refine k_iload_n C 3 dX4_goesOn_53 rfl rfl ?_
                refine k_iload C 5 dX4_goesOn_54 rfl ?_
                refine k_callVV C (ar := 3) (As := [.int (nI a), .int (nI b), .int (nI j15)]) (rest := []) (c4_across (kxL X) (kxD X) cI cJ cF cD (by omega) (by omega) (by omega)) gX4_goesOn_X4_across rfl rfl rfl (by decide +kernel) ⟨Nat.le_of_ble_eq_true rfl, Nat.le_of_ble_eq_true rfl⟩ 0 rfl rfl rfl rfl (Nat.le_of_ble_eq_true rfl) dX4_goesOn_56 (Nat.zero_le _) (Nat.zero_le _) (fun w hw => ?_)
                subst hw
                refine k_aload_n C 0 dX4_goesOn_59 rfl rfl ?_
                refine k_get C hinX4 0 23 rfl rfl (by decide) lk2 rfl rfl dX4_goesOn_60 ?_
                refine k_aload_n C 0 dX4_goesOn_63 rfl rfl ?_
                refine k_get C hinX4 0 12 rfl rfl (by decide) lk3 rfl rfl dX4_goesOn_64 ?_
                refine k_iload_n C 1 dX4_goesOn_67 rfl rfl ?_
                refine k_lald C (j := f) 7 1 rfl rfl (by omega) (by decide) dX4_goesOn_68 ?_
                refine k_lmul C dX4_goesOn_69 ?_
                refine k_aload_n C 0 dX4_goesOn_70 rfl rfl ?_
                refine k_get C hinX4 0 24 rfl rfl (by decide) lk4 rfl rfl dX4_goesOn_71 ?_
                refine k_aload_n C 0 dX4_goesOn_74 rfl rfl ?_
                refine k_get C hinX4 0 13 rfl rfl (by decide) lk5 rfl rfl dX4_goesOn_75 ?_
                refine k_iload_n C 1 dX4_goesOn_78 rfl rfl ?_
                refine k_lald C (j := f) 8 1 rfl rfl (by omega) (by decide) dX4_goesOn_79 ?_
                refine k_lmul C dX4_goesOn_80 ?_
                refine k_ladd C dX4_goesOn_81 ?_
                refine k_aload_n C 0 dX4_goesOn_82 rfl rfl ?_
                refine k_get C hinX4 0 25 rfl rfl (by decide) lk6 rfl rfl dX4_goesOn_83 ?_
                refine k_aload_n C 0 dX4_goesOn_86 rfl rfl ?_
                refine k_get C hinX4 0 14 rfl rfl (by decide) lk7 rfl rfl dX4_goesOn_87 ?_
                refine k_iload_n C 1 dX4_goesOn_90 rfl rfl ?_
                refine k_lald C (j := f) 9 1 rfl rfl (by omega) (by decide) dX4_goesOn_91 ?_
                refine k_lmul C dX4_goesOn_92 ?_
                refine k_ladd C dX4_goesOn_93 ?_
                refine k_lstore C (lv' := [(6, .long ((((acx hy hz a b j15) * (F.2.1 f)) + ((acx hz hx a b j15) * (F.2.2.1 f))) + ((acx hx hy a b j15) * (F.2.2.2.1 f)))), (0, .ref (ad 0)), (1, .int (nI f)), (2, .int (nI a)), (3, .int (nI b)), (4, .int (b2i (gonP F hx hy hz f a b j15))), (5, .int (nI j15))]) dX4_goesOn_94 (by decide) rfl ?_
                refine k_aload_n C 1 dX4_goesOn_96 rfl rfl ?_
                refine k_get C hinX4 0 8 rfl rfl (by decide) lk8 rfl rfl dX4_goesOn_97 ?_
                refine k_iload C 6 dX4_goesOn_100 rfl ?_
                refine k_lald C (j := j15) 4 1 rfl rfl (by omega) (by decide) dX4_goesOn_102 ?_
                refine k_aload_n C 1 dX4_goesOn_103 rfl rfl ?_
                refine k_get C hinX4 0 8 rfl rfl (by decide) lk8 rfl rfl dX4_goesOn_104 ?_
                refine k_iload_n C 3 dX4_goesOn_107 rfl rfl ?_
                refine k_lald C (j := a) 4 1 rfl rfl (by omega) (by decide) dX4_goesOn_108 ?_
                refine k_lsub C dX4_goesOn_109 ?_
                refine k_aload_n C 1 dX4_goesOn_110 rfl rfl ?_
                refine k_get C hinX4 0 8 rfl rfl (by decide) lk8 rfl rfl dX4_goesOn_111 ?_
                refine k_iload C 6 dX4_goesOn_114 rfl ?_
                refine k_lald C (j := j15) 4 1 rfl rfl (by omega) (by decide) dX4_goesOn_116 ?_
                refine k_aload_n C 1 dX4_goesOn_117 rfl rfl ?_
                refine k_get C hinX4 0 8 rfl rfl (by decide) lk8 rfl rfl dX4_goesOn_118 ?_
                refine k_iload_n C 4 dX4_goesOn_121 rfl rfl ?_
                refine k_lald C (j := b) 4 1 rfl rfl (by omega) (by decide) dX4_goesOn_122 ?_
                refine k_lsub C dX4_goesOn_123 ?_
                refine k_lmul C dX4_goesOn_124 ?_
                refine k_aload_n C 1 dX4_goesOn_125 rfl rfl ?_
                refine k_get C hinX4 0 9 rfl rfl (by decide) lk9 rfl rfl dX4_goesOn_126 ?_
                refine k_iload C 6 dX4_goesOn_129 rfl ?_
                refine k_lald C (j := j15) 5 1 rfl rfl (by omega) (by decide) dX4_goesOn_131 ?_
                refine k_aload_n C 1 dX4_goesOn_132 rfl rfl ?_
                refine k_get C hinX4 0 9 rfl rfl (by decide) lk9 rfl rfl dX4_goesOn_133 ?_
                refine k_iload_n C 3 dX4_goesOn_136 rfl rfl ?_
                refine k_lald C (j := a) 5 1 rfl rfl (by omega) (by decide) dX4_goesOn_137 ?_
                refine k_lsub C dX4_goesOn_138 ?_
                refine k_aload_n C 1 dX4_goesOn_139 rfl rfl ?_
                refine k_get C hinX4 0 9 rfl rfl (by decide) lk9 rfl rfl dX4_goesOn_140 ?_
                refine k_iload C 6 dX4_goesOn_143 rfl ?_
                refine k_lald C (j := j15) 5 1 rfl rfl (by omega) (by decide) dX4_goesOn_145 ?_
                refine k_aload_n C 1 dX4_goesOn_146 rfl rfl ?_
                refine k_get C hinX4 0 9 rfl rfl (by decide) lk9 rfl rfl dX4_goesOn_147 ?_
                refine k_iload_n C 4 dX4_goesOn_150 rfl rfl ?_
                refine k_lald C (j := b) 5 1 rfl rfl (by omega) (by decide) dX4_goesOn_151 ?_
                refine k_lsub C dX4_goesOn_152 ?_
                refine k_lmul C dX4_goesOn_153 ?_
                refine k_ladd C dX4_goesOn_154 ?_
                refine k_aload_n C 1 dX4_goesOn_155 rfl rfl ?_
                refine k_get C hinX4 0 10 rfl rfl (by decide) lk10 rfl rfl dX4_goesOn_156 ?_
                refine k_iload C 6 dX4_goesOn_159 rfl ?_
                refine k_lald C (j := j15) 6 1 rfl rfl (by omega) (by decide) dX4_goesOn_161 ?_
                refine k_aload_n C 1 dX4_goesOn_162 rfl rfl ?_
                refine k_get C hinX4 0 10 rfl rfl (by decide) lk10 rfl rfl dX4_goesOn_163 ?_
                refine k_iload_n C 3 dX4_goesOn_166 rfl rfl ?_
                refine k_lald C (j := a) 6 1 rfl rfl (by omega) (by decide) dX4_goesOn_167 ?_
                refine k_lsub C dX4_goesOn_168 ?_
                refine k_aload_n C 1 dX4_goesOn_169 rfl rfl ?_
                refine k_get C hinX4 0 10 rfl rfl (by decide) lk10 rfl rfl dX4_goesOn_170 ?_
                refine k_iload C 6 dX4_goesOn_173 rfl ?_
                refine k_lald C (j := j15) 6 1 rfl rfl (by omega) (by decide) dX4_goesOn_175 ?_
                refine k_aload_n C 1 dX4_goesOn_176 rfl rfl ?_
                refine k_get C hinX4 0 10 rfl rfl (by decide) lk10 rfl rfl dX4_goesOn_177 ?_
                refine k_iload_n C 4 dX4_goesOn_180 rfl rfl ?_
                refine k_lald C (j := b) 6 1 rfl rfl (by omega) (by decide) dX4_goesOn_181 ?_
                refine k_lsub C dX4_goesOn_182 ?_
                refine k_lmul C dX4_goesOn_183 ?_
                refine k_ladd C dX4_goesOn_184 ?_
                refine k_lstore C (lv' := [(8, .long (((((hx j15) - (hx a)) * ((hx j15) - (hx b))) + (((hy j15) - (hy a)) * ((hy j15) - (hy b)))) + (((hz j15) - (hz a)) * ((hz j15) - (hz b))))), (6, .long ((((acx hy hz a b j15) * (F.2.1 f)) + ((acx hz hx a b j15) * (F.2.2.1 f))) + ((acx hx hy a b j15) * (F.2.2.2.1 f)))), (0, .ref (ad 0)), (1, .int (nI f)), (2, .int (nI a)), (3, .int (nI b)), (4, .int (b2i (gonP F hx hy hz f a b j15))), (5, .int (nI j15))]) dX4_goesOn_185 (by decide) rfl ?_
                refine k_lload C 1 dX4_goesOn_187 rfl ?_
                refine k_lconst C (v := 0) dX4_goesOn_189 (by decide) ?_
                refine k_lc_gt C 208 dX4_goesOn_190 dX4_goesOn_191 (by decide) (fun h_7 => ?_) (fun h_7 => ?_)
                · refine k_iconst C (v := (nI 1)) dX4_goesOn_208 (by decide) ?_
                  refine k_goto C 213 dX4_goesOn_209 (by decide) ?_
                  refine k_istore C (lv' := [(4, .int (nI 1)), (8, .long (((((hx j15) - (hx a)) * ((hx j15) - (hx b))) + (((hy j15) - (hy a)) * ((hy j15) - (hy b)))) + (((hz j15) - (hz a)) * ((hz j15) - (hz b))))), (6, .long ((((acx hy hz a b j15) * (F.2.1 f)) + ((acx hz hx a b j15) * (F.2.2.1 f))) + ((acx hx hy a b j15) * (F.2.2.2.1 f)))), (0, .ref (ad 0)), (1, .int (nI f)), (2, .int (nI a)), (3, .int (nI b)), (5, .int (nI j15))]) dX4_goesOn_213 (by decide) rfl ?_
                  refine k_iinc C (v := (nI (j15 + 1))) (lv' := [(5, .int (nI (j15 + 1))), (4, .int (nI 1)), (8, .long (((((hx j15) - (hx a)) * ((hx j15) - (hx b))) + (((hy j15) - (hy a)) * ((hy j15) - (hy b)))) + (((hz j15) - (hz a)) * ((hz j15) - (hz b))))), (6, .long ((((acx hy hz a b j15) * (F.2.1 f)) + ((acx hz hx a b j15) * (F.2.2.1 f))) + ((acx hx hy a b j15) * (F.2.2.2.1 f)))), (0, .ref (ad 0)), (1, .int (nI f)), (2, .int (nI a)), (3, .int (nI b))]) 7 dX4_goesOn_215 rfl (nI_1 _) (by decide) rfl ?_
                  refine k_goto C 15 dX4_goesOn_218 (by decide) ?_
                  have e154_0 : (nI 1) = (b2i (gonP F hx hy hz f a b (j15 + 1))) := by simp [gonP_s, okB, lft, btw, b2i, nI0, nI1, h_2, h_3, h_4, h_5, h_6, h_7]
                  exact k_lv [4, 5, 6, 7, 1, 0] (by rw [← e154_0]; rfl) (ih15 (j15 + 1) (acx hy hz a b j15) (acx hz hx a b j15) (acx hx hy a b j15) (by omega) (by omega))
                · refine k_lload C 1 dX4_goesOn_194 rfl ?_
                  refine k_lconst C (v := 0) dX4_goesOn_196 (by decide) ?_
                  refine k_lc_ne C 212 dX4_goesOn_197 dX4_goesOn_198 (by decide) (fun h_8 => ?_) (fun h_8 => ?_)
                  · refine k_iconst C (v := (nI 0)) dX4_goesOn_212 (by decide) ?_
                    refine k_istore C (lv' := [(4, .int (nI 0)), (8, .long (((((hx j15) - (hx a)) * ((hx j15) - (hx b))) + (((hy j15) - (hy a)) * ((hy j15) - (hy b)))) + (((hz j15) - (hz a)) * ((hz j15) - (hz b))))), (6, .long ((((acx hy hz a b j15) * (F.2.1 f)) + ((acx hz hx a b j15) * (F.2.2.1 f))) + ((acx hx hy a b j15) * (F.2.2.2.1 f)))), (0, .ref (ad 0)), (1, .int (nI f)), (2, .int (nI a)), (3, .int (nI b)), (5, .int (nI j15))]) dX4_goesOn_213 (by decide) rfl ?_
                    refine k_iinc C (v := (nI (j15 + 1))) (lv' := [(5, .int (nI (j15 + 1))), (4, .int (nI 0)), (8, .long (((((hx j15) - (hx a)) * ((hx j15) - (hx b))) + (((hy j15) - (hy a)) * ((hy j15) - (hy b)))) + (((hz j15) - (hz a)) * ((hz j15) - (hz b))))), (6, .long ((((acx hy hz a b j15) * (F.2.1 f)) + ((acx hz hx a b j15) * (F.2.2.1 f))) + ((acx hx hy a b j15) * (F.2.2.2.1 f)))), (0, .ref (ad 0)), (1, .int (nI f)), (2, .int (nI a)), (3, .int (nI b))]) 7 dX4_goesOn_215 rfl (nI_1 _) (by decide) rfl ?_
                    refine k_goto C 15 dX4_goesOn_218 (by decide) ?_
                    have e164_0 : (nI 0) = (b2i (gonP F hx hy hz f a b (j15 + 1))) := by simp [gonP_s, okB, lft, btw, b2i, nI0, nI1, h_2, h_3, h_4, h_5, h_6, h_7, h_8]
                    exact k_lv [4, 5, 6, 7, 1, 0] (by rw [← e164_0]; rfl) (ih15 (j15 + 1) (acx hy hz a b j15) (acx hz hx a b j15) (acx hx hy a b j15) (by omega) (by omega))
                  · refine k_lload C 0 dX4_goesOn_201 rfl ?_
                    refine k_lconst C (v := 0) dX4_goesOn_203 (by decide) ?_
                    refine k_lc_ge C 212 dX4_goesOn_204 dX4_goesOn_205 (by decide) (fun h_9 => ?_) (fun h_9 => ?_)
                    · refine k_iconst C (v := (nI 0)) dX4_goesOn_212 (by decide) ?_
                      refine k_istore C (lv' := [(4, .int (nI 0)), (8, .long (((((hx j15) - (hx a)) * ((hx j15) - (hx b))) + (((hy j15) - (hy a)) * ((hy j15) - (hy b)))) + (((hz j15) - (hz a)) * ((hz j15) - (hz b))))), (6, .long ((((acx hy hz a b j15) * (F.2.1 f)) + ((acx hz hx a b j15) * (F.2.2.1 f))) + ((acx hx hy a b j15) * (F.2.2.2.1 f)))), (0, .ref (ad 0)), (1, .int (nI f)), (2, .int (nI a)), (3, .int (nI b)), (5, .int (nI j15))]) dX4_goesOn_213 (by decide) rfl ?_
                      refine k_iinc C (v := (nI (j15 + 1))) (lv' := [(5, .int (nI (j15 + 1))), (4, .int (nI 0)), (8, .long (((((hx j15) - (hx a)) * ((hx j15) - (hx b))) + (((hy j15) - (hy a)) * ((hy j15) - (hy b)))) + (((hz j15) - (hz a)) * ((hz j15) - (hz b))))), (6, .long ((((acx hy hz a b j15) * (F.2.1 f)) + ((acx hz hx a b j15) * (F.2.2.1 f))) + ((acx hx hy a b j15) * (F.2.2.2.1 f)))), (0, .ref (ad 0)), (1, .int (nI f)), (2, .int (nI a)), (3, .int (nI b))]) 7 dX4_goesOn_215 rfl (nI_1 _) (by decide) rfl ?_
                      refine k_goto C 15 dX4_goesOn_218 (by decide) ?_
                      have e174_0 : (nI 0) = (b2i (gonP F hx hy hz f a b (j15 + 1))) := by simp [gonP_s, okB, lft, btw, b2i, nI0, nI1, h_2, h_3, h_4, h_5, h_6, h_7, h_8, h_9]
                      exact k_lv [4, 5, 6, 7, 1, 0] (by rw [← e174_0]; rfl) (ih15 (j15 + 1) (acx hy hz a b j15) (acx hz hx a b j15) (acx hx hy a b j15) (by omega) (by omega))
                    · refine k_iconst C (v := (nI 1)) dX4_goesOn_208 (by decide) ?_
                      refine k_goto C 213 dX4_goesOn_209 (by decide) ?_
                      refine k_istore C (lv' := [(4, .int (nI 1)), (8, .long (((((hx j15) - (hx a)) * ((hx j15) - (hx b))) + (((hy j15) - (hy a)) * ((hy j15) - (hy b)))) + (((hz j15) - (hz a)) * ((hz j15) - (hz b))))), (6, .long ((((acx hy hz a b j15) * (F.2.1 f)) + ((acx hz hx a b j15) * (F.2.2.1 f))) + ((acx hx hy a b j15) * (F.2.2.2.1 f)))), (0, .ref (ad 0)), (1, .int (nI f)), (2, .int (nI a)), (3, .int (nI b)), (5, .int (nI j15))]) dX4_goesOn_213 (by decide) rfl ?_
                      refine k_iinc C (v := (nI (j15 + 1))) (lv' := [(5, .int (nI (j15 + 1))), (4, .int (nI 1)), (8, .long (((((hx j15) - (hx a)) * ((hx j15) - (hx b))) + (((hy j15) - (hy a)) * ((hy j15) - (hy b)))) + (((hz j15) - (hz a)) * ((hz j15) - (hz b))))), (6, .long ((((acx hy hz a b j15) * (F.2.1 f)) + ((acx hz hx a b j15) * (F.2.2.1 f))) + ((acx hx hy a b j15) * (F.2.2.2.1 f)))), (0, .ref (ad 0)), (1, .int (nI f)), (2, .int (nI a)), (3, .int (nI b))]) 7 dX4_goesOn_215 rfl (nI_1 _) (by decide) rfl ?_
                      refine k_goto C 15 dX4_goesOn_218 (by decide) ?_
                      have e181_0 : (nI 1) = (b2i (gonP F hx hy hz f a b (j15 + 1))) := by simp [gonP_s, okB, lft, btw, b2i, nI0, nI1, h_2, h_3, h_4, h_5, h_6, h_7, h_8, h_9]
                      exact k_lv [4, 5, 6, 7, 1, 0] (by rw [← e181_0]; rfl) (ih15 (j15 + 1) (acx hy hz a b j15) (acx hz hx a b j15) (acx hx hy a b j15) (by omega) (by omega))
  · refine k_iconst C (v := (nI 1)) dX4_goesOn_5 (by decide) ?_
    refine k_goto C 10 dX4_goesOn_6 (by decide) ?_
    refine k_istore C (lv' := [(4, .int (nI 1)), (0, .ref (ad 0)), (1, .int (nI f)), (2, .int (nI a)), (3, .int (nI b))]) dX4_goesOn_10 (by decide) rfl ?_
    refine k_iconst C (v := (nI 0)) dX4_goesOn_12 (by decide) ?_
    refine k_istore C (lv' := [(5, .int (nI 0)), (4, .int (nI 1)), (0, .ref (ad 0)), (1, .int (nI f)), (2, .int (nI a)), (3, .int (nI b))]) dX4_goesOn_13 (by decide) rfl ?_
    suffices L15 : ∀ (n15 j15 : Nat) (t1 : Int64) (t2 : Int64) (t3 : Int64), j15 ≤ nh → nh + 1 ≤ j15 + n15 → Kw X 0 0 (wM ad cI cJ thr pts blt bds (nI nh) (nI F.1) egs t1 t2 t3 xs ys zs szs crn odr nds lfs rts far hx hy hz F.2.1 F.2.2.1 F.2.2.2.1 F.2.2.2.2) 15 [(0, .ref (ad 0)), (1, .int (nI f)), (2, .int (nI a)), (3, .int (nI b)), (4, .int (b2i (gonP F hx hy hz f a b j15))), (5, .int (nI j15))] [] by
      have e181_0 : (nI 1) = (b2i (gonP F hx hy hz f a b 0)) := by simp [gonP, allB, b2i, nI0, nI1, h_1]
      exact k_lv [2, 3, 4, 5, 1, 0] (by rw [← e181_0]; rfl) (L15 (nh + 1) 0 tx ty tz (by omega) (by omega))
    intro n15
    induction n15 with
    | zero => intro j15 t1 t2 t3 a1 a2; exact absurd a2 (by omega)
    | succ n15 ih15 =>
      intro j15 t1 t2 t3 b15 c15
      refine k_iload C 5 dX4_goesOn_15 rfl ?_
      refine k_aload_n C 0 dX4_goesOn_17 rfl rfl ?_
      refine k_get C hinX4 0 7 rfl rfl (by decide) lk0 rfl rfl dX4_goesOn_18 ?_
      refine k_icmp_geN C (by omega) (by omega) 221 dX4_goesOn_21 (by decide) (fun h_10 => ?_) (fun h_10 => ?_)
      · refine k_iload C 4 dX4_goesOn_221 rfl ?_
        exact hret _ _ _ _ (⟨_, _, _, by first | (rw [show j15 = nh by omega]; rfl) | (exact congrArg b2i (gon_false F hx hy hz b15 (by assumption))), rfl⟩) dX4_goesOn_223
      · refine k_iload C 4 dX4_goesOn_24 rfl ?_
        refine k_if_eqB C 221 dX4_goesOn_26 (by decide) (fun h_11 => ?_) (fun h_11 => ?_)
        · refine k_iload C 4 dX4_goesOn_221 rfl ?_
          exact hret _ _ _ _ (⟨_, _, _, by first | (rw [show j15 = nh by omega]; rfl) | (exact congrArg b2i (gon_false F hx hy hz b15 (by assumption))), rfl⟩) dX4_goesOn_223
        · refine k_iload C 5 dX4_goesOn_29 rfl ?_
          refine k_iload_n C 2 dX4_goesOn_31 rfl rfl ?_
          refine k_icmp_eqN C (by omega) (by omega) 215 dX4_goesOn_32 (by decide) (fun h_12 => ?_) (fun h_12 => ?_)
          · refine k_iinc C (v := (nI (j15 + 1))) (lv' := [(5, .int (nI (j15 + 1))), (0, .ref (ad 0)), (1, .int (nI f)), (2, .int (nI a)), (3, .int (nI b)), (4, .int (b2i (gonP F hx hy hz f a b j15)))]) 5 dX4_goesOn_215 rfl (nI_1 _) (by decide) rfl ?_
            refine k_goto C 15 dX4_goesOn_218 (by decide) ?_
            have e206_0 : (b2i (gonP F hx hy hz f a b j15)) = (b2i (gonP F hx hy hz f a b (j15 + 1))) := by simp [gonP_s, okB, lft, btw, b2i, nI0, nI1, h_10, h_11, h_12]
            exact k_lv [1, 2, 3, 4, 5, 0] (by rw [← e206_0]; rfl) (ih15 (j15 + 1) t1 t2 t3 (by omega) (by omega))
          · refine k_iload C 5 dX4_goesOn_35 rfl ?_
            refine k_iload_n C 3 dX4_goesOn_37 rfl rfl ?_
            refine k_icmp_eqN C (by omega) (by omega) 215 dX4_goesOn_38 (by decide) (fun h_13 => ?_) (fun h_13 => ?_)
            · refine k_iinc C (v := (nI (j15 + 1))) (lv' := [(5, .int (nI (j15 + 1))), (0, .ref (ad 0)), (1, .int (nI f)), (2, .int (nI a)), (3, .int (nI b)), (4, .int (b2i (gonP F hx hy hz f a b j15)))]) 5 dX4_goesOn_215 rfl (nI_1 _) (by decide) rfl ?_
              refine k_goto C 15 dX4_goesOn_218 (by decide) ?_
              have e214_0 : (b2i (gonP F hx hy hz f a b j15)) = (b2i (gonP F hx hy hz f a b (j15 + 1))) := by simp [gonP_s, okB, lft, btw, b2i, nI0, nI1, h_10, h_11, h_12, h_13]
              exact k_lv [1, 2, 3, 4, 5, 0] (by rw [← e214_0]; rfl) (ih15 (j15 + 1) t1 t2 t3 (by omega) (by omega))
            · refine k_aload_n C 0 dX4_goesOn_41 rfl rfl ?_
              refine k_iload_n C 1 dX4_goesOn_42 rfl rfl ?_
              refine k_iload C 5 dX4_goesOn_43 rfl ?_
              refine k_callVI C (ar := 2) (As := [.int (nI f), .int (nI j15)]) (rest := []) (c4_in (kxL X) (kxD X) cI cJ cF cD (by omega) (by omega)) gX4_goesOn_X4_in rfl rfl rfl (by decide +kernel) ⟨Nat.le_of_ble_eq_true rfl, Nat.le_of_ble_eq_true rfl⟩ 0 rfl rfl rfl rfl (Nat.le_of_ble_eq_true rfl) dX4_goesOn_45 (Nat.zero_le _) (Nat.zero_le _) (fun r w hw => ?_)
              obtain ⟨rfl, rfl⟩ := hw
              refine k_if_eqB C 215 dX4_goesOn_48 (by decide) (fun h_14 => ?_) (fun h_14 => ?_)
              · refine k_iinc C (v := (nI (j15 + 1))) (lv' := [(5, .int (nI (j15 + 1))), (0, .ref (ad 0)), (1, .int (nI f)), (2, .int (nI a)), (3, .int (nI b)), (4, .int (b2i (gonP F hx hy hz f a b j15)))]) 5 dX4_goesOn_215 rfl (nI_1 _) (by decide) rfl ?_
                refine k_goto C 15 dX4_goesOn_218 (by decide) ?_
                have e225_0 : (b2i (gonP F hx hy hz f a b j15)) = (b2i (gonP F hx hy hz f a b (j15 + 1))) := by simp [gonP_s, okB, lft, btw, b2i, nI0, nI1, h_10, h_11, h_12, h_13, h_14]
                exact k_lv [1, 2, 3, 4, 5, 0] (by rw [← e225_0]; rfl) (ih15 (j15 + 1) t1 t2 t3 (by omega) (by omega))
              · refine k_aload_n C 0 dX4_goesOn_51 rfl rfl ?_
                refine k_iload_n C 2 dX4_goesOn_52 rfl rfl ?_
                refine k_iload_n C 3 dX4_goesOn_53 rfl rfl ?_
                refine k_iload C 5 dX4_goesOn_54 rfl ?_
                refine k_callVV C (ar := 3) (As := [.int (nI a), .int (nI b), .int (nI j15)]) (rest := []) (c4_across (kxL X) (kxD X) cI cJ cF cD (by omega) (by omega) (by omega)) gX4_goesOn_X4_across rfl rfl rfl (by decide +kernel) ⟨Nat.le_of_ble_eq_true rfl, Nat.le_of_ble_eq_true rfl⟩ 0 rfl rfl rfl rfl (Nat.le_of_ble_eq_true rfl) dX4_goesOn_56 (Nat.zero_le _) (Nat.zero_le _) (fun w hw => ?_)
                subst hw
                refine k_aload_n C 0 dX4_goesOn_59 rfl rfl ?_
                refine k_get C hinX4 0 23 rfl rfl (by decide) lk2 rfl rfl dX4_goesOn_60 ?_
                refine k_aload_n C 0 dX4_goesOn_63 rfl rfl ?_
                refine k_get C hinX4 0 12 rfl rfl (by decide) lk3 rfl rfl dX4_goesOn_64 ?_
                refine k_iload_n C 1 dX4_goesOn_67 rfl rfl ?_
                refine k_lald C (j := f) 7 1 rfl rfl (by omega) (by decide) dX4_goesOn_68 ?_
                refine k_lmul C dX4_goesOn_69 ?_
                refine k_aload_n C 0 dX4_goesOn_70 rfl rfl ?_
                refine k_get C hinX4 0 24 rfl rfl (by decide) lk4 rfl rfl dX4_goesOn_71 ?_
                refine k_aload_n C 0 dX4_goesOn_74 rfl rfl ?_
                refine k_get C hinX4 0 13 rfl rfl (by decide) lk5 rfl rfl dX4_goesOn_75 ?_
                refine k_iload_n C 1 dX4_goesOn_78 rfl rfl ?_
                refine k_lald C (j := f) 8 1 rfl rfl (by omega) (by decide) dX4_goesOn_79 ?_
                refine k_lmul C dX4_goesOn_80 ?_
                refine k_ladd C dX4_goesOn_81 ?_
                refine k_aload_n C 0 dX4_goesOn_82 rfl rfl ?_
                refine k_get C hinX4 0 25 rfl rfl (by decide) lk6 rfl rfl dX4_goesOn_83 ?_
                refine k_aload_n C 0 dX4_goesOn_86 rfl rfl ?_
                refine k_get C hinX4 0 14 rfl rfl (by decide) lk7 rfl rfl dX4_goesOn_87 ?_
                refine k_iload_n C 1 dX4_goesOn_90 rfl rfl ?_
                refine k_lald C (j := f) 9 1 rfl rfl (by omega) (by decide) dX4_goesOn_91 ?_
                refine k_lmul C dX4_goesOn_92 ?_
                refine k_ladd C dX4_goesOn_93 ?_
                refine k_lstore C (lv' := [(6, .long ((((acx hy hz a b j15) * (F.2.1 f)) + ((acx hz hx a b j15) * (F.2.2.1 f))) + ((acx hx hy a b j15) * (F.2.2.2.1 f)))), (0, .ref (ad 0)), (1, .int (nI f)), (2, .int (nI a)), (3, .int (nI b)), (4, .int (b2i (gonP F hx hy hz f a b j15))), (5, .int (nI j15))]) dX4_goesOn_94 (by decide) rfl ?_
                refine k_aload_n C 1 dX4_goesOn_96 rfl rfl ?_
                refine k_get C hinX4 0 8 rfl rfl (by decide) lk8 rfl rfl dX4_goesOn_97 ?_
                refine k_iload C 6 dX4_goesOn_100 rfl ?_
                refine k_lald C (j := j15) 4 1 rfl rfl (by omega) (by decide) dX4_goesOn_102 ?_
                refine k_aload_n C 1 dX4_goesOn_103 rfl rfl ?_
                refine k_get C hinX4 0 8 rfl rfl (by decide) lk8 rfl rfl dX4_goesOn_104 ?_
                refine k_iload_n C 3 dX4_goesOn_107 rfl rfl ?_
                refine k_lald C (j := a) 4 1 rfl rfl (by omega) (by decide) dX4_goesOn_108 ?_
                refine k_lsub C dX4_goesOn_109 ?_
                refine k_aload_n C 1 dX4_goesOn_110 rfl rfl ?_
                refine k_get C hinX4 0 8 rfl rfl (by decide) lk8 rfl rfl dX4_goesOn_111 ?_
                refine k_iload C 6 dX4_goesOn_114 rfl ?_
                refine k_lald C (j := j15) 4 1 rfl rfl (by omega) (by decide) dX4_goesOn_116 ?_
                refine k_aload_n C 1 dX4_goesOn_117 rfl rfl ?_
                refine k_get C hinX4 0 8 rfl rfl (by decide) lk8 rfl rfl dX4_goesOn_118 ?_
                refine k_iload_n C 4 dX4_goesOn_121 rfl rfl ?_
                refine k_lald C (j := b) 4 1 rfl rfl (by omega) (by decide) dX4_goesOn_122 ?_
                refine k_lsub C dX4_goesOn_123 ?_
                refine k_lmul C dX4_goesOn_124 ?_
                refine k_aload_n C 1 dX4_goesOn_125 rfl rfl ?_
                refine k_get C hinX4 0 9 rfl rfl (by decide) lk9 rfl rfl dX4_goesOn_126 ?_
                refine k_iload C 6 dX4_goesOn_129 rfl ?_
                refine k_lald C (j := j15) 5 1 rfl rfl (by omega) (by decide) dX4_goesOn_131 ?_
                refine k_aload_n C 1 dX4_goesOn_132 rfl rfl ?_
                refine k_get C hinX4 0 9 rfl rfl (by decide) lk9 rfl rfl dX4_goesOn_133 ?_
                refine k_iload_n C 3 dX4_goesOn_136 rfl rfl ?_
                refine k_lald C (j := a) 5 1 rfl rfl (by omega) (by decide) dX4_goesOn_137 ?_
                refine k_lsub C dX4_goesOn_138 ?_
                refine k_aload_n C 1 dX4_goesOn_139 rfl rfl ?_
                refine k_get C hinX4 0 9 rfl rfl (by decide) lk9 rfl rfl dX4_goesOn_140 ?_
                refine k_iload C 6 dX4_goesOn_143 rfl ?_
                refine k_lald C (j := j15) 5 1 rfl rfl (by omega) (by decide) dX4_goesOn_145 ?_
                refine k_aload_n C 1 dX4_goesOn_146 rfl rfl ?_
                refine k_get C hinX4 0 9 rfl rfl (by decide) lk9 rfl rfl dX4_goesOn_147 ?_
                refine k_iload_n C 4 dX4_goesOn_150 rfl rfl ?_
                refine k_lald C (j := b) 5 1 rfl rfl (by omega) (by decide) dX4_goesOn_151 ?_
                refine k_lsub C dX4_goesOn_152 ?_
                refine k_lmul C dX4_goesOn_153 ?_
                refine k_ladd C dX4_goesOn_154 ?_
                refine k_aload_n C 1 dX4_goesOn_155 rfl rfl ?_
                refine k_get C hinX4 0 10 rfl rfl (by decide) lk10 rfl rfl dX4_goesOn_156 ?_
                refine k_iload C 6 dX4_goesOn_159 rfl ?_
                refine k_lald C (j := j15) 6 1 rfl rfl (by omega) (by decide) dX4_goesOn_161 ?_
                refine k_aload_n C 1 dX4_goesOn_162 rfl rfl ?_
                refine k_get C hinX4 0 10 rfl rfl (by decide) lk10 rfl rfl dX4_goesOn_163 ?_
                refine k_iload_n C 3 dX4_goesOn_166 rfl rfl ?_
                refine k_lald C (j := a) 6 1 rfl rfl (by omega) (by decide) dX4_goesOn_167 ?_
                refine k_lsub C dX4_goesOn_168 ?_
                refine k_aload_n C 1 dX4_goesOn_169 rfl rfl ?_
                refine k_get C hinX4 0 10 rfl rfl (by decide) lk10 rfl rfl dX4_goesOn_170 ?_
                refine k_iload C 6 dX4_goesOn_173 rfl ?_
                refine k_lald C (j := j15) 6 1 rfl rfl (by omega) (by decide) dX4_goesOn_175 ?_
                refine k_aload_n C 1 dX4_goesOn_176 rfl rfl ?_
                refine k_get C hinX4 0 10 rfl rfl (by decide) lk10 rfl rfl dX4_goesOn_177 ?_
                refine k_iload_n C 4 dX4_goesOn_180 rfl rfl ?_
                refine k_lald C (j := b) 6 1 rfl rfl (by omega) (by decide) dX4_goesOn_181 ?_
                refine k_lsub C dX4_goesOn_182 ?_
                refine k_lmul C dX4_goesOn_183 ?_
                refine k_ladd C dX4_goesOn_184 ?_
                refine k_lstore C (lv' := [(8, .long (((((hx j15) - (hx a)) * ((hx j15) - (hx b))) + (((hy j15) - (hy a)) * ((hy j15) - (hy b)))) + (((hz j15) - (hz a)) * ((hz j15) - (hz b))))), (6, .long ((((acx hy hz a b j15) * (F.2.1 f)) + ((acx hz hx a b j15) * (F.2.2.1 f))) + ((acx hx hy a b j15) * (F.2.2.2.1 f)))), (0, .ref (ad 0)), (1, .int (nI f)), (2, .int (nI a)), (3, .int (nI b)), (4, .int (b2i (gonP F hx hy hz f a b j15))), (5, .int (nI j15))]) dX4_goesOn_185 (by decide) rfl ?_
                refine k_lload C 1 dX4_goesOn_187 rfl ?_
                refine k_lconst C (v := 0) dX4_goesOn_189 (by decide) ?_
                refine k_lc_gt C 208 dX4_goesOn_190 dX4_goesOn_191 (by decide) (fun h_15 => ?_) (fun h_15 => ?_)
                · refine k_iconst C (v := (nI 1)) dX4_goesOn_208 (by decide) ?_
                  refine k_goto C 213 dX4_goesOn_209 (by decide) ?_
                  refine k_istore C (lv' := [(4, .int (nI 1)), (8, .long (((((hx j15) - (hx a)) * ((hx j15) - (hx b))) + (((hy j15) - (hy a)) * ((hy j15) - (hy b)))) + (((hz j15) - (hz a)) * ((hz j15) - (hz b))))), (6, .long ((((acx hy hz a b j15) * (F.2.1 f)) + ((acx hz hx a b j15) * (F.2.2.1 f))) + ((acx hx hy a b j15) * (F.2.2.2.1 f)))), (0, .ref (ad 0)), (1, .int (nI f)), (2, .int (nI a)), (3, .int (nI b)), (5, .int (nI j15))]) dX4_goesOn_213 (by decide) rfl ?_
                  refine k_iinc C (v := (nI (j15 + 1))) (lv' := [(5, .int (nI (j15 + 1))), (4, .int (nI 1)), (8, .long (((((hx j15) - (hx a)) * ((hx j15) - (hx b))) + (((hy j15) - (hy a)) * ((hy j15) - (hy b)))) + (((hz j15) - (hz a)) * ((hz j15) - (hz b))))), (6, .long ((((acx hy hz a b j15) * (F.2.1 f)) + ((acx hz hx a b j15) * (F.2.2.1 f))) + ((acx hx hy a b j15) * (F.2.2.2.1 f)))), (0, .ref (ad 0)), (1, .int (nI f)), (2, .int (nI a)), (3, .int (nI b))]) 7 dX4_goesOn_215 rfl (nI_1 _) (by decide) rfl ?_
                  refine k_goto C 15 dX4_goesOn_218 (by decide) ?_
                  have e326_0 : (nI 1) = (b2i (gonP F hx hy hz f a b (j15 + 1))) := by simp [gonP_s, okB, lft, btw, b2i, nI0, nI1, h_10, h_11, h_12, h_13, h_14, h_15]
                  exact k_lv [4, 5, 6, 7, 1, 0] (by rw [← e326_0]; rfl) (ih15 (j15 + 1) (acx hy hz a b j15) (acx hz hx a b j15) (acx hx hy a b j15) (by omega) (by omega))
                · refine k_lload C 1 dX4_goesOn_194 rfl ?_
                  refine k_lconst C (v := 0) dX4_goesOn_196 (by decide) ?_
                  refine k_lc_ne C 212 dX4_goesOn_197 dX4_goesOn_198 (by decide) (fun h_16 => ?_) (fun h_16 => ?_)
                  · refine k_iconst C (v := (nI 0)) dX4_goesOn_212 (by decide) ?_
                    refine k_istore C (lv' := [(4, .int (nI 0)), (8, .long (((((hx j15) - (hx a)) * ((hx j15) - (hx b))) + (((hy j15) - (hy a)) * ((hy j15) - (hy b)))) + (((hz j15) - (hz a)) * ((hz j15) - (hz b))))), (6, .long ((((acx hy hz a b j15) * (F.2.1 f)) + ((acx hz hx a b j15) * (F.2.2.1 f))) + ((acx hx hy a b j15) * (F.2.2.2.1 f)))), (0, .ref (ad 0)), (1, .int (nI f)), (2, .int (nI a)), (3, .int (nI b)), (5, .int (nI j15))]) dX4_goesOn_213 (by decide) rfl ?_
                    refine k_iinc C (v := (nI (j15 + 1))) (lv' := [(5, .int (nI (j15 + 1))), (4, .int (nI 0)), (8, .long (((((hx j15) - (hx a)) * ((hx j15) - (hx b))) + (((hy j15) - (hy a)) * ((hy j15) - (hy b)))) + (((hz j15) - (hz a)) * ((hz j15) - (hz b))))), (6, .long ((((acx hy hz a b j15) * (F.2.1 f)) + ((acx hz hx a b j15) * (F.2.2.1 f))) + ((acx hx hy a b j15) * (F.2.2.2.1 f)))), (0, .ref (ad 0)), (1, .int (nI f)), (2, .int (nI a)), (3, .int (nI b))]) 7 dX4_goesOn_215 rfl (nI_1 _) (by decide) rfl ?_
                    refine k_goto C 15 dX4_goesOn_218 (by decide) ?_
                    have e336_0 : (nI 0) = (b2i (gonP F hx hy hz f a b (j15 + 1))) := by simp [gonP_s, okB, lft, btw, b2i, nI0, nI1, h_10, h_11, h_12, h_13, h_14, h_15, h_16]
                    exact k_lv [4, 5, 6, 7, 1, 0] (by rw [← e336_0]; rfl) (ih15 (j15 + 1) (acx hy hz a b j15) (acx hz hx a b j15) (acx hx hy a b j15) (by omega) (by omega))
                  · refine k_lload C 0 dX4_goesOn_201 rfl ?_
                    refine k_lconst C (v := 0) dX4_goesOn_203 (by decide) ?_
                    refine k_lc_ge C 212 dX4_goesOn_204 dX4_goesOn_205 (by decide) (fun h_17 => ?_) (fun h_17 => ?_)
                    · refine k_iconst C (v := (nI 0)) dX4_goesOn_212 (by decide) ?_
                      refine k_istore C (lv' := [(4, .int (nI 0)), (8, .long (((((hx j15) - (hx a)) * ((hx j15) - (hx b))) + (((hy j15) - (hy a)) * ((hy j15) - (hy b)))) + (((hz j15) - (hz a)) * ((hz j15) - (hz b))))), (6, .long ((((acx hy hz a b j15) * (F.2.1 f)) + ((acx hz hx a b j15) * (F.2.2.1 f))) + ((acx hx hy a b j15) * (F.2.2.2.1 f)))), (0, .ref (ad 0)), (1, .int (nI f)), (2, .int (nI a)), (3, .int (nI b)), (5, .int (nI j15))]) dX4_goesOn_213 (by decide) rfl ?_
                      refine k_iinc C (v := (nI (j15 + 1))) (lv' := [(5, .int (nI (j15 + 1))), (4, .int (nI 0)), (8, .long (((((hx j15) - (hx a)) * ((hx j15) - (hx b))) + (((hy j15) - (hy a)) * ((hy j15) - (hy b)))) + (((hz j15) - (hz a)) * ((hz j15) - (hz b))))), (6, .long ((((acx hy hz a b j15) * (F.2.1 f)) + ((acx hz hx a b j15) * (F.2.2.1 f))) + ((acx hx hy a b j15) * (F.2.2.2.1 f)))), (0, .ref (ad 0)), (1, .int (nI f)), (2, .int (nI a)), (3, .int (nI b))]) 7 dX4_goesOn_215 rfl (nI_1 _) (by decide) rfl ?_
                      refine k_goto C 15 dX4_goesOn_218 (by decide) ?_
                      have e346_0 : (nI 0) = (b2i (gonP F hx hy hz f a b (j15 + 1))) := by simp [gonP_s, okB, lft, btw, b2i, nI0, nI1, h_10, h_11, h_12, h_13, h_14, h_15, h_16, h_17]
                      exact k_lv [4, 5, 6, 7, 1, 0] (by rw [← e346_0]; rfl) (ih15 (j15 + 1) (acx hy hz a b j15) (acx hz hx a b j15) (acx hx hy a b j15) (by omega) (by omega))
                    · refine k_iconst C (v := (nI 1)) dX4_goesOn_208 (by decide) ?_
                      refine k_goto C 213 dX4_goesOn_209 (by decide) ?_
                      refine k_istore C (lv' := [(4, .int (nI 1)), (8, .long (((((hx j15) - (hx a)) * ((hx j15) - (hx b))) + (((hy j15) - (hy a)) * ((hy j15) - (hy b)))) + (((hz j15) - (hz a)) * ((hz j15) - (hz b))))), (6, .long ((((acx hy hz a b j15) * (F.2.1 f)) + ((acx hz hx a b j15) * (F.2.2.1 f))) + ((acx hx hy a b j15) * (F.2.2.2.1 f)))), (0, .ref (ad 0)), (1, .int (nI f)), (2, .int (nI a)), (3, .int (nI b)), (5, .int (nI j15))]) dX4_goesOn_213 (by decide) rfl ?_
                      refine k_iinc C (v := (nI (j15 + 1))) (lv' := [(5, .int (nI (j15 + 1))), (4, .int (nI 1)), (8, .long (((((hx j15) - (hx a)) * ((hx j15) - (hx b))) + (((hy j15) - (hy a)) * ((hy j15) - (hy b)))) + (((hz j15) - (hz a)) * ((hz j15) - (hz b))))), (6, .long ((((acx hy hz a b j15) * (F.2.1 f)) + ((acx hz hx a b j15) * (F.2.2.1 f))) + ((acx hx hy a b j15) * (F.2.2.2.1 f)))), (0, .ref (ad 0)), (1, .int (nI f)), (2, .int (nI a)), (3, .int (nI b))]) 7 dX4_goesOn_215 rfl (nI_1 _) (by decide) rfl ?_
                      refine k_goto C 15 dX4_goesOn_218 (by decide) ?_
                      have e353_0 : (nI 1) = (b2i (gonP F hx hy hz f a b (j15 + 1))) := by simp [gonP_s, okB, lft, btw, b2i, nI0, nI1, h_10, h_11, h_12, h_13, h_14, h_15, h_16, h_17]
                      exact k_lv [4, 5, 6, 7, 1, 0] (by rw [← e353_0]; rfl) (ih15 (j15 + 1) (acx hy hz a b j15) (acx hz hx a b j15) (acx hx hy a b j15) (by omega) (by omega))
set_option maxHeartbeats 4000000 in
set_option maxRecDepth 100000 in
theorem c4_behind (l : Launch) (D : va_G) (cI cJ cF cD : ClassId) {ad : Nat → Nat} {thr pts blt bds egs : Int32} {tx ty tz : Int64} {xs ys zs szs crn odr nds lfs rts far : Nat → Int32} {hx hy hz : Nat → Int64} {F : FT} {nh f a : Nat} (hh : nh ≤ 24) (hf : f < 64) (ha : a < nh) : CtI l D (tyG cI cJ cF cD) yX4_behind wsX4_behind ({ frames := 2, cells := 0, slots := 0, locals := 64 }) [.ref (ad 0), .int (nI f), .int (nI a)] (wM ad cI cJ thr pts blt bds (nI nh) (nI F.1) egs tx ty tz xs ys zs szs crn odr nds lfs rts far hx hy hz F.2.1 F.2.2.1 F.2.2.2.1 F.2.2.2.2) (fun r w => ∃ t1 t2 t3 : Int64, r = bhd F nh hx hy hz f a ∧ w = (wM ad cI cJ thr pts blt bds (nI nh) (nI F.1) egs t1 t2 t3 xs ys zs szs crn odr nds lfs rts far hx hy hz F.2.1 F.2.2.1 F.2.2.2.1 F.2.2.2.2)) := by
  refine ctI_of (cc := cX4_behind) (maxL := 4) (by decide) rfl (Nat.le_of_ble_eq_true rfl) ?_
  intro X hXl hXd C hret
  have lk0 : Cond.fieldLink RX4 98 "HullBuilderModel" "held" "I" ∈ wsX4_behind := by decide +kernel
  have hinX4 : ∀ w ∈ wsX40, w ∈ wsX4_behind := by decide +kernel
  show Kw X 0 0 (wM ad cI cJ thr pts blt bds (nI nh) (nI F.1) egs tx ty tz xs ys zs szs crn odr nds lfs rts far hx hy hz F.2.1 F.2.2.1 F.2.2.2.1 F.2.2.2.2) 0 [(0, .ref (ad 0)), (1, .int (nI f)), (2, .int (nI a))] []
  refine k_iconst C (v := (nI 0)) dX4_behind_0 (by decide) ?_
  refine k_istore_n C (lv' := [(3, .int (nI 0)), (0, .ref (ad 0)), (1, .int (nI f)), (2, .int (nI a))]) dX4_behind_1 rfl (by decide) rfl ?_
  suffices L2 : ∀ (n2 j2 : Nat) (t1 : Int64) (t2 : Int64) (t3 : Int64), j2 ≤ nh → nh + 1 ≤ j2 + n2 → fstI nh (stpB F nh hx hy hz f a) (nh + 1 - j2) j2 = bhd F nh hx hy hz f a → Kw X 0 0 (wM ad cI cJ thr pts blt bds (nI nh) (nI F.1) egs t1 t2 t3 xs ys zs szs crn odr nds lfs rts far hx hy hz F.2.1 F.2.2.1 F.2.2.2.1 F.2.2.2.2) 2 [(0, .ref (ad 0)), (1, .int (nI f)), (2, .int (nI a)), (3, .int (nI j2))] [] by
    exact k_lv [1, 2, 3, 0] rfl (L2 (nh + 1) 0 tx ty tz (by omega) (by omega) rfl)
  intro n2
  induction n2 with
  | zero => intro j2 t1 t2 t3 a1 a2; exact absurd a2 (by omega)
  | succ n2 ih2 =>
    intro j2 t1 t2 t3 b2 c2 g2_0
    refine k_iload_n C 3 dX4_behind_2 rfl rfl ?_
    refine k_aload_n C 0 dX4_behind_3 rfl rfl ?_
    refine k_get C hinX4 0 7 rfl rfl (by decide) lk0 rfl rfl dX4_behind_4 ?_
    refine k_icmp_geN C (by omega) (by omega) 37 dX4_behind_7 (by decide) (fun h_1 => ?_) (fun h_1 => ?_)
    · refine k_iconst C (v := (-1)) dX4_behind_37 (by decide) ?_
      exact hret _ _ _ _ (⟨_, _, _, by rw [← g2_0]; first | rw [show nh + 1 - j2 = (nh - j2) + 1 by omega, fstI, if_pos (by omega), if_pos (by simp [stpB, h_1])] | rw [show nh + 1 - j2 = 0 + 1 by omega, fstI, if_neg (by omega)], rfl⟩) dX4_behind_38
    · refine k_aload_n C 0 dX4_behind_10 rfl rfl ?_
      refine k_iload_n C 1 dX4_behind_11 rfl rfl ?_
      refine k_iload_n C 3 dX4_behind_12 rfl rfl ?_
      refine k_callVI C (ar := 2) (As := [.int (nI f), .int (nI j2)]) (rest := []) (c4_in (kxL X) (kxD X) cI cJ cF cD (by omega) (by omega)) gX4_behind_X4_in rfl rfl rfl (by decide +kernel) ⟨Nat.le_of_ble_eq_true rfl, Nat.le_of_ble_eq_true rfl⟩ 0 rfl rfl rfl rfl (Nat.le_of_ble_eq_true rfl) dX4_behind_13 (Nat.zero_le _) (Nat.zero_le _) (fun r w hw => ?_)
      obtain ⟨rfl, rfl⟩ := hw
      refine k_if_eqB C 31 dX4_behind_16 (by decide) (fun h_2 => ?_) (fun h_2 => ?_)
      · refine k_iinc C (v := (nI (j2 + 1))) (lv' := [(3, .int (nI (j2 + 1))), (0, .ref (ad 0)), (1, .int (nI f)), (2, .int (nI a))]) 3 dX4_behind_31 rfl (nI_1 _) (by decide) rfl ?_
        refine k_goto C 2 dX4_behind_34 (by decide) ?_
        exact k_lv [1, 2, 3, 0] rfl (ih2 (j2 + 1) t1 t2 t3 (by omega) (by omega) (by rw [← g2_0, show nh + 1 - j2 = (nh + 1 - (j2 + 1)) + 1 by omega, fstI, if_pos (by omega), if_neg (by simp [stpB, h_1, h_2])]))
      · refine k_aload_n C 0 dX4_behind_19 rfl rfl ?_
        refine k_iload_n C 1 dX4_behind_20 rfl rfl ?_
        refine k_iload_n C 2 dX4_behind_21 rfl rfl ?_
        refine k_iload_n C 3 dX4_behind_22 rfl rfl ?_
        refine k_callVI C (ar := 3) (As := [.int (nI f), .int (nI a), .int (nI j2)]) (rest := []) (c4_goesOn (kxL X) (kxD X) cI cJ cF cD (by omega) (by omega) (by omega) (by omega)) gX4_behind_X4_goesOn rfl rfl rfl (by decide +kernel) ⟨Nat.le_of_ble_eq_true rfl, Nat.le_of_ble_eq_true rfl⟩ 0 rfl rfl rfl rfl (Nat.le_of_ble_eq_true rfl) dX4_behind_23 (Nat.zero_le _) (Nat.zero_le _) (fun r w hw => ?_)
        obtain ⟨t1_1, t2_1, t3_1, rfl, rfl⟩ := hw
        refine k_if_eqB C 31 dX4_behind_26 (by decide) (fun h_3 => ?_) (fun h_3 => ?_)
        · refine k_iinc C (v := (nI (j2 + 1))) (lv' := [(3, .int (nI (j2 + 1))), (0, .ref (ad 0)), (1, .int (nI f)), (2, .int (nI a))]) 3 dX4_behind_31 rfl (nI_1 _) (by decide) rfl ?_
          refine k_goto C 2 dX4_behind_34 (by decide) ?_
          exact k_lv [1, 2, 3, 0] rfl (ih2 (j2 + 1) t1_1 t2_1 t3_1 (by omega) (by omega) (by rw [← g2_0, show nh + 1 - j2 = (nh + 1 - (j2 + 1)) + 1 by omega, fstI, if_pos (by omega), if_neg (by simp [stpB, h_1, h_2, h_3])]))
        · refine k_iload_n C 3 dX4_behind_29 rfl rfl ?_
          exact hret _ _ _ _ (⟨_, _, _, by rw [← g2_0]; first | rw [show nh + 1 - j2 = (nh - j2) + 1 by omega, fstI, if_pos (by omega), if_pos (by simp [stpB, h_1, h_2, h_3])] | rw [show nh + 1 - j2 = 0 + 1 by omega, fstI, if_neg (by omega)], rfl⟩) dX4_behind_30
