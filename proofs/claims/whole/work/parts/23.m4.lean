/-! ===== HullBuilderModel: its contracts, 4 ===== -/
set_option maxHeartbeats 4000000 in
set_option maxRecDepth 100000 in
theorem c4_volumeOf (l : Launch) (D : va_G) (cI cJ cF cD : ClassId) {ad : Nat → Nat} {thr pts blt bds hld fcs egs : Int32} {tx ty tz : Int64} {xs ys zs szs crn odr nds lfs rts far : Nat → Int32} {hx hy hz nx ny nz ofs : Nat → Int64} {a b c d : Nat} (ha : a < 24) (hb : b < 24) (hc : c < 24) (hd : d < 24) : CtL l D (tyG cI cJ cF cD) yX4_volumeOf wsX4_volumeOf ({ frames := 0, cells := 0, slots := 0, locals := 0 }) [.ref (ad 0), .int (nI a), .int (nI b), .int (nI c), .int (nI d)] (wM ad cI cJ thr pts blt bds hld fcs egs tx ty tz xs ys zs szs crn odr nds lfs rts far hx hy hz nx ny nz ofs) (fun r w => r = (vlL xs ys zs a b c d) ∧ w = (wM ad cI cJ thr pts blt bds hld fcs egs tx ty tz xs ys zs szs crn odr nds lfs rts far hx hy hz nx ny nz ofs)) := by
  refine ctL_of (cc := cX4_volumeOf) (maxL := 23) (by decide) rfl (Nat.le_of_ble_eq_true rfl) ?_
  intro X hXl hXd C hret
  have lk0 : Cond.fieldLink RX4 7 "HullBuilderModel" "xs" "[I" ∈ wsX4_volumeOf := by decide +kernel
  have hinX4 : ∀ w ∈ wsX40, w ∈ wsX4_volumeOf := by decide +kernel
  have lk2 : Cond.fieldLink RX4 13 "HullBuilderModel" "ys" "[I" ∈ wsX4_volumeOf := by decide +kernel
  have lk3 : Cond.fieldLink RX4 16 "HullBuilderModel" "zs" "[I" ∈ wsX4_volumeOf := by decide +kernel
  show Kw X 0 0 (wM ad cI cJ thr pts blt bds hld fcs egs tx ty tz xs ys zs szs crn odr nds lfs rts far hx hy hz nx ny nz ofs) 0 [(0, .ref (ad 0)), (1, .int (nI a)), (2, .int (nI b)), (3, .int (nI c)), (4, .int (nI d))] []
  refine k_aload_n C 0 dX4_volumeOf_0 rfl rfl ?_
  refine k_get C hinX4 0 2 rfl rfl (by decide) lk0 rfl rfl dX4_volumeOf_1 ?_
  refine k_iload_n C 2 dX4_volumeOf_4 rfl rfl ?_
  refine k_iald C (j := b) 1 0 rfl rfl (by omega) (by decide) dX4_volumeOf_5 ?_
  refine k_aload_n C 0 dX4_volumeOf_6 rfl rfl ?_
  refine k_get C hinX4 0 2 rfl rfl (by decide) lk0 rfl rfl dX4_volumeOf_7 ?_
  refine k_iload_n C 1 dX4_volumeOf_10 rfl rfl ?_
  refine k_iald C (j := a) 1 0 rfl rfl (by omega) (by decide) dX4_volumeOf_11 ?_
  refine k_isub C dX4_volumeOf_12 ?_
  refine k_i2l C dX4_volumeOf_13 ?_
  refine k_lstore C (lv' := [(5, .long (((xs b) - (xs a)).toInt64)), (0, .ref (ad 0)), (1, .int (nI a)), (2, .int (nI b)), (3, .int (nI c)), (4, .int (nI d))]) dX4_volumeOf_14 (by decide) rfl ?_
  refine k_aload_n C 1 dX4_volumeOf_16 rfl rfl ?_
  refine k_get C hinX4 0 3 rfl rfl (by decide) lk2 rfl rfl dX4_volumeOf_17 ?_
  refine k_iload_n C 3 dX4_volumeOf_20 rfl rfl ?_
  refine k_iald C (j := b) 2 0 rfl rfl (by omega) (by decide) dX4_volumeOf_21 ?_
  refine k_aload_n C 1 dX4_volumeOf_22 rfl rfl ?_
  refine k_get C hinX4 0 3 rfl rfl (by decide) lk2 rfl rfl dX4_volumeOf_23 ?_
  refine k_iload_n C 2 dX4_volumeOf_26 rfl rfl ?_
  refine k_iald C (j := a) 2 0 rfl rfl (by omega) (by decide) dX4_volumeOf_27 ?_
  refine k_isub C dX4_volumeOf_28 ?_
  refine k_i2l C dX4_volumeOf_29 ?_
  refine k_lstore C (lv' := [(7, .long (((ys b) - (ys a)).toInt64)), (5, .long (((xs b) - (xs a)).toInt64)), (0, .ref (ad 0)), (1, .int (nI a)), (2, .int (nI b)), (3, .int (nI c)), (4, .int (nI d))]) dX4_volumeOf_30 (by decide) rfl ?_
  refine k_aload_n C 2 dX4_volumeOf_32 rfl rfl ?_
  refine k_get C hinX4 0 4 rfl rfl (by decide) lk3 rfl rfl dX4_volumeOf_33 ?_
  refine k_iload_n C 4 dX4_volumeOf_36 rfl rfl ?_
  refine k_iald C (j := b) 3 0 rfl rfl (by omega) (by decide) dX4_volumeOf_37 ?_
  refine k_aload_n C 2 dX4_volumeOf_38 rfl rfl ?_
  refine k_get C hinX4 0 4 rfl rfl (by decide) lk3 rfl rfl dX4_volumeOf_39 ?_
  refine k_iload_n C 3 dX4_volumeOf_42 rfl rfl ?_
  refine k_iald C (j := a) 3 0 rfl rfl (by omega) (by decide) dX4_volumeOf_43 ?_
  refine k_isub C dX4_volumeOf_44 ?_
  refine k_i2l C dX4_volumeOf_45 ?_
  refine k_lstore C (lv' := [(9, .long (((zs b) - (zs a)).toInt64)), (7, .long (((ys b) - (ys a)).toInt64)), (5, .long (((xs b) - (xs a)).toInt64)), (0, .ref (ad 0)), (1, .int (nI a)), (2, .int (nI b)), (3, .int (nI c)), (4, .int (nI d))]) dX4_volumeOf_46 (by decide) rfl ?_
  refine k_aload_n C 3 dX4_volumeOf_48 rfl rfl ?_
  refine k_get C hinX4 0 2 rfl rfl (by decide) lk0 rfl rfl dX4_volumeOf_49 ?_
  refine k_iload_n C 6 dX4_volumeOf_52 rfl rfl ?_
  refine k_iald C (j := c) 1 0 rfl rfl (by omega) (by decide) dX4_volumeOf_53 ?_
  refine k_aload_n C 3 dX4_volumeOf_54 rfl rfl ?_
  refine k_get C hinX4 0 2 rfl rfl (by decide) lk0 rfl rfl dX4_volumeOf_55 ?_
  refine k_iload_n C 4 dX4_volumeOf_58 rfl rfl ?_
  refine k_iald C (j := a) 1 0 rfl rfl (by omega) (by decide) dX4_volumeOf_59 ?_
  refine k_isub C dX4_volumeOf_60 ?_
  refine k_i2l C dX4_volumeOf_61 ?_
  refine k_lstore C (lv' := [(11, .long (((xs c) - (xs a)).toInt64)), (9, .long (((zs b) - (zs a)).toInt64)), (7, .long (((ys b) - (ys a)).toInt64)), (5, .long (((xs b) - (xs a)).toInt64)), (0, .ref (ad 0)), (1, .int (nI a)), (2, .int (nI b)), (3, .int (nI c)), (4, .int (nI d))]) dX4_volumeOf_62 (by decide) rfl ?_
  refine k_aload_n C 4 dX4_volumeOf_64 rfl rfl ?_
  refine k_get C hinX4 0 3 rfl rfl (by decide) lk2 rfl rfl dX4_volumeOf_65 ?_
  refine k_iload_n C 7 dX4_volumeOf_68 rfl rfl ?_
  refine k_iald C (j := c) 2 0 rfl rfl (by omega) (by decide) dX4_volumeOf_69 ?_
  refine k_aload_n C 4 dX4_volumeOf_70 rfl rfl ?_
  refine k_get C hinX4 0 3 rfl rfl (by decide) lk2 rfl rfl dX4_volumeOf_71 ?_
  refine k_iload_n C 5 dX4_volumeOf_74 rfl rfl ?_
  refine k_iald C (j := a) 2 0 rfl rfl (by omega) (by decide) dX4_volumeOf_75 ?_
  refine k_isub C dX4_volumeOf_76 ?_
  refine k_i2l C dX4_volumeOf_77 ?_
  refine k_lstore C (lv' := [(13, .long (((ys c) - (ys a)).toInt64)), (11, .long (((xs c) - (xs a)).toInt64)), (9, .long (((zs b) - (zs a)).toInt64)), (7, .long (((ys b) - (ys a)).toInt64)), (5, .long (((xs b) - (xs a)).toInt64)), (0, .ref (ad 0)), (1, .int (nI a)), (2, .int (nI b)), (3, .int (nI c)), (4, .int (nI d))]) dX4_volumeOf_78 (by decide) rfl ?_
  refine k_aload_n C 5 dX4_volumeOf_80 rfl rfl ?_
  refine k_get C hinX4 0 4 rfl rfl (by decide) lk3 rfl rfl dX4_volumeOf_81 ?_
  refine k_iload_n C 8 dX4_volumeOf_84 rfl rfl ?_
  refine k_iald C (j := c) 3 0 rfl rfl (by omega) (by decide) dX4_volumeOf_85 ?_
  refine k_aload_n C 5 dX4_volumeOf_86 rfl rfl ?_
  refine k_get C hinX4 0 4 rfl rfl (by decide) lk3 rfl rfl dX4_volumeOf_87 ?_
  refine k_iload_n C 6 dX4_volumeOf_90 rfl rfl ?_
  refine k_iald C (j := a) 3 0 rfl rfl (by omega) (by decide) dX4_volumeOf_91 ?_
  refine k_isub C dX4_volumeOf_92 ?_
  refine k_i2l C dX4_volumeOf_93 ?_
  refine k_lstore C (lv' := [(15, .long (((zs c) - (zs a)).toInt64)), (13, .long (((ys c) - (ys a)).toInt64)), (11, .long (((xs c) - (xs a)).toInt64)), (9, .long (((zs b) - (zs a)).toInt64)), (7, .long (((ys b) - (ys a)).toInt64)), (5, .long (((xs b) - (xs a)).toInt64)), (0, .ref (ad 0)), (1, .int (nI a)), (2, .int (nI b)), (3, .int (nI c)), (4, .int (nI d))]) dX4_volumeOf_94 (by decide) rfl ?_
  refine k_aload_n C 6 dX4_volumeOf_96 rfl rfl ?_
  refine k_get C hinX4 0 2 rfl rfl (by decide) lk0 rfl rfl dX4_volumeOf_97 ?_
  refine k_iload C 10 dX4_volumeOf_100 rfl ?_
  refine k_iald C (j := d) 1 0 rfl rfl (by omega) (by decide) dX4_volumeOf_102 ?_
  refine k_aload_n C 6 dX4_volumeOf_103 rfl rfl ?_
  refine k_get C hinX4 0 2 rfl rfl (by decide) lk0 rfl rfl dX4_volumeOf_104 ?_
  refine k_iload_n C 7 dX4_volumeOf_107 rfl rfl ?_
  refine k_iald C (j := a) 1 0 rfl rfl (by omega) (by decide) dX4_volumeOf_108 ?_
  refine k_isub C dX4_volumeOf_109 ?_
  refine k_i2l C dX4_volumeOf_110 ?_
  refine k_lstore C (lv' := [(17, .long (((xs d) - (xs a)).toInt64)), (15, .long (((zs c) - (zs a)).toInt64)), (13, .long (((ys c) - (ys a)).toInt64)), (11, .long (((xs c) - (xs a)).toInt64)), (9, .long (((zs b) - (zs a)).toInt64)), (7, .long (((ys b) - (ys a)).toInt64)), (5, .long (((xs b) - (xs a)).toInt64)), (0, .ref (ad 0)), (1, .int (nI a)), (2, .int (nI b)), (3, .int (nI c)), (4, .int (nI d))]) dX4_volumeOf_111 (by decide) rfl ?_
  refine k_aload_n C 7 dX4_volumeOf_113 rfl rfl ?_
  refine k_get C hinX4 0 3 rfl rfl (by decide) lk2 rfl rfl dX4_volumeOf_114 ?_
  refine k_iload C 11 dX4_volumeOf_117 rfl ?_
  refine k_iald C (j := d) 2 0 rfl rfl (by omega) (by decide) dX4_volumeOf_119 ?_
  refine k_aload_n C 7 dX4_volumeOf_120 rfl rfl ?_
  refine k_get C hinX4 0 3 rfl rfl (by decide) lk2 rfl rfl dX4_volumeOf_121 ?_
  refine k_iload_n C 8 dX4_volumeOf_124 rfl rfl ?_
  refine k_iald C (j := a) 2 0 rfl rfl (by omega) (by decide) dX4_volumeOf_125 ?_
  refine k_isub C dX4_volumeOf_126 ?_
  refine k_i2l C dX4_volumeOf_127 ?_
  refine k_lstore C (lv' := [(19, .long (((ys d) - (ys a)).toInt64)), (17, .long (((xs d) - (xs a)).toInt64)), (15, .long (((zs c) - (zs a)).toInt64)), (13, .long (((ys c) - (ys a)).toInt64)), (11, .long (((xs c) - (xs a)).toInt64)), (9, .long (((zs b) - (zs a)).toInt64)), (7, .long (((ys b) - (ys a)).toInt64)), (5, .long (((xs b) - (xs a)).toInt64)), (0, .ref (ad 0)), (1, .int (nI a)), (2, .int (nI b)), (3, .int (nI c)), (4, .int (nI d))]) dX4_volumeOf_128 (by decide) rfl ?_
  refine k_aload_n C 8 dX4_volumeOf_130 rfl rfl ?_
  refine k_get C hinX4 0 4 rfl rfl (by decide) lk3 rfl rfl dX4_volumeOf_131 ?_
  refine k_iload C 12 dX4_volumeOf_134 rfl ?_
  refine k_iald C (j := d) 3 0 rfl rfl (by omega) (by decide) dX4_volumeOf_136 ?_
  refine k_aload_n C 8 dX4_volumeOf_137 rfl rfl ?_
  refine k_get C hinX4 0 4 rfl rfl (by decide) lk3 rfl rfl dX4_volumeOf_138 ?_
  refine k_iload_n C 9 dX4_volumeOf_141 rfl rfl ?_
  refine k_iald C (j := a) 3 0 rfl rfl (by omega) (by decide) dX4_volumeOf_142 ?_
  refine k_isub C dX4_volumeOf_143 ?_
  refine k_i2l C dX4_volumeOf_144 ?_
  refine k_lstore C (lv' := [(21, .long (((zs d) - (zs a)).toInt64)), (19, .long (((ys d) - (ys a)).toInt64)), (17, .long (((xs d) - (xs a)).toInt64)), (15, .long (((zs c) - (zs a)).toInt64)), (13, .long (((ys c) - (ys a)).toInt64)), (11, .long (((xs c) - (xs a)).toInt64)), (9, .long (((zs b) - (zs a)).toInt64)), (7, .long (((ys b) - (ys a)).toInt64)), (5, .long (((xs b) - (xs a)).toInt64)), (0, .ref (ad 0)), (1, .int (nI a)), (2, .int (nI b)), (3, .int (nI c)), (4, .int (nI d))]) dX4_volumeOf_145 (by decide) rfl ?_
  refine k_lload C 7 dX4_volumeOf_147 rfl ?_
  refine k_lload C 3 dX4_volumeOf_149 rfl ?_
  refine k_lmul C dX4_volumeOf_151 ?_
  refine k_lload C 6 dX4_volumeOf_152 rfl ?_
  refine k_lload C 4 dX4_volumeOf_154 rfl ?_
  refine k_lmul C dX4_volumeOf_156 ?_
  refine k_lsub C dX4_volumeOf_157 ?_
  refine k_lload C 2 dX4_volumeOf_158 rfl ?_
  refine k_lmul C dX4_volumeOf_160 ?_
  refine k_lload C 6 dX4_volumeOf_161 rfl ?_
  refine k_lload C 5 dX4_volumeOf_163 rfl ?_
  refine k_lmul C dX4_volumeOf_165 ?_
  refine k_lload C 8 dX4_volumeOf_166 rfl ?_
  refine k_lload C 3 dX4_volumeOf_168 rfl ?_
  refine k_lmul C dX4_volumeOf_170 ?_
  refine k_lsub C dX4_volumeOf_171 ?_
  refine k_lload C 1 dX4_volumeOf_172 rfl ?_
  refine k_lmul C dX4_volumeOf_174 ?_
  refine k_ladd C dX4_volumeOf_175 ?_
  refine k_lload C 8 dX4_volumeOf_176 rfl ?_
  refine k_lload C 4 dX4_volumeOf_178 rfl ?_
  refine k_lmul C dX4_volumeOf_180 ?_
  refine k_lload C 7 dX4_volumeOf_181 rfl ?_
  refine k_lload C 5 dX4_volumeOf_183 rfl ?_
  refine k_lmul C dX4_volumeOf_185 ?_
  refine k_lsub C dX4_volumeOf_186 ?_
  refine k_lload C 0 dX4_volumeOf_187 rfl ?_
  refine k_lmul C dX4_volumeOf_189 ?_
  refine k_ladd C dX4_volumeOf_190 ?_
  exact hret _ _ _ _ ⟨rfl, rfl⟩ dX4_volumeOf_191
set_option maxHeartbeats 4000000 in
set_option maxRecDepth 100000 in
theorem c4_solid (l : Launch) (D : va_G) (cI cJ cF cD : ClassId) {ad : Nat → Nat} {thr blt bds hld fcs egs : Int32} {tx ty tz : Int64} {xs ys zs szs crn odr nds lfs rts far : Nat → Int32} {hx hy hz nx ny nz ofs : Nat → Int64} {np : Nat} (hnp : np ≤ 24) : CtI l D (tyG cI cJ cF cD) yX4_solid wsX4_solid ({ frames := 1, cells := 0, slots := 0, locals := 42 }) [.ref (ad 0)] (wM ad cI cJ thr (nI np) blt bds hld fcs egs tx ty tz xs ys zs szs crn odr nds lfs rts far hx hy hz nx ny nz ofs) (fun r w => r = (b2i (sldB np xs ys zs)) ∧ w = (wM ad cI cJ thr (nI np) blt bds hld fcs egs tx ty tz xs ys zs szs crn odr nds lfs rts far hx hy hz nx ny nz ofs)) := by
  refine ctZ_of (cc := cX4_solid) (maxL := 6) (by decide) rfl (Nat.le_of_ble_eq_true rfl) (fun r w h => h.1 ▸ b2i_01 _) ?_
  intro X hXl hXd C hret
  have lk0 : Cond.fieldLink RX4 66 "HullBuilderModel" "points" "I" ∈ wsX4_solid := by decide +kernel
  have hinX4 : ∀ w ∈ wsX40, w ∈ wsX4_solid := by decide +kernel
  show Kw X 0 0 (wM ad cI cJ thr (nI np) blt bds hld fcs egs tx ty tz xs ys zs szs crn odr nds lfs rts far hx hy hz nx ny nz ofs) 0 [(0, .ref (ad 0))] []
  refine k_iconst C (v := (nI 0)) dX4_solid_0 (by decide) ?_
  refine k_istore_n C (lv' := [(1, .int (nI 0)), (0, .ref (ad 0))]) dX4_solid_1 rfl (by decide) rfl ?_
  refine k_iconst C (v := (nI 0)) dX4_solid_2 (by decide) ?_
  refine k_istore_n C (lv' := [(2, .int (nI 0)), (1, .int (nI 0)), (0, .ref (ad 0))]) dX4_solid_3 rfl (by decide) rfl ?_
  suffices L4 : ∀ (n4 j4 : Nat), j4 ≤ np → np + 1 ≤ j4 + n4 → Kw X 0 0 (wM ad cI cJ thr (nI np) blt bds hld fcs egs tx ty tz xs ys zs szs crn odr nds lfs rts far hx hy hz nx ny nz ofs) 4 [(0, .ref (ad 0)), (1, .int (b2i (slA (vlL xs ys zs) np j4))), (2, .int (nI j4))] [] by
    have e5_0 : (nI 0) = (b2i (slA (vlL xs ys zs) np 0)) := rfl
    exact k_lv [2, 1, 0] (by rw [← e5_0]; rfl) (L4 (np + 1) 0 (by omega) (by omega))
  intro n4
  induction n4 with
  | zero => intro j4 a1 a2; exact absurd a2 (by omega)
  | succ n4 ih4 =>
    intro j4 b4 c4
    refine k_iload_n C 2 dX4_solid_4 rfl rfl ?_
    refine k_aload_n C 0 dX4_solid_5 rfl rfl ?_
    refine k_get C hinX4 0 1 rfl rfl (by decide) lk0 rfl rfl dX4_solid_6 ?_
    refine k_icmp_geN C (by omega) (by omega) 102 dX4_solid_9 (by decide) (fun h_1 => ?_) (fun h_1 => ?_)
    · refine k_iload_n C 1 dX4_solid_102 rfl rfl ?_
      exact hret _ _ _ _ ⟨by rw [show j4 = np by omega]; rfl, rfl⟩ dX4_solid_103
    · refine k_iload_n C 2 dX4_solid_12 rfl rfl ?_
      refine k_iconst C (v := (nI 1)) dX4_solid_13 (by decide) ?_
      refine k_iaddN C dX4_solid_14 ?_
      refine k_istore_n C (lv' := [(3, .int (nI (j4 + 1))), (0, .ref (ad 0)), (1, .int (b2i (slA (vlL xs ys zs) np j4))), (2, .int (nI j4))]) dX4_solid_15 rfl (by decide) rfl ?_
      suffices L16 : ∀ (n16 j16 : Nat), j16 ≤ np → np + 1 ≤ j16 + n16 → j4 + 1 ≤ j16 → Kw X 0 0 (wM ad cI cJ thr (nI np) blt bds hld fcs egs tx ty tz xs ys zs szs crn odr nds lfs rts far hx hy hz nx ny nz ofs) 16 [(0, .ref (ad 0)), (1, .int (b2i (slA (vlL xs ys zs) np j4 || slB (vlL xs ys zs) np j4 (j16 - (j4 + 1))))), (2, .int (nI j4)), (3, .int (nI j16))] [] by
        have e24_0 : (b2i (slA (vlL xs ys zs) np j4)) = (b2i (slA (vlL xs ys zs) np j4 || slB (vlL xs ys zs) np j4 ((j4 + 1) - (j4 + 1)))) := by rw [Nat.sub_self]; simp [slA, slB, slC, slD, anyB]
        exact k_lv [1, 2, 3, 0] (by rw [← e24_0]; rfl) (L16 (np + 1) (j4 + 1) (by omega) (by omega) (Nat.le_refl _))
      intro n16
      induction n16 with
      | zero => intro j16 a1 a2; exact absurd a2 (by omega)
      | succ n16 ih16 =>
        intro j16 b16 c16 g16_0
        refine k_iload_n C 3 dX4_solid_16 rfl rfl ?_
        refine k_aload_n C 0 dX4_solid_17 rfl rfl ?_
        refine k_get C hinX4 0 1 rfl rfl (by decide) lk0 rfl rfl dX4_solid_18 ?_
        refine k_icmp_geN C (by omega) (by omega) 96 dX4_solid_21 (by decide) (fun h_2 => ?_) (fun h_2 => ?_)
        · refine k_iinc C (v := (nI (j4 + 1))) (lv' := [(2, .int (nI (j4 + 1))), (0, .ref (ad 0)), (1, .int (b2i (slA (vlL xs ys zs) np j4 || slB (vlL xs ys zs) np j4 (j16 - (j4 + 1))))), (3, .int (nI j16))]) 2 dX4_solid_96 rfl (nI_1 _) (by decide) rfl ?_
          refine k_goto C 4 dX4_solid_99 (by decide) ?_
          have e38_0 : (b2i (slA (vlL xs ys zs) np j4 || slB (vlL xs ys zs) np j4 (j16 - (j4 + 1)))) = (b2i (slA (vlL xs ys zs) np (j4 + 1))) := by rw [slA_s, show np - (j4 + 1) = j16 - (j4 + 1) by omega]
          exact k_lv [1, 2, 0] (by rw [← e38_0]; rfl) (ih4 (j4 + 1) (by omega) (by omega))
        · refine k_iload_n C 3 dX4_solid_24 rfl rfl ?_
          refine k_iconst C (v := (nI 1)) dX4_solid_25 (by decide) ?_
          refine k_iaddN C dX4_solid_26 ?_
          refine k_istore C (lv' := [(4, .int (nI (j16 + 1))), (0, .ref (ad 0)), (1, .int (b2i (slA (vlL xs ys zs) np j4 || slB (vlL xs ys zs) np j4 (j16 - (j4 + 1))))), (2, .int (nI j4)), (3, .int (nI j16))]) dX4_solid_27 (by decide) rfl ?_
          suffices L29 : ∀ (n29 j29 : Nat), j29 ≤ np → np + 1 ≤ j29 + n29 → j16 + 1 ≤ j29 → Kw X 0 0 (wM ad cI cJ thr (nI np) blt bds hld fcs egs tx ty tz xs ys zs szs crn odr nds lfs rts far hx hy hz nx ny nz ofs) 29 [(0, .ref (ad 0)), (1, .int (b2i ((slA (vlL xs ys zs) np j4 || slB (vlL xs ys zs) np j4 (j16 - (j4 + 1))) || slC (vlL xs ys zs) np j4 j16 (j29 - (j16 + 1))))), (2, .int (nI j4)), (3, .int (nI j16)), (4, .int (nI j29))] [] by
            have e45_0 : (b2i (slA (vlL xs ys zs) np j4 || slB (vlL xs ys zs) np j4 (j16 - (j4 + 1)))) = (b2i ((slA (vlL xs ys zs) np j4 || slB (vlL xs ys zs) np j4 (j16 - (j4 + 1))) || slC (vlL xs ys zs) np j4 j16 ((j16 + 1) - (j16 + 1)))) := by rw [Nat.sub_self]; simp [slA, slB, slC, slD, anyB]
            exact k_lv [1, 2, 3, 4, 0] (by rw [← e45_0]; rfl) (L29 (np + 1) (j16 + 1) (by omega) (by omega) (Nat.le_refl _))
          intro n29
          induction n29 with
          | zero => intro j29 a1 a2; exact absurd a2 (by omega)
          | succ n29 ih29 =>
            intro j29 b29 c29 g29_0
            refine k_iload C 4 dX4_solid_29 rfl ?_
            refine k_aload_n C 0 dX4_solid_31 rfl rfl ?_
            refine k_get C hinX4 0 1 rfl rfl (by decide) lk0 rfl rfl dX4_solid_32 ?_
            refine k_icmp_geN C (by omega) (by omega) 90 dX4_solid_35 (by decide) (fun h_3 => ?_) (fun h_3 => ?_)
            · refine k_iinc C (v := (nI (j16 + 1))) (lv' := [(3, .int (nI (j16 + 1))), (0, .ref (ad 0)), (1, .int (b2i ((slA (vlL xs ys zs) np j4 || slB (vlL xs ys zs) np j4 (j16 - (j4 + 1))) || slC (vlL xs ys zs) np j4 j16 (j29 - (j16 + 1))))), (2, .int (nI j4)), (4, .int (nI j29))]) 3 dX4_solid_90 rfl (nI_1 _) (by decide) rfl ?_
              refine k_goto C 16 dX4_solid_93 (by decide) ?_
              have e59_0 : (b2i ((slA (vlL xs ys zs) np j4 || slB (vlL xs ys zs) np j4 (j16 - (j4 + 1))) || slC (vlL xs ys zs) np j4 j16 (j29 - (j16 + 1)))) = (b2i (slA (vlL xs ys zs) np j4 || slB (vlL xs ys zs) np j4 ((j16 + 1) - (j4 + 1)))) := by rw [slB_s _ _ _ _ g16_0, ← Bool.or_assoc, show np - (j16 + 1) = j29 - (j16 + 1) by omega]
              exact k_lv [1, 2, 3, 0] (by rw [← e59_0]; rfl) (ih16 (j16 + 1) (by omega) (by omega) (by omega))
            · refine k_iload C 4 dX4_solid_38 rfl ?_
              refine k_iconst C (v := (nI 1)) dX4_solid_40 (by decide) ?_
              refine k_iaddN C dX4_solid_41 ?_
              refine k_istore C (lv' := [(5, .int (nI (j29 + 1))), (0, .ref (ad 0)), (1, .int (b2i ((slA (vlL xs ys zs) np j4 || slB (vlL xs ys zs) np j4 (j16 - (j4 + 1))) || slC (vlL xs ys zs) np j4 j16 (j29 - (j16 + 1))))), (2, .int (nI j4)), (3, .int (nI j16)), (4, .int (nI j29))]) dX4_solid_42 (by decide) rfl ?_
              suffices L44 : ∀ (n44 j44 : Nat), j44 ≤ np → np + 1 ≤ j44 + n44 → j29 + 1 ≤ j44 → Kw X 0 0 (wM ad cI cJ thr (nI np) blt bds hld fcs egs tx ty tz xs ys zs szs crn odr nds lfs rts far hx hy hz nx ny nz ofs) 44 [(0, .ref (ad 0)), (1, .int (b2i ((((slA (vlL xs ys zs) np j4 || slB (vlL xs ys zs) np j4 (j16 - (j4 + 1))) || slC (vlL xs ys zs) np j4 j16 (j29 - (j16 + 1)))) || slD (vlL xs ys zs) j4 j16 j29 (j44 - (j29 + 1))))), (2, .int (nI j4)), (3, .int (nI j16)), (4, .int (nI j29)), (5, .int (nI j44))] [] by
                have e66_0 : (b2i ((slA (vlL xs ys zs) np j4 || slB (vlL xs ys zs) np j4 (j16 - (j4 + 1))) || slC (vlL xs ys zs) np j4 j16 (j29 - (j16 + 1)))) = (b2i ((((slA (vlL xs ys zs) np j4 || slB (vlL xs ys zs) np j4 (j16 - (j4 + 1))) || slC (vlL xs ys zs) np j4 j16 (j29 - (j16 + 1)))) || slD (vlL xs ys zs) j4 j16 j29 ((j29 + 1) - (j29 + 1)))) := by rw [Nat.sub_self]; simp [slA, slB, slC, slD, anyB]
                exact k_lv [1, 2, 3, 4, 5, 0] (by rw [← e66_0]; rfl) (L44 (np + 1) (j29 + 1) (by omega) (by omega) (Nat.le_refl _))
              intro n44
              induction n44 with
              | zero => intro j44 a1 a2; exact absurd a2 (by omega)
              | succ n44 ih44 =>
                intro j44 b44 c44 g44_0
                refine k_iload C 5 dX4_solid_44 rfl ?_
                refine k_aload_n C 0 dX4_solid_46 rfl rfl ?_
                refine k_get C hinX4 0 1 rfl rfl (by decide) lk0 rfl rfl dX4_solid_47 ?_
                refine k_icmp_geN C (by omega) (by omega) 84 dX4_solid_50 (by decide) (fun h_4 => ?_) (fun h_4 => ?_)
                · have hDend : ((((slA (vlL xs ys zs) np j4 || slB (vlL xs ys zs) np j4 (j16 - (j4 + 1))) || slC (vlL xs ys zs) np j4 j16 (j29 - (j16 + 1)))) || slD (vlL xs ys zs) j4 j16 j29 (j44 - (j29 + 1))) = ((((slA (vlL xs ys zs) np j4 || slB (vlL xs ys zs) np j4 (j16 - (j4 + 1))) || slC (vlL xs ys zs) np j4 j16 (j29 - (j16 + 1)))) || slD (vlL xs ys zs) j4 j16 j29 (np - (j29 + 1))) := by
                    first
                    | (rw [show j44 = np by omega])
                    | exact sl_end (by omega) h_4
                  refine k_iinc C (v := (nI (j29 + 1))) (lv' := [(4, .int (nI (j29 + 1))), (0, .ref (ad 0)), (1, .int (b2i ((((slA (vlL xs ys zs) np j4 || slB (vlL xs ys zs) np j4 (j16 - (j4 + 1))) || slC (vlL xs ys zs) np j4 j16 (j29 - (j16 + 1)))) || slD (vlL xs ys zs) j4 j16 j29 (j44 - (j29 + 1))))), (2, .int (nI j4)), (3, .int (nI j16)), (5, .int (nI j44))]) 4 dX4_solid_84 rfl (nI_1 _) (by decide) rfl ?_
                  refine k_goto C 29 dX4_solid_87 (by decide) ?_
                  have e84_0 : (b2i ((((slA (vlL xs ys zs) np j4 || slB (vlL xs ys zs) np j4 (j16 - (j4 + 1))) || slC (vlL xs ys zs) np j4 j16 (j29 - (j16 + 1)))) || slD (vlL xs ys zs) j4 j16 j29 (j44 - (j29 + 1)))) = (b2i ((slA (vlL xs ys zs) np j4 || slB (vlL xs ys zs) np j4 (j16 - (j4 + 1))) || slC (vlL xs ys zs) np j4 j16 ((j29 + 1) - (j16 + 1)))) := by rw [slC_s _ _ _ _ _ g29_0, ← Bool.or_assoc]; exact congrArg b2i (hDend)
                  exact k_lv [1, 2, 3, 4, 0] (by rw [← e84_0]; rfl) (ih29 (j29 + 1) (by omega) (by omega) (by omega))
                · refine k_iload_n C 1 dX4_solid_53 rfl rfl ?_
                  refine k_if_neB C 84 dX4_solid_54 (by decide) (fun h_5 => ?_) (fun h_5 => ?_)
                  · have hDend : ((((slA (vlL xs ys zs) np j4 || slB (vlL xs ys zs) np j4 (j16 - (j4 + 1))) || slC (vlL xs ys zs) np j4 j16 (j29 - (j16 + 1)))) || slD (vlL xs ys zs) j4 j16 j29 (j44 - (j29 + 1))) = ((((slA (vlL xs ys zs) np j4 || slB (vlL xs ys zs) np j4 (j16 - (j4 + 1))) || slC (vlL xs ys zs) np j4 j16 (j29 - (j16 + 1)))) || slD (vlL xs ys zs) j4 j16 j29 (np - (j29 + 1))) := by
                      first
                      | (rw [show j44 = np by omega])
                      | exact sl_end (by omega) h_5
                    refine k_iinc C (v := (nI (j29 + 1))) (lv' := [(4, .int (nI (j29 + 1))), (0, .ref (ad 0)), (1, .int (b2i ((((slA (vlL xs ys zs) np j4 || slB (vlL xs ys zs) np j4 (j16 - (j4 + 1))) || slC (vlL xs ys zs) np j4 j16 (j29 - (j16 + 1)))) || slD (vlL xs ys zs) j4 j16 j29 (j44 - (j29 + 1))))), (2, .int (nI j4)), (3, .int (nI j16)), (5, .int (nI j44))]) 4 dX4_solid_84 rfl (nI_1 _) (by decide) rfl ?_
                    refine k_goto C 29 dX4_solid_87 (by decide) ?_
                    have e95_0 : (b2i ((((slA (vlL xs ys zs) np j4 || slB (vlL xs ys zs) np j4 (j16 - (j4 + 1))) || slC (vlL xs ys zs) np j4 j16 (j29 - (j16 + 1)))) || slD (vlL xs ys zs) j4 j16 j29 (j44 - (j29 + 1)))) = (b2i ((slA (vlL xs ys zs) np j4 || slB (vlL xs ys zs) np j4 (j16 - (j4 + 1))) || slC (vlL xs ys zs) np j4 j16 ((j29 + 1) - (j16 + 1)))) := by rw [slC_s _ _ _ _ _ g29_0, ← Bool.or_assoc]; exact congrArg b2i (hDend)
                    exact k_lv [1, 2, 3, 4, 0] (by rw [← e95_0]; rfl) (ih29 (j29 + 1) (by omega) (by omega) (by omega))
                  · have hsome : ((((slA (vlL xs ys zs) np j4 || slB (vlL xs ys zs) np j4 (j16 - (j4 + 1))) || slC (vlL xs ys zs) np j4 j16 (j29 - (j16 + 1)))) || slD (vlL xs ys zs) j4 j16 j29 (j44 - (j29 + 1))) = false := h_5
                    refine k_aload_n C 0 dX4_solid_57 rfl rfl ?_
                    refine k_iload_n C 2 dX4_solid_58 rfl rfl ?_
                    refine k_iload_n C 3 dX4_solid_59 rfl rfl ?_
                    refine k_iload C 4 dX4_solid_60 rfl ?_
                    refine k_iload C 5 dX4_solid_62 rfl ?_
                    refine k_callVL C (ar := 4) (As := [.int (nI j4), .int (nI j16), .int (nI j29), .int (nI j44)]) (rest := []) (c4_volumeOf (kxL X) (kxD X) cI cJ cF cD (by omega) (by omega) (by omega) (by omega)) gX4_solid_X4_volumeOf rfl rfl rfl (by decide +kernel) ⟨Nat.le_of_ble_eq_true rfl, Nat.le_of_ble_eq_true rfl⟩ 0 rfl rfl rfl rfl (Nat.le_of_ble_eq_true rfl) dX4_solid_64 (Nat.zero_le _) (Nat.zero_le _) (fun r w hw => ?_)
                    obtain ⟨rfl, rfl⟩ := hw
                    refine k_lconst C (v := 0) dX4_solid_67 (by decide) ?_
                    refine k_lc_eq C 76 dX4_solid_68 dX4_solid_69 (by decide) (fun h_6 => ?_) (fun h_6 => ?_)
                    · refine k_iconst C (v := (nI 0)) dX4_solid_76 (by decide) ?_
                      refine k_istore_n C (lv' := [(1, .int (nI 0)), (0, .ref (ad 0)), (2, .int (nI j4)), (3, .int (nI j16)), (4, .int (nI j29)), (5, .int (nI j44))]) dX4_solid_77 rfl (by decide) rfl ?_
                      refine k_iinc C (v := (nI (j44 + 1))) (lv' := [(5, .int (nI (j44 + 1))), (1, .int (nI 0)), (0, .ref (ad 0)), (2, .int (nI j4)), (3, .int (nI j16)), (4, .int (nI j29))]) 5 dX4_solid_78 rfl (nI_1 _) (by decide) rfl ?_
                      refine k_goto C 44 dX4_solid_81 (by decide) ?_
                      have e112_0 : (nI 0) = (b2i ((((slA (vlL xs ys zs) np j4 || slB (vlL xs ys zs) np j4 (j16 - (j4 + 1))) || slC (vlL xs ys zs) np j4 j16 (j29 - (j16 + 1)))) || slD (vlL xs ys zs) j4 j16 j29 ((j44 + 1) - (j29 + 1)))) := by rw [slD_s _ _ _ _ _ g44_0, ← Bool.or_assoc, hsome]; simp [b2i, nI0, nI1, h_4, h_5, h_6]
                      exact k_lv [2, 1, 3, 4, 5, 0] (by rw [← e112_0]; rfl) (ih44 (j44 + 1) (by omega) (by omega) (by omega))
                    · refine k_iconst C (v := (nI 1)) dX4_solid_72 (by decide) ?_
                      refine k_goto C 77 dX4_solid_73 (by decide) ?_
                      refine k_istore_n C (lv' := [(1, .int (nI 1)), (0, .ref (ad 0)), (2, .int (nI j4)), (3, .int (nI j16)), (4, .int (nI j29)), (5, .int (nI j44))]) dX4_solid_77 rfl (by decide) rfl ?_
                      refine k_iinc C (v := (nI (j44 + 1))) (lv' := [(5, .int (nI (j44 + 1))), (1, .int (nI 1)), (0, .ref (ad 0)), (2, .int (nI j4)), (3, .int (nI j16)), (4, .int (nI j29))]) 5 dX4_solid_78 rfl (nI_1 _) (by decide) rfl ?_
                      refine k_goto C 44 dX4_solid_81 (by decide) ?_
                      have e119_0 : (nI 1) = (b2i ((((slA (vlL xs ys zs) np j4 || slB (vlL xs ys zs) np j4 (j16 - (j4 + 1))) || slC (vlL xs ys zs) np j4 j16 (j29 - (j16 + 1)))) || slD (vlL xs ys zs) j4 j16 j29 ((j44 + 1) - (j29 + 1)))) := by rw [slD_s _ _ _ _ _ g44_0, ← Bool.or_assoc, hsome]; simp [b2i, nI0, nI1, h_4, h_5, h_6]
                      exact k_lv [2, 1, 3, 4, 5, 0] (by rw [← e119_0]; rfl) (ih44 (j44 + 1) (by omega) (by omega) (by omega))
set_option maxHeartbeats 4000000 in
set_option maxRecDepth 100000 in
theorem c4_of (l : Launch) (D : va_G) (cI cJ cF cD : ClassId) {ad : Nat → Nat} {thr blt bds hld fcs egs : Int32} {tx ty tz : Int64} {xs ys zs szs crn odr nds lfs rts far : Nat → Int32} {hx hy hz nx ny nz ofs : Nat → Int64} {np : Nat} (q wh : Int32) (hnp : np ≤ 24) : CtI l D (tyG cI cJ cF cD) yX4_of wsX4_of ({ frames := 1, cells := 0, slots := 0, locals := 22 }) [.ref (ad 0), .int q, .int wh] (wM ad cI cJ thr (nI np) blt bds hld fcs egs tx ty tz xs ys zs szs crn odr nds lfs rts far hx hy hz nx ny nz ofs) (fun r w => r = (if (rngB np q && whB 2 wh) = true then ofV xs ys zs q.toNatClampNeg wh.toNatClampNeg else 0) ∧ w = (wM ad cI cJ (goT (rngB np q && whB 2 wh) true) (nI np) blt bds hld fcs egs tx ty tz xs ys zs szs crn odr nds lfs rts far hx hy hz nx ny nz ofs)) := by
  refine ctI_of (cc := cX4_of) (maxL := 3) (by decide) rfl (Nat.le_of_ble_eq_true rfl) ?_
  intro X hXl hXd C hret
  have lk0 : Cond.fieldLink RX4 16 "HullBuilderModel" "zs" "[I" ∈ wsX4_of := by decide +kernel
  have hinX4 : ∀ w ∈ wsX40, w ∈ wsX4_of := by decide +kernel
  have lk2 : Cond.fieldLink RX4 13 "HullBuilderModel" "ys" "[I" ∈ wsX4_of := by decide +kernel
  have lk3 : Cond.fieldLink RX4 7 "HullBuilderModel" "xs" "[I" ∈ wsX4_of := by decide +kernel
  have lk4 : Cond.fieldLink RX4 66 "HullBuilderModel" "points" "I" ∈ wsX4_of := by decide +kernel
  show Kw X 0 0 (wM ad cI cJ thr (nI np) blt bds hld fcs egs tx ty tz xs ys zs szs crn odr nds lfs rts far hx hy hz nx ny nz ofs) 0 [(0, .ref (ad 0)), (1, .int q), (2, .int wh)] []
  have J27 : Kw X 0 0 (wM ad cI cJ thr (nI np) blt bds hld fcs egs tx ty tz xs ys zs szs crn odr nds lfs rts far hx hy hz nx ny nz ofs) 27 [(0, .ref (ad 0)), (1, .int q), (2, .int wh)] [.int (b2i (rngB np q && whB 2 wh)), .ref (ad 0)] := by
    refine k_iconst C (v := (nI 1)) dX4_of_27 (by decide) ?_
    refine k_callVI C (ar := 2) (As := [.int (b2i (rngB np q && whB 2 wh)), .int (nI 1)]) (rest := []) (c4_goes (kxL X) (kxD X) cI cJ cF cD (rngB np q && whB 2 wh) true) gX4_of_X4_goes rfl rfl rfl (by decide +kernel) ⟨Nat.le_of_ble_eq_true rfl, Nat.le_of_ble_eq_true rfl⟩ 0 rfl rfl rfl rfl (Nat.le_of_ble_eq_true rfl) dX4_of_28 (Nat.zero_le _) (Nat.zero_le _) (fun r w hw => ?_)
    obtain ⟨rfl, rfl⟩ := hw
    refine k_topi (b2i (rngB np q && whB 2 wh)) (by rw [Bool.and_true]) ?_
    refine k_if_neB C 36 dX4_of_31 (by decide) (fun h_1 => ?_) (fun h_1 => ?_)
    · have hOK := h_1
      rw [Bool.and_eq_true] at hOK
      obtain ⟨jq, hjq, eq_, cq⟩ := rngB_t (by omega) hOK.1
      obtain ⟨jw, hjw, ew, cw⟩ := whB_t (by decide) hOK.2
      refine k_iload_n C 2 dX4_of_36 rfl rfl ?_
      refine k_topi (nI jw) ew ?_
      refine k_if_neN C (by omega) 49 dX4_of_37 (by decide) (fun h_2 => ?_) (fun h_2 => ?_)
      · refine k_iload_n C 2 dX4_of_49 rfl rfl ?_
        refine k_topi (nI jw) ew ?_
        refine k_iconst C (v := (nI 1)) dX4_of_50 (by decide) ?_
        refine k_icmp_neN C (by omega) (by omega) 63 dX4_of_51 (by decide) (fun h_3 => ?_) (fun h_3 => ?_)
        · refine k_aload_n C 0 dX4_of_63 rfl rfl ?_
          refine k_get C hinX4 0 4 rfl rfl (by decide) lk0 rfl rfl dX4_of_64 ?_
          refine k_iload_n C 1 dX4_of_67 rfl rfl ?_
          refine k_topi (nI jq) eq_ ?_
          refine k_iald C (j := jq) 3 0 rfl rfl (by omega) (by decide) dX4_of_68 ?_
          exact hret _ _ _ _ ⟨by rw [if_pos (by rw [Bool.and_eq_true]; exact hOK), cq, cw]; simp [ofV, h_1, h_2, h_3], rfl⟩ dX4_of_69
        · refine k_aload_n C 0 dX4_of_54 rfl rfl ?_
          refine k_get C hinX4 0 3 rfl rfl (by decide) lk2 rfl rfl dX4_of_55 ?_
          refine k_iload_n C 1 dX4_of_58 rfl rfl ?_
          refine k_topi (nI jq) eq_ ?_
          refine k_iald C (j := jq) 2 0 rfl rfl (by omega) (by decide) dX4_of_59 ?_
          refine k_goto C 69 dX4_of_60 (by decide) ?_
          exact hret _ _ _ _ ⟨by rw [if_pos (by rw [Bool.and_eq_true]; exact hOK), cq, cw]; simp [ofV, h_1, h_2, h_3], rfl⟩ dX4_of_69
      · refine k_aload_n C 0 dX4_of_40 rfl rfl ?_
        refine k_get C hinX4 0 2 rfl rfl (by decide) lk3 rfl rfl dX4_of_41 ?_
        refine k_iload_n C 1 dX4_of_44 rfl rfl ?_
        refine k_topi (nI jq) eq_ ?_
        refine k_iald C (j := jq) 1 0 rfl rfl (by omega) (by decide) dX4_of_45 ?_
        refine k_goto C 69 dX4_of_46 (by decide) ?_
        exact hret _ _ _ _ ⟨by rw [if_pos (by rw [Bool.and_eq_true]; exact hOK), cq, cw]; simp [ofV, h_1, h_2], rfl⟩ dX4_of_69
    · refine k_iconst C (v := (nI 0)) dX4_of_34 (by decide) ?_
      exact hret _ _ _ _ ⟨by rw [if_neg (by rw [h_1]; decide)]; rfl, rfl⟩ dX4_of_35
  refine k_aload_n C 0 dX4_of_0 rfl rfl ?_
  refine k_iload_n C 1 dX4_of_1 rfl rfl ?_
  refine k_if_lt C 26 dX4_of_2 (by decide) (fun h_4 => ?_) (fun h_4 => ?_)
  · refine k_iconst C (v := (nI 0)) dX4_of_26 (by decide) ?_
    refine k_topi (b2i (rngB np q && whB 2 wh)) (by simp [rngB, whB, b2i, nI0, nI1, h_4]) ?_
    exact k_lv [0, 1, 2] rfl (J27)
  · refine k_iload_n C 1 dX4_of_5 rfl rfl ?_
    refine k_aload_n C 0 dX4_of_6 rfl rfl ?_
    refine k_get C hinX4 0 1 rfl rfl (by decide) lk4 rfl rfl dX4_of_7 ?_
    refine k_icmp_ge C 26 dX4_of_10 (by decide) (fun h_5 => ?_) (fun h_5 => ?_)
    · refine k_iconst C (v := (nI 0)) dX4_of_26 (by decide) ?_
      refine k_topi (b2i (rngB np q && whB 2 wh)) (by simp [rngB, whB, b2i, nI0, nI1, h_4, h_5]) ?_
      exact k_lv [0, 1, 2] rfl (J27)
    · refine k_iload_n C 2 dX4_of_13 rfl rfl ?_
      refine k_if_lt C 26 dX4_of_14 (by decide) (fun h_6 => ?_) (fun h_6 => ?_)
      · refine k_iconst C (v := (nI 0)) dX4_of_26 (by decide) ?_
        refine k_topi (b2i (rngB np q && whB 2 wh)) (by simp [rngB, whB, b2i, nI0, nI1, h_4, h_5, h_6]) ?_
        exact k_lv [0, 1, 2] rfl (J27)
      · refine k_iload_n C 2 dX4_of_17 rfl rfl ?_
        refine k_iconst C (v := (nI 2)) dX4_of_18 (by decide) ?_
        refine k_icmp_gt C 26 dX4_of_19 (by decide) (fun h_7 => ?_) (fun h_7 => ?_)
        · refine k_iconst C (v := (nI 0)) dX4_of_26 (by decide) ?_
          refine k_topi (b2i (rngB np q && whB 2 wh)) (by simp [rngB, whB, b2i, nI0, nI1, h_4, h_5, h_6, h_7]) ?_
          exact k_lv [0, 1, 2] rfl (J27)
        · refine k_iconst C (v := (nI 1)) dX4_of_22 (by decide) ?_
          refine k_goto C 27 dX4_of_23 (by decide) ?_
          refine k_topi (b2i (rngB np q && whB 2 wh)) (by simp [rngB, whB, b2i, nI0, nI1, h_4, h_5, h_6, h_7]) ?_
          exact k_lv [0, 1, 2] rfl (J27)
set_option maxHeartbeats 4000000 in
set_option maxRecDepth 100000 in
theorem c4_there (l : Launch) (D : va_G) (cI cJ cF cD : ClassId) {ad : Nat → Nat} {thr pts blt bds hld egs : Int32} {tx ty tz : Int64} {xs ys zs szs crn odr nds lfs rts far : Nat → Int32} {hx hy hz : Nat → Int64} {F : FT} (q : Int32)  : CtI l D (tyG cI cJ cF cD) yX4_there wsX4_there ({ frames := 0, cells := 0, slots := 0, locals := 0 }) [.ref (ad 0), .int q] (wM ad cI cJ thr pts blt bds hld (nI F.1) egs tx ty tz xs ys zs szs crn odr nds lfs rts far hx hy hz F.2.1 F.2.2.1 F.2.2.2.1 F.2.2.2.2) (fun r w => r = (b2i (rngB F.1 q)) ∧ w = (wM ad cI cJ thr pts blt bds hld (nI F.1) egs tx ty tz xs ys zs szs crn odr nds lfs rts far hx hy hz F.2.1 F.2.2.1 F.2.2.2.1 F.2.2.2.2)) := by
  refine ctZ_of (cc := cX4_there) (maxL := 2) (by decide) rfl (Nat.le_of_ble_eq_true rfl) (fun r w h => h.1 ▸ b2i_01 _) ?_
  intro X hXl hXd C hret
  have lk0 : Cond.fieldLink RX4 91 "HullBuilderModel" "faces" "I" ∈ wsX4_there := by decide +kernel
  have hinX4 : ∀ w ∈ wsX40, w ∈ wsX4_there := by decide +kernel
  show Kw X 0 0 (wM ad cI cJ thr pts blt bds hld (nI F.1) egs tx ty tz xs ys zs szs crn odr nds lfs rts far hx hy hz F.2.1 F.2.2.1 F.2.2.2.1 F.2.2.2.2) 0 [(0, .ref (ad 0)), (1, .int q)] []
  refine k_iload_n C 1 dX4_there_0 rfl rfl ?_
  refine k_if_lt C 16 dX4_there_1 (by decide) (fun h_1 => ?_) (fun h_1 => ?_)
  · refine k_iconst C (v := (nI 0)) dX4_there_16 (by decide) ?_
    exact hret _ _ _ _ ⟨by simp [rngB, b2i, nI0, nI1, h_1], rfl⟩ dX4_there_17
  · refine k_iload_n C 1 dX4_there_4 rfl rfl ?_
    refine k_aload_n C 0 dX4_there_5 rfl rfl ?_
    refine k_get C hinX4 0 11 rfl rfl (by decide) lk0 rfl rfl dX4_there_6 ?_
    refine k_icmp_ge C 16 dX4_there_9 (by decide) (fun h_2 => ?_) (fun h_2 => ?_)
    · refine k_iconst C (v := (nI 0)) dX4_there_16 (by decide) ?_
      exact hret _ _ _ _ ⟨by simp [rngB, b2i, nI0, nI1, h_1, h_2], rfl⟩ dX4_there_17
    · refine k_iconst C (v := (nI 1)) dX4_there_12 (by decide) ?_
      refine k_goto C 17 dX4_there_13 (by decide) ?_
      exact hret _ _ _ _ ⟨by simp [rngB, b2i, nI0, nI1, h_1, h_2], rfl⟩ dX4_there_17
set_option maxHeartbeats 4000000 in
set_option maxRecDepth 100000 in
theorem c4_face (l : Launch) (D : va_G) (cI cJ cF cD : ClassId) {ad : Nat → Nat} {thr pts bds egs : Int32} {tx ty tz : Int64} {xs ys zs nds lfs rts far : Nat → Int32} {hx hy hz : Nat → Int64} {F : FT} {bt : Bool} {nh : Nat} {o z p : Nat → Nat} (q wh : Int32) (hF : F.1 ≤ 64) (ho : ∀ i, o i < 24) (hz9 : ∀ i, z i ≤ 24) (hp : ∀ i, p i < 64) : CtI l D (tyG cI cJ cF cD) yX4_face wsX4_face ({ frames := 1, cells := 0, slots := 0, locals := 22 }) [.ref (ad 0), .int q, .int wh] (wM ad cI cJ thr pts (b2i bt) bds (nI nh) (nI F.1) egs tx ty tz xs ys zs (nA z) (nA o) (nA p) nds lfs rts far hx hy hz F.2.1 F.2.2.1 F.2.2.2.1 F.2.2.2.2) (fun r w => r = (if (bt && (rngB F.1 q && whB 3 wh)) = true then fcV F z (p q.toNatClampNeg) wh.toNatClampNeg else 0) ∧ w = (wM ad cI cJ (goT bt (rngB F.1 q && whB 3 wh)) pts (b2i bt) bds (nI nh) (nI F.1) egs tx ty tz xs ys zs (nA z) (nA o) (nA p) nds lfs rts far hx hy hz F.2.1 F.2.2.1 F.2.2.2.1 F.2.2.2.2)) := by
  refine ctI_of (cc := cX4_face) (maxL := 4) (by decide) rfl (Nat.le_of_ble_eq_true rfl) ?_
  intro X hXl hXd C hret
  have lk0 : Cond.fieldLink RX4 47 "HullBuilderModel" "order" "[I" ∈ wsX4_face := by decide +kernel
  have hinX4 : ∀ w ∈ wsX40, w ∈ wsX4_face := by decide +kernel
  have lk2 : Cond.fieldLink RX4 35 "HullBuilderModel" "nz" "[J" ∈ wsX4_face := by decide +kernel
  have lk3 : Cond.fieldLink RX4 32 "HullBuilderModel" "ny" "[J" ∈ wsX4_face := by decide +kernel
  have lk4 : Cond.fieldLink RX4 29 "HullBuilderModel" "nx" "[J" ∈ wsX4_face := by decide +kernel
  have lk5 : Cond.fieldLink RX4 41 "HullBuilderModel" "sizes" "[I" ∈ wsX4_face := by decide +kernel
  have lk6 : Cond.fieldLink RX4 159 "HullBuilderModel" "built" "Z" ∈ wsX4_face := by decide +kernel
  show Kw X 0 0 (wM ad cI cJ thr pts (b2i bt) bds (nI nh) (nI F.1) egs tx ty tz xs ys zs (nA z) (nA o) (nA p) nds lfs rts far hx hy hz F.2.1 F.2.2.1 F.2.2.2.1 F.2.2.2.2) 0 [(0, .ref (ad 0)), (1, .int q), (2, .int wh)] []
  have J27 : Kw X 0 0 (wM ad cI cJ thr pts (b2i bt) bds (nI nh) (nI F.1) egs tx ty tz xs ys zs (nA z) (nA o) (nA p) nds lfs rts far hx hy hz F.2.1 F.2.2.1 F.2.2.2.1 F.2.2.2.2) 27 [(0, .ref (ad 0)), (1, .int q), (2, .int wh)] [.int (b2i (rngB F.1 q && whB 3 wh)), .int (b2i bt), .ref (ad 0)] := by
    refine k_callVI C (ar := 2) (As := [.int (b2i bt), .int (b2i (rngB F.1 q && whB 3 wh))]) (rest := []) (c4_goes (kxL X) (kxD X) cI cJ cF cD bt (rngB F.1 q && whB 3 wh)) gX4_face_X4_goes rfl rfl rfl (by decide +kernel) ⟨Nat.le_of_ble_eq_true rfl, Nat.le_of_ble_eq_true rfl⟩ 0 rfl rfl rfl rfl (Nat.le_of_ble_eq_true rfl) dX4_face_27 (Nat.zero_le _) (Nat.zero_le _) (fun r w hw => ?_)
    obtain ⟨rfl, rfl⟩ := hw
    refine k_if_neB C 35 dX4_face_30 (by decide) (fun h_1 => ?_) (fun h_1 => ?_)
    · have hOK := h_1
      simp only [Bool.and_eq_true] at hOK
      obtain ⟨jq, hjq, eq_, cq⟩ := rngB_t (by omega) hOK.2.1
      obtain ⟨jw, hjw, ew, cw⟩ := whB_t (by decide) hOK.2.2
      have hpj := hp jq
      refine k_aload_n C 0 dX4_face_35 rfl rfl ?_
      refine k_get C hinX4 0 18 rfl rfl (by decide) lk0 rfl rfl dX4_face_36 ?_
      refine k_iload_n C 1 dX4_face_39 rfl rfl ?_
      refine k_topi (nI jq) eq_ ?_
      refine k_ialdN C (j := jq) 13 0 rfl rfl (by omega) (by decide) dX4_face_40 ?_
      refine k_istore_n C (lv' := [(3, .int (nI (p jq))), (0, .ref (ad 0)), (1, .int q), (2, .int wh)]) dX4_face_41 rfl (by decide) rfl ?_
      refine k_iload_n C 3 dX4_face_42 rfl rfl ?_
      refine k_topi (nI jw) ew ?_
      refine k_if_neN C (by omega) 55 dX4_face_43 (by decide) (fun h_2 => ?_) (fun h_2 => ?_)
      · refine k_iload_n C 3 dX4_face_55 rfl rfl ?_
        refine k_topi (nI jw) ew ?_
        refine k_iconst C (v := (nI 1)) dX4_face_56 (by decide) ?_
        refine k_icmp_neN C (by omega) (by omega) 69 dX4_face_57 (by decide) (fun h_3 => ?_) (fun h_3 => ?_)
        · refine k_iload_n C 3 dX4_face_69 rfl rfl ?_
          refine k_topi (nI jw) ew ?_
          refine k_iconst C (v := (nI 2)) dX4_face_70 (by decide) ?_
          refine k_icmp_neN C (by omega) (by omega) 83 dX4_face_71 (by decide) (fun h_4 => ?_) (fun h_4 => ?_)
          · refine k_aload_n C 1 dX4_face_83 rfl rfl ?_
            refine k_get C hinX4 0 14 rfl rfl (by decide) lk2 rfl rfl dX4_face_84 ?_
            refine k_iload_n C 0 dX4_face_87 rfl rfl ?_
            refine k_lald C (j := (p jq)) 9 1 rfl rfl (by omega) (by decide) dX4_face_88 ?_
            refine k_l2i C dX4_face_89 ?_
            exact hret _ _ _ _ ⟨by rw [if_pos (by simp only [Bool.and_eq_true]; exact hOK), cq, cw]; simp [fcV, h_1, h_2, h_3, h_4], rfl⟩ dX4_face_90
          · refine k_aload_n C 1 dX4_face_74 rfl rfl ?_
            refine k_get C hinX4 0 13 rfl rfl (by decide) lk3 rfl rfl dX4_face_75 ?_
            refine k_iload_n C 0 dX4_face_78 rfl rfl ?_
            refine k_lald C (j := (p jq)) 8 1 rfl rfl (by omega) (by decide) dX4_face_79 ?_
            refine k_goto C 89 dX4_face_80 (by decide) ?_
            refine k_l2i C dX4_face_89 ?_
            exact hret _ _ _ _ ⟨by rw [if_pos (by simp only [Bool.and_eq_true]; exact hOK), cq, cw]; simp [fcV, h_1, h_2, h_3, h_4], rfl⟩ dX4_face_90
        · refine k_aload_n C 1 dX4_face_60 rfl rfl ?_
          refine k_get C hinX4 0 12 rfl rfl (by decide) lk4 rfl rfl dX4_face_61 ?_
          refine k_iload_n C 0 dX4_face_64 rfl rfl ?_
          refine k_lald C (j := (p jq)) 7 1 rfl rfl (by omega) (by decide) dX4_face_65 ?_
          refine k_goto C 89 dX4_face_66 (by decide) ?_
          refine k_l2i C dX4_face_89 ?_
          exact hret _ _ _ _ ⟨by rw [if_pos (by simp only [Bool.and_eq_true]; exact hOK), cq, cw]; simp [fcV, h_1, h_2, h_3], rfl⟩ dX4_face_90
      · refine k_aload_n C 1 dX4_face_46 rfl rfl ?_
        refine k_get C hinX4 0 16 rfl rfl (by decide) lk5 rfl rfl dX4_face_47 ?_
        refine k_iload_n C 0 dX4_face_50 rfl rfl ?_
        refine k_ialdN C (j := (p jq)) 11 0 rfl rfl (by omega) (by decide) dX4_face_51 ?_
        refine k_goto C 90 dX4_face_52 (by decide) ?_
        exact hret _ _ _ _ ⟨by rw [if_pos (by simp only [Bool.and_eq_true]; exact hOK), cq, cw]; simp [fcV, h_1, h_2], rfl⟩ dX4_face_90
    · refine k_iconst C (v := (nI 0)) dX4_face_33 (by decide) ?_
      exact hret _ _ _ _ ⟨by rw [if_neg (by rw [h_1]; decide)]; rfl, rfl⟩ dX4_face_34
  refine k_aload_n C 0 dX4_face_0 rfl rfl ?_
  refine k_aload_n C 0 dX4_face_1 rfl rfl ?_
  refine k_get C hinX4 0 5 rfl rfl (by decide) lk6 rfl rfl dX4_face_2 ?_
  refine k_aload_n C 0 dX4_face_5 rfl rfl ?_
  refine k_iload_n C 1 dX4_face_6 rfl rfl ?_
  refine k_callVI C (ar := 1) (As := [.int q]) (rest := [.int (b2i bt), .ref (ad 0)]) (c4_there (kxL X) (kxD X) cI cJ cF cD q) gX4_face_X4_there rfl rfl rfl (by decide +kernel) ⟨Nat.le_of_ble_eq_true rfl, Nat.le_of_ble_eq_true rfl⟩ 0 rfl rfl rfl rfl (Nat.le_of_ble_eq_true rfl) dX4_face_7 (Nat.zero_le _) (Nat.zero_le _) (fun r w hw => ?_)
  obtain ⟨rfl, rfl⟩ := hw
  refine k_if_eqB C 26 dX4_face_10 (by decide) (fun h_5 => ?_) (fun h_5 => ?_)
  · refine k_iconst C (v := (nI 0)) dX4_face_26 (by decide) ?_
    refine k_topi (b2i (rngB F.1 q && whB 3 wh)) (by simp [whB, b2i, nI0, nI1, h_5]) ?_
    exact k_lv [0, 1, 2] rfl (J27)
  · refine k_iload_n C 2 dX4_face_13 rfl rfl ?_
    refine k_if_lt C 26 dX4_face_14 (by decide) (fun h_6 => ?_) (fun h_6 => ?_)
    · refine k_iconst C (v := (nI 0)) dX4_face_26 (by decide) ?_
      refine k_topi (b2i (rngB F.1 q && whB 3 wh)) (by simp [whB, b2i, nI0, nI1, h_5, h_6]) ?_
      exact k_lv [0, 1, 2] rfl (J27)
    · refine k_iload_n C 2 dX4_face_17 rfl rfl ?_
      refine k_iconst C (v := (nI 3)) dX4_face_18 (by decide) ?_
      refine k_icmp_gt C 26 dX4_face_19 (by decide) (fun h_7 => ?_) (fun h_7 => ?_)
      · refine k_iconst C (v := (nI 0)) dX4_face_26 (by decide) ?_
        refine k_topi (b2i (rngB F.1 q && whB 3 wh)) (by simp [whB, b2i, nI0, nI1, h_5, h_6, h_7]) ?_
        exact k_lv [0, 1, 2] rfl (J27)
      · refine k_iconst C (v := (nI 1)) dX4_face_22 (by decide) ?_
        refine k_goto C 27 dX4_face_23 (by decide) ?_
        refine k_topi (b2i (rngB F.1 q && whB 3 wh)) (by simp [whB, b2i, nI0, nI1, h_5, h_6, h_7]) ?_
        exact k_lv [0, 1, 2] rfl (J27)
set_option maxHeartbeats 4000000 in
set_option maxRecDepth 100000 in
theorem c4_offset (l : Launch) (D : va_G) (cI cJ cF cD : ClassId) {ad : Nat → Nat} {thr pts bds egs : Int32} {tx ty tz : Int64} {xs ys zs nds lfs rts far : Nat → Int32} {hx hy hz : Nat → Int64} {F : FT} {bt : Bool} {nh : Nat} {o z p : Nat → Nat} (q : Int32) (hF : F.1 ≤ 64) (ho : ∀ i, o i < 24) (hz9 : ∀ i, z i ≤ 24) (hp : ∀ i, p i < 64) : CtL l D (tyG cI cJ cF cD) yX4_offset wsX4_offset ({ frames := 1, cells := 0, slots := 0, locals := 22 }) [.ref (ad 0), .int q] (wM ad cI cJ thr pts (b2i bt) bds (nI nh) (nI F.1) egs tx ty tz xs ys zs (nA z) (nA o) (nA p) nds lfs rts far hx hy hz F.2.1 F.2.2.1 F.2.2.2.1 F.2.2.2.2) (fun r w => r = (if (bt && rngB F.1 q) = true then F.2.2.2.2 (p q.toNatClampNeg) else 0) ∧ w = (wM ad cI cJ (goT bt (rngB F.1 q)) pts (b2i bt) bds (nI nh) (nI F.1) egs tx ty tz xs ys zs (nA z) (nA o) (nA p) nds lfs rts far hx hy hz F.2.1 F.2.2.1 F.2.2.2.1 F.2.2.2.2)) := by
  refine ctL_of (cc := cX4_offset) (maxL := 2) (by decide) rfl (Nat.le_of_ble_eq_true rfl) ?_
  intro X hXl hXd C hret
  have lk0 : Cond.fieldLink RX4 159 "HullBuilderModel" "built" "Z" ∈ wsX4_offset := by decide +kernel
  have hinX4 : ∀ w ∈ wsX40, w ∈ wsX4_offset := by decide +kernel
  have lk2 : Cond.fieldLink RX4 38 "HullBuilderModel" "offsets" "[J" ∈ wsX4_offset := by decide +kernel
  have lk3 : Cond.fieldLink RX4 47 "HullBuilderModel" "order" "[I" ∈ wsX4_offset := by decide +kernel
  show Kw X 0 0 (wM ad cI cJ thr pts (b2i bt) bds (nI nh) (nI F.1) egs tx ty tz xs ys zs (nA z) (nA o) (nA p) nds lfs rts far hx hy hz F.2.1 F.2.2.1 F.2.2.2.1 F.2.2.2.2) 0 [(0, .ref (ad 0)), (1, .int q)] []
  refine k_aload_n C 0 dX4_offset_0 rfl rfl ?_
  refine k_aload_n C 0 dX4_offset_1 rfl rfl ?_
  refine k_get C hinX4 0 5 rfl rfl (by decide) lk0 rfl rfl dX4_offset_2 ?_
  refine k_aload_n C 0 dX4_offset_5 rfl rfl ?_
  refine k_iload_n C 1 dX4_offset_6 rfl rfl ?_
  refine k_callVI C (ar := 1) (As := [.int q]) (rest := [.int (b2i bt), .ref (ad 0)]) (c4_there (kxL X) (kxD X) cI cJ cF cD q) gX4_offset_X4_there rfl rfl rfl (by decide +kernel) ⟨Nat.le_of_ble_eq_true rfl, Nat.le_of_ble_eq_true rfl⟩ 0 rfl rfl rfl rfl (Nat.le_of_ble_eq_true rfl) dX4_offset_7 (Nat.zero_le _) (Nat.zero_le _) (fun r w hw => ?_)
  obtain ⟨rfl, rfl⟩ := hw
  refine k_callVI C (ar := 2) (As := [.int (b2i bt), .int (b2i (rngB F.1 q))]) (rest := []) (c4_goes (kxL X) (kxD X) cI cJ cF cD bt (rngB F.1 q)) gX4_offset_X4_goes rfl rfl rfl (by decide +kernel) ⟨Nat.le_of_ble_eq_true rfl, Nat.le_of_ble_eq_true rfl⟩ 0 rfl rfl rfl rfl (Nat.le_of_ble_eq_true rfl) dX4_offset_10 (Nat.zero_le _) (Nat.zero_le _) (fun r w hw => ?_)
  obtain ⟨rfl, rfl⟩ := hw
  refine k_if_eqB C 30 dX4_offset_13 (by decide) (fun h_1 => ?_) (fun h_1 => ?_)
  · refine k_lconst C (v := 0) dX4_offset_30 (by decide) ?_
    exact hret _ _ _ _ ⟨by rw [if_neg (by rw [h_1]; decide)], rfl⟩ dX4_offset_31
  · have hOK := h_1
    simp only [Bool.and_eq_true] at hOK
    obtain ⟨jq, hjq, eq_, cq⟩ := rngB_t (by omega) hOK.2
    have hpj := hp jq
    refine k_aload_n C 0 dX4_offset_16 rfl rfl ?_
    refine k_get C hinX4 0 15 rfl rfl (by decide) lk2 rfl rfl dX4_offset_17 ?_
    refine k_aload_n C 0 dX4_offset_20 rfl rfl ?_
    refine k_get C hinX4 0 18 rfl rfl (by decide) lk3 rfl rfl dX4_offset_21 ?_
    refine k_iload_n C 1 dX4_offset_24 rfl rfl ?_
    refine k_topi (nI jq) eq_ ?_
    refine k_ialdN C (j := jq) 13 0 rfl rfl (by omega) (by decide) dX4_offset_25 ?_
    refine k_lald C (j := (p jq)) 10 1 rfl rfl (by omega) (by decide) dX4_offset_26 ?_
    refine k_goto C 31 dX4_offset_27 (by decide) ?_
    exact hret _ _ _ _ ⟨by rw [if_pos (by simp only [Bool.and_eq_true]; exact hOK), cq], rfl⟩ dX4_offset_31
set_option maxHeartbeats 4000000 in
set_option maxRecDepth 100000 in
theorem c4_corner (l : Launch) (D : va_G) (cI cJ cF cD : ClassId) {ad : Nat → Nat} {thr pts bds egs : Int32} {tx ty tz : Int64} {xs ys zs nds lfs rts far : Nat → Int32} {hx hy hz : Nat → Int64} {F : FT} {bt : Bool} {nh : Nat} {o z p : Nat → Nat} (q wh : Int32) (hF : F.1 ≤ 64) (ho : ∀ i, o i < 24) (hz9 : ∀ i, z i ≤ 24) (hp : ∀ i, p i < 64) : CtI l D (tyG cI cJ cF cD) yX4_corner wsX4_corner ({ frames := 1, cells := 0, slots := 0, locals := 22 }) [.ref (ad 0), .int q, .int wh] (wM ad cI cJ thr pts (b2i bt) bds (nI nh) (nI F.1) egs tx ty tz xs ys zs (nA z) (nA o) (nA p) nds lfs rts far hx hy hz F.2.1 F.2.2.1 F.2.2.2.1 F.2.2.2.2) (fun r w => r = (if (bt && (rngB F.1 q && rngB (z (p q.toNatClampNeg)) wh)) = true then nI (o (24 * p q.toNatClampNeg + wh.toNatClampNeg)) else 0) ∧ w = (wM ad cI cJ (goT bt (rngB F.1 q && rngB (z (p q.toNatClampNeg)) wh)) pts (b2i bt) bds (nI nh) (nI F.1) egs tx ty tz xs ys zs (nA z) (nA o) (nA p) nds lfs rts far hx hy hz F.2.1 F.2.2.1 F.2.2.2.1 F.2.2.2.2)) := by
  refine ctI_of (cc := cX4_corner) (maxL := 3) (by decide) rfl (Nat.le_of_ble_eq_true rfl) ?_
  intro X hXl hXd C hret
  have lk0 : Cond.fieldLink RX4 44 "HullBuilderModel" "corners" "[I" ∈ wsX4_corner := by decide +kernel
  have hinX4 : ∀ w ∈ wsX40, w ∈ wsX4_corner := by decide +kernel
  have lk2 : Cond.fieldLink RX4 47 "HullBuilderModel" "order" "[I" ∈ wsX4_corner := by decide +kernel
  have lk3 : Cond.fieldLink RX4 159 "HullBuilderModel" "built" "Z" ∈ wsX4_corner := by decide +kernel
  have lk4 : Cond.fieldLink RX4 41 "HullBuilderModel" "sizes" "[I" ∈ wsX4_corner := by decide +kernel
  show Kw X 0 0 (wM ad cI cJ thr pts (b2i bt) bds (nI nh) (nI F.1) egs tx ty tz xs ys zs (nA z) (nA o) (nA p) nds lfs rts far hx hy hz F.2.1 F.2.2.1 F.2.2.2.1 F.2.2.2.2) 0 [(0, .ref (ad 0)), (1, .int q), (2, .int wh)] []
  have J37 : Kw X 0 0 (wM ad cI cJ thr pts (b2i bt) bds (nI nh) (nI F.1) egs tx ty tz xs ys zs (nA z) (nA o) (nA p) nds lfs rts far hx hy hz F.2.1 F.2.2.1 F.2.2.2.1 F.2.2.2.2) 37 [(0, .ref (ad 0)), (1, .int q), (2, .int wh)] [.int (b2i (rngB F.1 q && rngB (z (p q.toNatClampNeg)) wh)), .int (b2i bt), .ref (ad 0)] := by
    refine k_callVI C (ar := 2) (As := [.int (b2i bt), .int (b2i (rngB F.1 q && rngB (z (p q.toNatClampNeg)) wh))]) (rest := []) (c4_goes (kxL X) (kxD X) cI cJ cF cD bt (rngB F.1 q && rngB (z (p q.toNatClampNeg)) wh)) gX4_corner_X4_goes rfl rfl rfl (by decide +kernel) ⟨Nat.le_of_ble_eq_true rfl, Nat.le_of_ble_eq_true rfl⟩ 0 rfl rfl rfl rfl (Nat.le_of_ble_eq_true rfl) dX4_corner_37 (Nat.zero_le _) (Nat.zero_le _) (fun r w hw => ?_)
    obtain ⟨rfl, rfl⟩ := hw
    refine k_if_neB C 45 dX4_corner_40 (by decide) (fun h_1 => ?_) (fun h_1 => ?_)
    · have hOK := h_1
      simp only [Bool.and_eq_true] at hOK
      obtain ⟨jq, hjq, eq_, cq⟩ := rngB_t (by omega) hOK.2.1
      have hpj := hp jq
      have hzj := hz9 (p jq)
      have hO2 := hOK.2.2
      rw [cq] at hO2
      obtain ⟨jw, hjw, ew, cw⟩ := rngB_t (by omega) hO2
      refine k_aload_n C 0 dX4_corner_45 rfl rfl ?_
      refine k_get C hinX4 0 17 rfl rfl (by decide) lk0 rfl rfl dX4_corner_46 ?_
      refine k_bipush C (v := (nI 24)) dX4_corner_49 (by decide) ?_
      refine k_aload_n C 0 dX4_corner_51 rfl rfl ?_
      refine k_get C hinX4 0 18 rfl rfl (by decide) lk2 rfl rfl dX4_corner_52 ?_
      refine k_iload_n C 1 dX4_corner_55 rfl rfl ?_
      refine k_topi (nI jq) eq_ ?_
      refine k_ialdN C (j := jq) 13 0 rfl rfl (by omega) (by decide) dX4_corner_56 ?_
      refine k_imulN C dX4_corner_57 ?_
      refine k_iload_n C 2 dX4_corner_58 rfl rfl ?_
      refine k_topi (nI jw) ew ?_
      refine k_iaddN C dX4_corner_59 ?_
      refine k_ialdN C (j := ((24 * (p jq)) + jw)) 12 0 rfl rfl (by omega) (by decide) dX4_corner_60 ?_
      exact hret _ _ _ _ ⟨by rw [if_pos (by simp only [Bool.and_eq_true]; exact hOK), cq, cw], rfl⟩ dX4_corner_61
    · refine k_iconst C (v := (nI 0)) dX4_corner_43 (by decide) ?_
      exact hret _ _ _ _ ⟨by rw [if_neg (by rw [h_1]; decide)]; rfl, rfl⟩ dX4_corner_44
  refine k_aload_n C 0 dX4_corner_0 rfl rfl ?_
  refine k_aload_n C 0 dX4_corner_1 rfl rfl ?_
  refine k_get C hinX4 0 5 rfl rfl (by decide) lk3 rfl rfl dX4_corner_2 ?_
  refine k_aload_n C 0 dX4_corner_5 rfl rfl ?_
  refine k_iload_n C 1 dX4_corner_6 rfl rfl ?_
  refine k_callVI C (ar := 1) (As := [.int q]) (rest := [.int (b2i bt), .ref (ad 0)]) (c4_there (kxL X) (kxD X) cI cJ cF cD q) gX4_corner_X4_there rfl rfl rfl (by decide +kernel) ⟨Nat.le_of_ble_eq_true rfl, Nat.le_of_ble_eq_true rfl⟩ 0 rfl rfl rfl rfl (Nat.le_of_ble_eq_true rfl) dX4_corner_7 (Nat.zero_le _) (Nat.zero_le _) (fun r w hw => ?_)
  obtain ⟨rfl, rfl⟩ := hw
  refine k_if_eqB C 36 dX4_corner_10 (by decide) (fun h_2 => ?_) (fun h_2 => ?_)
  · refine k_iconst C (v := (nI 0)) dX4_corner_36 (by decide) ?_
    refine k_topi (b2i (rngB F.1 q && rngB (z (p q.toNatClampNeg)) wh)) (by first | (rw [cq]; simp [b2i, nI0, nI1, rng_e (z (p jq)) wh, h_2]) | (simp [b2i, nI0, nI1, h_2])) ?_
    exact k_lv [0, 1, 2] rfl (J37)
  · obtain ⟨jq, hjq, eq_, cq⟩ := rngB_t (by omega) h_2
    have hpj := hp jq
    have hzj := hz9 (p jq)
    refine k_iload_n C 2 dX4_corner_13 rfl rfl ?_
    refine k_if_lt C 36 dX4_corner_14 (by decide) (fun h_3 => ?_) (fun h_3 => ?_)
    · refine k_iconst C (v := (nI 0)) dX4_corner_36 (by decide) ?_
      refine k_topi (b2i (rngB F.1 q && rngB (z (p q.toNatClampNeg)) wh)) (by first | (rw [cq]; simp [b2i, nI0, nI1, rng_e (z (p jq)) wh, h_2, h_3]) | (simp [b2i, nI0, nI1, h_2, h_3])) ?_
      exact k_lv [0, 1, 2] rfl (J37)
    · refine k_iload_n C 2 dX4_corner_17 rfl rfl ?_
      refine k_aload_n C 0 dX4_corner_18 rfl rfl ?_
      refine k_get C hinX4 0 16 rfl rfl (by decide) lk4 rfl rfl dX4_corner_19 ?_
      refine k_aload_n C 0 dX4_corner_22 rfl rfl ?_
      refine k_get C hinX4 0 18 rfl rfl (by decide) lk2 rfl rfl dX4_corner_23 ?_
      refine k_iload_n C 1 dX4_corner_26 rfl rfl ?_
      refine k_topi (nI jq) eq_ ?_
      refine k_ialdN C (j := jq) 13 0 rfl rfl (by omega) (by decide) dX4_corner_27 ?_
      refine k_ialdN C (j := (p jq)) 11 0 rfl rfl (by omega) (by decide) dX4_corner_28 ?_
      refine k_icmp_ge C 36 dX4_corner_29 (by decide) (fun h_4 => ?_) (fun h_4 => ?_)
      · refine k_iconst C (v := (nI 0)) dX4_corner_36 (by decide) ?_
        refine k_topi (b2i (rngB F.1 q && rngB (z (p q.toNatClampNeg)) wh)) (by first | (rw [cq]; simp [b2i, nI0, nI1, rng_e (z (p jq)) wh, h_2, h_3, h_4]) | (simp [b2i, nI0, nI1, h_2, h_3, h_4])) ?_
        exact k_lv [0, 1, 2] rfl (J37)
      · refine k_iconst C (v := (nI 1)) dX4_corner_32 (by decide) ?_
        refine k_goto C 37 dX4_corner_33 (by decide) ?_
        refine k_topi (b2i (rngB F.1 q && rngB (z (p q.toNatClampNeg)) wh)) (by first | (rw [cq]; simp [b2i, nI0, nI1, rng_e (z (p jq)) wh, h_2, h_3, h_4]) | (simp [b2i, nI0, nI1, h_2, h_3, h_4])) ?_
        exact k_lv [0, 1, 2] rfl (J37)
set_option maxHeartbeats 4000000 in
set_option maxRecDepth 100000 in
theorem c4_edge (l : Launch) (D : va_G) (cI cJ cF cD : ClassId) {ad : Nat → Nat} {thr pts bds : Int32} {tx ty tz : Int64} {xs ys zs far : Nat → Int32} {hx hy hz : Nat → Int64} {F : FT} {bt : Bool} {nh : Nat} {o z p : Nat → Nat} {E : ET} (q wh : Int32) (hEn : E.1 ≤ 128) (hEv : ∀ i, E.2.1 i < 1024) : CtI l D (tyG cI cJ cF cD) yX4_edge wsX4_edge ({ frames := 1, cells := 0, slots := 0, locals := 22 }) [.ref (ad 0), .int q, .int wh] (wM ad cI cJ thr pts (b2i bt) bds (nI nh) (nI F.1) (nI E.1) tx ty tz xs ys zs (nA z) (nA o) (nA p) (nA E.2.1) E.2.2.1 E.2.2.2 far hx hy hz F.2.1 F.2.2.1 F.2.2.2.1 F.2.2.2.2) (fun r w => r = (if (bt && (rngB E.1 q && whB 3 wh)) = true then egV E q.toNatClampNeg wh.toNatClampNeg else 0) ∧ w = (wM ad cI cJ (goT bt (rngB E.1 q && whB 3 wh)) pts (b2i bt) bds (nI nh) (nI F.1) (nI E.1) tx ty tz xs ys zs (nA z) (nA o) (nA p) (nA E.2.1) E.2.2.1 E.2.2.2 far hx hy hz F.2.1 F.2.2.1 F.2.2.2.1 F.2.2.2.2)) := by
  refine ctI_of (cc := cX4_edge) (maxL := 3) (by decide) rfl (Nat.le_of_ble_eq_true rfl) ?_
  intro X hXl hXd C hret
  have lk0 : Cond.fieldLink RX4 56 "HullBuilderModel" "rights" "[I" ∈ wsX4_edge := by decide +kernel
  have hinX4 : ∀ w ∈ wsX40, w ∈ wsX4_edge := by decide +kernel
  have lk2 : Cond.fieldLink RX4 53 "HullBuilderModel" "lefts" "[I" ∈ wsX4_edge := by decide +kernel
  have lk3 : Cond.fieldLink RX4 50 "HullBuilderModel" "ends" "[I" ∈ wsX4_edge := by decide +kernel
  have lk4 : Cond.fieldLink RX4 159 "HullBuilderModel" "built" "Z" ∈ wsX4_edge := by decide +kernel
  have lk5 : Cond.fieldLink RX4 132 "HullBuilderModel" "edges" "I" ∈ wsX4_edge := by decide +kernel
  show Kw X 0 0 (wM ad cI cJ thr pts (b2i bt) bds (nI nh) (nI F.1) (nI E.1) tx ty tz xs ys zs (nA z) (nA o) (nA p) (nA E.2.1) E.2.2.1 E.2.2.2 far hx hy hz F.2.1 F.2.2.1 F.2.2.2.1 F.2.2.2.2) 0 [(0, .ref (ad 0)), (1, .int q), (2, .int wh)] []
  have J31 : Kw X 0 0 (wM ad cI cJ thr pts (b2i bt) bds (nI nh) (nI F.1) (nI E.1) tx ty tz xs ys zs (nA z) (nA o) (nA p) (nA E.2.1) E.2.2.1 E.2.2.2 far hx hy hz F.2.1 F.2.2.1 F.2.2.2.1 F.2.2.2.2) 31 [(0, .ref (ad 0)), (1, .int q), (2, .int wh)] [.int (b2i (rngB E.1 q && whB 3 wh)), .int (b2i bt), .ref (ad 0)] := by
    refine k_callVI C (ar := 2) (As := [.int (b2i bt), .int (b2i (rngB E.1 q && whB 3 wh))]) (rest := []) (c4_goes (kxL X) (kxD X) cI cJ cF cD bt (rngB E.1 q && whB 3 wh)) gX4_edge_X4_goes rfl rfl rfl (by decide +kernel) ⟨Nat.le_of_ble_eq_true rfl, Nat.le_of_ble_eq_true rfl⟩ 0 rfl rfl rfl rfl (Nat.le_of_ble_eq_true rfl) dX4_edge_31 (Nat.zero_le _) (Nat.zero_le _) (fun r w hw => ?_)
    obtain ⟨rfl, rfl⟩ := hw
    refine k_if_neB C 39 dX4_edge_34 (by decide) (fun h_1 => ?_) (fun h_1 => ?_)
    · have hOK := h_1
      simp only [Bool.and_eq_true] at hOK
      obtain ⟨jq, hjq, eq_, cq⟩ := rngB_t (by omega) hOK.2.1
      obtain ⟨jw, hjw, ew, cw⟩ := whB_t (by decide) hOK.2.2
      have hev := hEv jq
      refine k_iload_n C 2 dX4_edge_39 rfl rfl ?_
      refine k_topi (nI jw) ew ?_
      refine k_if_neN C (by omega) 55 dX4_edge_40 (by decide) (fun h_2 => ?_) (fun h_2 => ?_)
      · refine k_iload_n C 2 dX4_edge_55 rfl rfl ?_
        refine k_topi (nI jw) ew ?_
        refine k_iconst C (v := (nI 1)) dX4_edge_56 (by decide) ?_
        refine k_icmp_neN C (by omega) (by omega) 72 dX4_edge_57 (by decide) (fun h_3 => ?_) (fun h_3 => ?_)
        · refine k_iload_n C 2 dX4_edge_72 rfl rfl ?_
          refine k_topi (nI jw) ew ?_
          refine k_iconst C (v := (nI 2)) dX4_edge_73 (by decide) ?_
          refine k_icmp_neN C (by omega) (by omega) 86 dX4_edge_74 (by decide) (fun h_4 => ?_) (fun h_4 => ?_)
          · refine k_aload_n C 0 dX4_edge_86 rfl rfl ?_
            refine k_get C hinX4 0 22 rfl rfl (by decide) lk0 rfl rfl dX4_edge_87 ?_
            refine k_iload_n C 1 dX4_edge_90 rfl rfl ?_
            refine k_topi (nI jq) eq_ ?_
            refine k_iald C (j := jq) 16 0 rfl rfl (by omega) (by decide) dX4_edge_91 ?_
            exact hret _ _ _ _ ⟨by rw [if_pos (by simp only [Bool.and_eq_true]; exact hOK), cq, cw]; simp [egV, h_1, h_2, h_3, h_4], rfl⟩ dX4_edge_92
          · refine k_aload_n C 0 dX4_edge_77 rfl rfl ?_
            refine k_get C hinX4 0 21 rfl rfl (by decide) lk2 rfl rfl dX4_edge_78 ?_
            refine k_iload_n C 1 dX4_edge_81 rfl rfl ?_
            refine k_topi (nI jq) eq_ ?_
            refine k_iald C (j := jq) 15 0 rfl rfl (by omega) (by decide) dX4_edge_82 ?_
            refine k_goto C 92 dX4_edge_83 (by decide) ?_
            exact hret _ _ _ _ ⟨by rw [if_pos (by simp only [Bool.and_eq_true]; exact hOK), cq, cw]; simp [egV, h_1, h_2, h_3, h_4], rfl⟩ dX4_edge_92
        · refine k_aload_n C 0 dX4_edge_60 rfl rfl ?_
          refine k_get C hinX4 0 20 rfl rfl (by decide) lk3 rfl rfl dX4_edge_61 ?_
          refine k_iload_n C 1 dX4_edge_64 rfl rfl ?_
          refine k_topi (nI jq) eq_ ?_
          refine k_ialdN C (j := jq) 14 0 rfl rfl (by omega) (by decide) dX4_edge_65 ?_
          refine k_bipush C (v := (nI 32)) dX4_edge_66 (by decide) ?_
          refine k_iremN C (by omega) (by omega) (by omega) dX4_edge_68 ?_
          refine k_goto C 92 dX4_edge_69 (by decide) ?_
          exact hret _ _ _ _ ⟨by rw [if_pos (by simp only [Bool.and_eq_true]; exact hOK), cq, cw]; simp [egV, h_1, h_2, h_3], rfl⟩ dX4_edge_92
      · refine k_aload_n C 0 dX4_edge_43 rfl rfl ?_
        refine k_get C hinX4 0 20 rfl rfl (by decide) lk3 rfl rfl dX4_edge_44 ?_
        refine k_iload_n C 1 dX4_edge_47 rfl rfl ?_
        refine k_topi (nI jq) eq_ ?_
        refine k_ialdN C (j := jq) 14 0 rfl rfl (by omega) (by decide) dX4_edge_48 ?_
        refine k_bipush C (v := (nI 32)) dX4_edge_49 (by decide) ?_
        refine k_idivN C (by omega) (by omega) (by omega) dX4_edge_51 ?_
        refine k_goto C 92 dX4_edge_52 (by decide) ?_
        exact hret _ _ _ _ ⟨by rw [if_pos (by simp only [Bool.and_eq_true]; exact hOK), cq, cw]; simp [egV, h_1, h_2], rfl⟩ dX4_edge_92
    · refine k_iconst C (v := (nI 0)) dX4_edge_37 (by decide) ?_
      exact hret _ _ _ _ ⟨by rw [if_neg (by rw [h_1]; decide)]; rfl, rfl⟩ dX4_edge_38
  refine k_aload_n C 0 dX4_edge_0 rfl rfl ?_
  refine k_aload_n C 0 dX4_edge_1 rfl rfl ?_
  refine k_get C hinX4 0 5 rfl rfl (by decide) lk4 rfl rfl dX4_edge_2 ?_
  refine k_iload_n C 1 dX4_edge_5 rfl rfl ?_
  refine k_if_lt C 30 dX4_edge_6 (by decide) (fun h_5 => ?_) (fun h_5 => ?_)
  · refine k_iconst C (v := (nI 0)) dX4_edge_30 (by decide) ?_
    refine k_topi (b2i (rngB E.1 q && whB 3 wh)) (by simp [rngB, whB, b2i, nI0, nI1, h_5]) ?_
    exact k_lv [0, 1, 2] rfl (J31)
  · refine k_iload_n C 1 dX4_edge_9 rfl rfl ?_
    refine k_aload_n C 0 dX4_edge_10 rfl rfl ?_
    refine k_get C hinX4 0 19 rfl rfl (by decide) lk5 rfl rfl dX4_edge_11 ?_
    refine k_icmp_ge C 30 dX4_edge_14 (by decide) (fun h_6 => ?_) (fun h_6 => ?_)
    · refine k_iconst C (v := (nI 0)) dX4_edge_30 (by decide) ?_
      refine k_topi (b2i (rngB E.1 q && whB 3 wh)) (by simp [rngB, whB, b2i, nI0, nI1, h_5, h_6]) ?_
      exact k_lv [0, 1, 2] rfl (J31)
    · refine k_iload_n C 2 dX4_edge_17 rfl rfl ?_
      refine k_if_lt C 30 dX4_edge_18 (by decide) (fun h_7 => ?_) (fun h_7 => ?_)
      · refine k_iconst C (v := (nI 0)) dX4_edge_30 (by decide) ?_
        refine k_topi (b2i (rngB E.1 q && whB 3 wh)) (by simp [rngB, whB, b2i, nI0, nI1, h_5, h_6, h_7]) ?_
        exact k_lv [0, 1, 2] rfl (J31)
      · refine k_iload_n C 2 dX4_edge_21 rfl rfl ?_
        refine k_iconst C (v := (nI 3)) dX4_edge_22 (by decide) ?_
        refine k_icmp_gt C 30 dX4_edge_23 (by decide) (fun h_8 => ?_) (fun h_8 => ?_)
        · refine k_iconst C (v := (nI 0)) dX4_edge_30 (by decide) ?_
          refine k_topi (b2i (rngB E.1 q && whB 3 wh)) (by simp [rngB, whB, b2i, nI0, nI1, h_5, h_6, h_7, h_8]) ?_
          exact k_lv [0, 1, 2] rfl (J31)
        · refine k_iconst C (v := (nI 1)) dX4_edge_26 (by decide) ?_
          refine k_goto C 31 dX4_edge_27 (by decide) ?_
          refine k_topi (b2i (rngB E.1 q && whB 3 wh)) (by simp [rngB, whB, b2i, nI0, nI1, h_5, h_6, h_7, h_8]) ?_
          exact k_lv [0, 1, 2] rfl (J31)
set_option maxHeartbeats 4000000 in
set_option maxRecDepth 100000 in
theorem c4_isCorner (l : Launch) (D : va_G) (cI cJ cF cD : ClassId) {ad : Nat → Nat} {thr pts blt bds hld fcs : Int32} {tx ty tz : Int64} {xs ys zs szs crn odr far : Nat → Int32} {hx hy hz nx ny nz ofs : Nat → Int64} {E : ET} (q : Int32) (hEn : E.1 ≤ 128) (hEv : ∀ i, E.2.1 i < 1024) : CtI l D (tyG cI cJ cF cD) yX4_isCorner wsX4_isCorner ({ frames := 0, cells := 0, slots := 0, locals := 0 }) [.ref (ad 0), .int q] (wM ad cI cJ thr pts blt bds hld fcs (nI E.1) tx ty tz xs ys zs szs crn odr (nA E.2.1) E.2.2.1 E.2.2.2 far hx hy hz nx ny nz ofs) (fun r w => r = (b2i (icB E.1 E.2.1 q)) ∧ w = (wM ad cI cJ thr pts blt bds hld fcs (nI E.1) tx ty tz xs ys zs szs crn odr (nA E.2.1) E.2.2.1 E.2.2.2 far hx hy hz nx ny nz ofs)) := by
  refine ctZ_of (cc := cX4_isCorner) (maxL := 4) (by decide) rfl (Nat.le_of_ble_eq_true rfl) (fun r w h => h.1 ▸ b2i_01 _) ?_
  intro X hXl hXd C hret
  have lk0 : Cond.fieldLink RX4 132 "HullBuilderModel" "edges" "I" ∈ wsX4_isCorner := by decide +kernel
  have hinX4 : ∀ w ∈ wsX40, w ∈ wsX4_isCorner := by decide +kernel
  have lk2 : Cond.fieldLink RX4 50 "HullBuilderModel" "ends" "[I" ∈ wsX4_isCorner := by decide +kernel
  show Kw X 0 0 (wM ad cI cJ thr pts blt bds hld fcs (nI E.1) tx ty tz xs ys zs szs crn odr (nA E.2.1) E.2.2.1 E.2.2.2 far hx hy hz nx ny nz ofs) 0 [(0, .ref (ad 0)), (1, .int q)] []
  refine k_iconst C (v := (nI 0)) dX4_isCorner_0 (by decide) ?_
  refine k_istore_n C (lv' := [(2, .int (nI 0)), (0, .ref (ad 0)), (1, .int q)]) dX4_isCorner_1 rfl (by decide) rfl ?_
  refine k_iconst C (v := (nI 0)) dX4_isCorner_2 (by decide) ?_
  refine k_istore_n C (lv' := [(3, .int (nI 0)), (2, .int (nI 0)), (0, .ref (ad 0)), (1, .int q)]) dX4_isCorner_3 rfl (by decide) rfl ?_
  suffices L4 : ∀ (n4 j4 : Nat), j4 ≤ E.1 → E.1 + 1 ≤ j4 + n4 → Kw X 0 0 (wM ad cI cJ thr pts blt bds hld fcs (nI E.1) tx ty tz xs ys zs szs crn odr (nA E.2.1) E.2.2.1 E.2.2.2 far hx hy hz nx ny nz ofs) 4 [(0, .ref (ad 0)), (1, .int q), (2, .int (b2i (icB j4 E.2.1 q))), (3, .int (nI j4))] [] by
    have e5_0 : (nI 0) = (b2i (icB 0 E.2.1 q)) := rfl
    exact k_lv [2, 3, 1, 0] (by rw [← e5_0]; rfl) (L4 (E.1 + 1) 0 (by omega) (by omega))
  intro n4
  induction n4 with
  | zero => intro j4 a1 a2; exact absurd a2 (by omega)
  | succ n4 ih4 =>
    intro j4 b4 c4
    refine k_iload_n C 3 dX4_isCorner_4 rfl rfl ?_
    refine k_aload_n C 0 dX4_isCorner_5 rfl rfl ?_
    refine k_get C hinX4 0 19 rfl rfl (by decide) lk0 rfl rfl dX4_isCorner_6 ?_
    refine k_icmp_geN C (by omega) (by omega) 54 dX4_isCorner_9 (by decide) (fun h_1 => ?_) (fun h_1 => ?_)
    · refine k_iload_n C 2 dX4_isCorner_54 rfl rfl ?_
      exact hret _ _ _ _ ⟨by rw [show j4 = E.1 by omega], rfl⟩ dX4_isCorner_55
    · refine k_iload_n C 2 dX4_isCorner_12 rfl rfl ?_
      refine k_if_neB C 42 dX4_isCorner_13 (by decide) (fun h_2 => ?_) (fun h_2 => ?_)
      · refine k_iconst C (v := (nI 1)) dX4_isCorner_42 (by decide) ?_
        refine k_goto C 47 dX4_isCorner_43 (by decide) ?_
        refine k_istore_n C (lv' := [(2, .int (nI 1)), (0, .ref (ad 0)), (1, .int q), (3, .int (nI j4))]) dX4_isCorner_47 rfl (by decide) rfl ?_
        refine k_iinc C (v := (nI (j4 + 1))) (lv' := [(3, .int (nI (j4 + 1))), (2, .int (nI 1)), (0, .ref (ad 0)), (1, .int q)]) 3 dX4_isCorner_48 rfl (nI_1 _) (by decide) rfl ?_
        refine k_goto C 4 dX4_isCorner_51 (by decide) ?_
        have e27_0 : (nI 1) = (b2i (icB (j4 + 1) E.2.1 q)) := by simp [icB_s, b2i, nI0, nI1, h_1, h_2]
        exact k_lv [2, 3, 1, 0] (by rw [← e27_0]; rfl) (ih4 (j4 + 1) (by omega) (by omega))
      · have hev := hEv j4
        refine k_aload_n C 0 dX4_isCorner_16 rfl rfl ?_
        refine k_get C hinX4 0 20 rfl rfl (by decide) lk2 rfl rfl dX4_isCorner_17 ?_
        refine k_iload_n C 3 dX4_isCorner_20 rfl rfl ?_
        refine k_ialdN C (j := j4) 14 0 rfl rfl (by omega) (by decide) dX4_isCorner_21 ?_
        refine k_bipush C (v := (nI 32)) dX4_isCorner_22 (by decide) ?_
        refine k_idivN C (by omega) (by omega) (by omega) dX4_isCorner_24 ?_
        refine k_iload_n C 1 dX4_isCorner_25 rfl rfl ?_
        refine k_icmp_eq C 42 dX4_isCorner_26 (by decide) (fun h_3 => ?_) (fun h_3 => ?_)
        · refine k_iconst C (v := (nI 1)) dX4_isCorner_42 (by decide) ?_
          refine k_goto C 47 dX4_isCorner_43 (by decide) ?_
          refine k_istore_n C (lv' := [(2, .int (nI 1)), (0, .ref (ad 0)), (1, .int q), (3, .int (nI j4))]) dX4_isCorner_47 rfl (by decide) rfl ?_
          refine k_iinc C (v := (nI (j4 + 1))) (lv' := [(3, .int (nI (j4 + 1))), (2, .int (nI 1)), (0, .ref (ad 0)), (1, .int q)]) 3 dX4_isCorner_48 rfl (nI_1 _) (by decide) rfl ?_
          refine k_goto C 4 dX4_isCorner_51 (by decide) ?_
          have e44_0 : (nI 1) = (b2i (icB (j4 + 1) E.2.1 q)) := by simp [icB_s, b2i, nI0, nI1, h_1, h_2, h_3]
          exact k_lv [2, 3, 1, 0] (by rw [← e44_0]; rfl) (ih4 (j4 + 1) (by omega) (by omega))
        · refine k_aload_n C 0 dX4_isCorner_29 rfl rfl ?_
          refine k_get C hinX4 0 20 rfl rfl (by decide) lk2 rfl rfl dX4_isCorner_30 ?_
          refine k_iload_n C 3 dX4_isCorner_33 rfl rfl ?_
          refine k_ialdN C (j := j4) 14 0 rfl rfl (by omega) (by decide) dX4_isCorner_34 ?_
          refine k_bipush C (v := (nI 32)) dX4_isCorner_35 (by decide) ?_
          refine k_iremN C (by omega) (by omega) (by omega) dX4_isCorner_37 ?_
          refine k_iload_n C 1 dX4_isCorner_38 rfl rfl ?_
          refine k_icmp_ne C 46 dX4_isCorner_39 (by decide) (fun h_4 => ?_) (fun h_4 => ?_)
          · refine k_iconst C (v := (nI 0)) dX4_isCorner_46 (by decide) ?_
            refine k_istore_n C (lv' := [(2, .int (nI 0)), (0, .ref (ad 0)), (1, .int q), (3, .int (nI j4))]) dX4_isCorner_47 rfl (by decide) rfl ?_
            refine k_iinc C (v := (nI (j4 + 1))) (lv' := [(3, .int (nI (j4 + 1))), (2, .int (nI 0)), (0, .ref (ad 0)), (1, .int q)]) 3 dX4_isCorner_48 rfl (nI_1 _) (by decide) rfl ?_
            refine k_goto C 4 dX4_isCorner_51 (by decide) ?_
            have e59_0 : (nI 0) = (b2i (icB (j4 + 1) E.2.1 q)) := by simp [icB_s, b2i, nI0, nI1, h_1, h_2, h_3, h_4]
            exact k_lv [2, 3, 1, 0] (by rw [← e59_0]; rfl) (ih4 (j4 + 1) (by omega) (by omega))
          · refine k_iconst C (v := (nI 1)) dX4_isCorner_42 (by decide) ?_
            refine k_goto C 47 dX4_isCorner_43 (by decide) ?_
            refine k_istore_n C (lv' := [(2, .int (nI 1)), (0, .ref (ad 0)), (1, .int q), (3, .int (nI j4))]) dX4_isCorner_47 rfl (by decide) rfl ?_
            refine k_iinc C (v := (nI (j4 + 1))) (lv' := [(3, .int (nI (j4 + 1))), (2, .int (nI 1)), (0, .ref (ad 0)), (1, .int q)]) 3 dX4_isCorner_48 rfl (nI_1 _) (by decide) rfl ?_
            refine k_goto C 4 dX4_isCorner_51 (by decide) ?_
            have e66_0 : (nI 1) = (b2i (icB (j4 + 1) E.2.1 q)) := by simp [icB_s, b2i, nI0, nI1, h_1, h_2, h_3, h_4]
            exact k_lv [2, 3, 1, 0] (by rw [← e66_0]; rfl) (ih4 (j4 + 1) (by omega) (by omega))
set_option maxHeartbeats 4000000 in
set_option maxRecDepth 100000 in
theorem c4_support (l : Launch) (D : va_G) (cI cJ cF cD : ClassId) {ad : Nat → Nat} {thr pts bds : Int32} {tx ty tz : Int64} {xs ys zs far : Nat → Int32} {hx hy hz : Nat → Int64} {F : FT} {bt : Bool} {nh : Nat} {o z p : Nat → Nat} {E : ET} (x y z1 : Int32) (hh : nh ≤ 24) (hEn : E.1 ≤ 128) (hEv : ∀ i, E.2.1 i < 1024) : CtI l D (tyG cI cJ cF cD) yX4_support wsX4_support ({ frames := 1, cells := 0, slots := 0, locals := 23 }) [.ref (ad 0), .int x, .int y, .int z1] (wM ad cI cJ thr pts (b2i bt) bds (nI nh) (nI F.1) (nI E.1) tx ty tz xs ys zs (nA z) (nA o) (nA p) (nA E.2.1) E.2.2.1 E.2.2.2 far hx hy hz F.2.1 F.2.2.1 F.2.2.2.1 F.2.2.2.2) (fun r w => r = (if (bt && (withinB x (nI 65536) && withinB y (nI 65536) && withinB z1 (nI 65536))) = true then (supP (fun k => icB E.1 E.2.1 (nI k)) (fun k => x.toInt64 * hx k + y.toInt64 * hy k + z1.toInt64 * hz k) nh).1 else 0) ∧ w = (wM ad cI cJ (goT bt (withinB x (nI 65536) && withinB y (nI 65536) && withinB z1 (nI 65536))) pts (b2i bt) bds (nI nh) (nI F.1) (nI E.1) tx ty tz xs ys zs (nA z) (nA o) (nA p) (nA E.2.1) E.2.2.1 E.2.2.2 far hx hy hz F.2.1 F.2.2.1 F.2.2.2.1 F.2.2.2.2)) := by
  refine ctI_of (cc := cX4_support) (maxL := 10) (by decide) rfl (Nat.le_of_ble_eq_true rfl) ?_
  intro X hXl hXd C hret
  have lk0 : Cond.fieldLink RX4 98 "HullBuilderModel" "held" "I" ∈ wsX4_support := by decide +kernel
  have hinX4 : ∀ w ∈ wsX40, w ∈ wsX4_support := by decide +kernel
  have lk2 : Cond.fieldLink RX4 19 "HullBuilderModel" "hx" "[J" ∈ wsX4_support := by decide +kernel
  have lk3 : Cond.fieldLink RX4 23 "HullBuilderModel" "hy" "[J" ∈ wsX4_support := by decide +kernel
  have lk4 : Cond.fieldLink RX4 26 "HullBuilderModel" "hz" "[J" ∈ wsX4_support := by decide +kernel
  have lk5 : Cond.fieldLink RX4 159 "HullBuilderModel" "built" "Z" ∈ wsX4_support := by decide +kernel
  have lk6 : Cond.constant RX4 170 (65536) ∈ wsX4_support := by decide +kernel
  show Kw X 0 0 (wM ad cI cJ thr pts (b2i bt) bds (nI nh) (nI F.1) (nI E.1) tx ty tz xs ys zs (nA z) (nA o) (nA p) (nA E.2.1) E.2.2.1 E.2.2.2 far hx hy hz F.2.1 F.2.2.1 F.2.2.2.1 F.2.2.2.2) 0 [(0, .ref (ad 0)), (1, .int x), (2, .int y), (3, .int z1)] []
  have J37 : Kw X 0 0 (wM ad cI cJ thr pts (b2i bt) bds (nI nh) (nI F.1) (nI E.1) tx ty tz xs ys zs (nA z) (nA o) (nA p) (nA E.2.1) E.2.2.1 E.2.2.2 far hx hy hz F.2.1 F.2.2.1 F.2.2.2.1 F.2.2.2.2) 37 [(0, .ref (ad 0)), (1, .int x), (2, .int y), (3, .int z1)] [.int (b2i (withinB x (nI 65536) && withinB y (nI 65536) && withinB z1 (nI 65536))), .int (b2i bt), .ref (ad 0)] := by
    refine k_callVI C (ar := 2) (As := [.int (b2i bt), .int (b2i (withinB x (nI 65536) && withinB y (nI 65536) && withinB z1 (nI 65536)))]) (rest := []) (c4_goes (kxL X) (kxD X) cI cJ cF cD bt (withinB x (nI 65536) && withinB y (nI 65536) && withinB z1 (nI 65536))) gX4_support_X4_goes rfl rfl rfl (by decide +kernel) ⟨Nat.le_of_ble_eq_true rfl, Nat.le_of_ble_eq_true rfl⟩ 0 rfl rfl rfl rfl (Nat.le_of_ble_eq_true rfl) dX4_support_37 (Nat.zero_le _) (Nat.zero_le _) (fun r w hw => ?_)
    obtain ⟨rfl, rfl⟩ := hw
    refine k_if_neB C 45 dX4_support_40 (by decide) (fun h_1 => ?_) (fun h_1 => ?_)
    · have hOK := h_1
      refine k_iconst C (v := (-1)) dX4_support_45 (by decide) ?_
      refine k_istore C (lv' := [(4, .int (-1)), (0, .ref (ad 0)), (1, .int x), (2, .int y), (3, .int z1)]) dX4_support_46 (by decide) rfl ?_
      refine k_lconst C (v := 0) dX4_support_48 (by decide) ?_
      refine k_lstore C (lv' := [(5, .long 0), (4, .int (-1)), (0, .ref (ad 0)), (1, .int x), (2, .int y), (3, .int z1)]) dX4_support_49 (by decide) rfl ?_
      refine k_iconst C (v := (nI 0)) dX4_support_51 (by decide) ?_
      refine k_istore C (lv' := [(7, .int (nI 0)), (5, .long 0), (4, .int (-1)), (0, .ref (ad 0)), (1, .int x), (2, .int y), (3, .int z1)]) dX4_support_52 (by decide) rfl ?_
      suffices L54 : ∀ (n54 j54 : Nat), j54 ≤ nh → nh + 1 ≤ j54 + n54 → Kw X 0 0 (wM ad cI cJ (goT bt (withinB x (nI 65536) && withinB y (nI 65536) && withinB z1 (nI 65536))) pts (b2i bt) bds (nI nh) (nI F.1) (nI E.1) tx ty tz xs ys zs (nA z) (nA o) (nA p) (nA E.2.1) E.2.2.1 E.2.2.2 far hx hy hz F.2.1 F.2.2.1 F.2.2.2.1 F.2.2.2.2) 54 [(0, .ref (ad 0)), (1, .int x), (2, .int y), (3, .int z1), (4, .int ((supP (fun k => icB E.1 E.2.1 (nI k)) (fun k => x.toInt64 * hx k + y.toInt64 * hy k + z1.toInt64 * hz k) j54).1)), (5, .long ((supP (fun k => icB E.1 E.2.1 (nI k)) (fun k => x.toInt64 * hx k + y.toInt64 * hy k + z1.toInt64 * hz k) j54).2)), (7, .int (nI j54))] [] by
        have e13_0 : (-1) = ((supP (fun k => icB E.1 E.2.1 (nI k)) (fun k => x.toInt64 * hx k + y.toInt64 * hy k + z1.toInt64 * hz k) 0).1) := rfl
        have e14_1 : 0 = ((supP (fun k => icB E.1 E.2.1 (nI k)) (fun k => x.toInt64 * hx k + y.toInt64 * hy k + z1.toInt64 * hz k) 0).2) := rfl
        exact k_lv [3, 4, 5, 6, 2, 1, 0] (by rw [← e13_0, ← e14_1]; rfl) (L54 (nh + 1) 0 (by omega) (by omega))
      intro n54
      induction n54 with
      | zero => intro j54 a1 a2; exact absurd a2 (by omega)
      | succ n54 ih54 =>
        intro j54 b54 c54
        refine k_iload C 6 dX4_support_54 rfl ?_
        refine k_aload_n C 0 dX4_support_56 rfl rfl ?_
        refine k_get C hinX4 0 7 rfl rfl (by decide) lk0 rfl rfl dX4_support_57 ?_
        refine k_icmp_geN C (by omega) (by omega) 133 dX4_support_60 (by decide) (fun h_2 => ?_) (fun h_2 => ?_)
        · refine k_iload C 4 dX4_support_133 rfl ?_
          exact hret _ _ _ _ ⟨by rw [if_pos hOK, show j54 = nh by omega], rfl⟩ dX4_support_135
        · refine k_iload_n C 1 dX4_support_63 rfl rfl ?_
          refine k_i2l C dX4_support_64 ?_
          refine k_aload_n C 0 dX4_support_65 rfl rfl ?_
          refine k_get C hinX4 0 8 rfl rfl (by decide) lk2 rfl rfl dX4_support_66 ?_
          refine k_iload C 6 dX4_support_69 rfl ?_
          refine k_lald C (j := j54) 4 1 rfl rfl (by omega) (by decide) dX4_support_71 ?_
          refine k_lmul C dX4_support_72 ?_
          refine k_iload_n C 2 dX4_support_73 rfl rfl ?_
          refine k_i2l C dX4_support_74 ?_
          refine k_aload_n C 0 dX4_support_75 rfl rfl ?_
          refine k_get C hinX4 0 9 rfl rfl (by decide) lk3 rfl rfl dX4_support_76 ?_
          refine k_iload C 6 dX4_support_79 rfl ?_
          refine k_lald C (j := j54) 5 1 rfl rfl (by omega) (by decide) dX4_support_81 ?_
          refine k_lmul C dX4_support_82 ?_
          refine k_ladd C dX4_support_83 ?_
          refine k_iload_n C 3 dX4_support_84 rfl rfl ?_
          refine k_i2l C dX4_support_85 ?_
          refine k_aload_n C 0 dX4_support_86 rfl rfl ?_
          refine k_get C hinX4 0 10 rfl rfl (by decide) lk4 rfl rfl dX4_support_87 ?_
          refine k_iload C 6 dX4_support_90 rfl ?_
          refine k_lald C (j := j54) 6 1 rfl rfl (by omega) (by decide) dX4_support_92 ?_
          refine k_lmul C dX4_support_93 ?_
          refine k_ladd C dX4_support_94 ?_
          refine k_lstore C (lv' := [(8, .long (((x.toInt64 * (hx j54)) + (y.toInt64 * (hy j54))) + (z1.toInt64 * (hz j54)))), (0, .ref (ad 0)), (1, .int x), (2, .int y), (3, .int z1), (4, .int ((supP (fun k => icB E.1 E.2.1 (nI k)) (fun k => x.toInt64 * hx k + y.toInt64 * hy k + z1.toInt64 * hz k) j54).1)), (5, .long ((supP (fun k => icB E.1 E.2.1 (nI k)) (fun k => x.toInt64 * hx k + y.toInt64 * hy k + z1.toInt64 * hz k) j54).2)), (7, .int (nI j54))]) dX4_support_95 (by decide) rfl ?_
          refine k_aload_n C 1 dX4_support_97 rfl rfl ?_
          refine k_iload C 7 dX4_support_98 rfl ?_
          refine k_callVI C (ar := 1) (As := [.int (nI j54)]) (rest := []) (c4_isCorner (kxL X) (kxD X) cI cJ cF cD (nI j54) hEn hEv) gX4_support_X4_isCorner rfl rfl rfl (by decide +kernel) ⟨Nat.le_of_ble_eq_true rfl, Nat.le_of_ble_eq_true rfl⟩ 0 rfl rfl rfl rfl (Nat.le_of_ble_eq_true rfl) dX4_support_100 (Nat.zero_le _) (Nat.zero_le _) (fun r w hw => ?_)
          obtain ⟨rfl, rfl⟩ := hw
          refine k_if_eqB C 127 dX4_support_103 (by decide) (fun h_3 => ?_) (fun h_3 => ?_)
          · refine k_iinc C (v := (nI (j54 + 1))) (lv' := [(7, .int (nI (j54 + 1))), (8, .long (((x.toInt64 * (hx j54)) + (y.toInt64 * (hy j54))) + (z1.toInt64 * (hz j54)))), (0, .ref (ad 0)), (1, .int x), (2, .int y), (3, .int z1), (4, .int ((supP (fun k => icB E.1 E.2.1 (nI k)) (fun k => x.toInt64 * hx k + y.toInt64 * hy k + z1.toInt64 * hz k) j54).1)), (5, .long ((supP (fun k => icB E.1 E.2.1 (nI k)) (fun k => x.toInt64 * hx k + y.toInt64 * hy k + z1.toInt64 * hz k) j54).2))]) 7 dX4_support_127 rfl (nI_1 _) (by decide) rfl ?_
            refine k_goto C 54 dX4_support_130 (by decide) ?_
            have e60_0 : ((supP (fun k => icB E.1 E.2.1 (nI k)) (fun k => x.toInt64 * hx k + y.toInt64 * hy k + z1.toInt64 * hz k) j54).1) = ((supP (fun k => icB E.1 E.2.1 (nI k)) (fun k => x.toInt64 * hx k + y.toInt64 * hy k + z1.toInt64 * hz k) (j54 + 1)).1) := by rw [supP, if_neg (by simp [h_2, h_3])]
            have e61_1 : ((supP (fun k => icB E.1 E.2.1 (nI k)) (fun k => x.toInt64 * hx k + y.toInt64 * hy k + z1.toInt64 * hz k) j54).2) = ((supP (fun k => icB E.1 E.2.1 (nI k)) (fun k => x.toInt64 * hx k + y.toInt64 * hy k + z1.toInt64 * hz k) (j54 + 1)).2) := by rw [supP, if_neg (by simp [h_2, h_3])]
            exact k_lv [2, 3, 4, 5, 6, 7, 0] (by rw [← e60_0, ← e61_1]; rfl) (ih54 (j54 + 1) (by omega) (by omega))
          · refine k_iload C 5 dX4_support_106 rfl ?_
            refine k_if_lt C 119 dX4_support_108 (by decide) (fun h_4 => ?_) (fun h_4 => ?_)
            · refine k_iload C 7 dX4_support_119 rfl ?_
              refine k_istore C (lv' := [(4, .int (nI j54)), (8, .long (((x.toInt64 * (hx j54)) + (y.toInt64 * (hy j54))) + (z1.toInt64 * (hz j54)))), (0, .ref (ad 0)), (1, .int x), (2, .int y), (3, .int z1), (5, .long ((supP (fun k => icB E.1 E.2.1 (nI k)) (fun k => x.toInt64 * hx k + y.toInt64 * hy k + z1.toInt64 * hz k) j54).2)), (7, .int (nI j54))]) dX4_support_121 (by decide) rfl ?_
              refine k_lload C 1 dX4_support_123 rfl ?_
              refine k_lstore C (lv' := [(5, .long (((x.toInt64 * (hx j54)) + (y.toInt64 * (hy j54))) + (z1.toInt64 * (hz j54)))), (4, .int (nI j54)), (8, .long (((x.toInt64 * (hx j54)) + (y.toInt64 * (hy j54))) + (z1.toInt64 * (hz j54)))), (0, .ref (ad 0)), (1, .int x), (2, .int y), (3, .int z1), (7, .int (nI j54))]) dX4_support_125 (by decide) rfl ?_
              refine k_iinc C (v := (nI (j54 + 1))) (lv' := [(7, .int (nI (j54 + 1))), (5, .long (((x.toInt64 * (hx j54)) + (y.toInt64 * (hy j54))) + (z1.toInt64 * (hz j54)))), (4, .int (nI j54)), (8, .long (((x.toInt64 * (hx j54)) + (y.toInt64 * (hy j54))) + (z1.toInt64 * (hz j54)))), (0, .ref (ad 0)), (1, .int x), (2, .int y), (3, .int z1)]) 7 dX4_support_127 rfl (nI_1 _) (by decide) rfl ?_
              refine k_goto C 54 dX4_support_130 (by decide) ?_
              have e72_0 : (nI j54) = ((supP (fun k => icB E.1 E.2.1 (nI k)) (fun k => x.toInt64 * hx k + y.toInt64 * hy k + z1.toInt64 * hz k) (j54 + 1)).1) := by rw [supP, if_pos (by simp [h_2, h_3, h_4])]
              have e73_1 : (((x.toInt64 * (hx j54)) + (y.toInt64 * (hy j54))) + (z1.toInt64 * (hz j54))) = ((supP (fun k => icB E.1 E.2.1 (nI k)) (fun k => x.toInt64 * hx k + y.toInt64 * hy k + z1.toInt64 * hz k) (j54 + 1)).2) := by rw [supP, if_pos (by simp [h_2, h_3, h_4])]
              exact k_lv [4, 5, 6, 7, 2, 1, 0] (by rw [← e72_0, ← e73_1]; rfl) (ih54 (j54 + 1) (by omega) (by omega))
            · refine k_lload C 0 dX4_support_111 rfl ?_
              refine k_lload C 6 dX4_support_113 rfl ?_
              refine k_lc_le C 127 dX4_support_115 dX4_support_116 (by decide) (fun h_5 => ?_) (fun h_5 => ?_)
              · refine k_iinc C (v := (nI (j54 + 1))) (lv' := [(7, .int (nI (j54 + 1))), (8, .long (((x.toInt64 * (hx j54)) + (y.toInt64 * (hy j54))) + (z1.toInt64 * (hz j54)))), (0, .ref (ad 0)), (1, .int x), (2, .int y), (3, .int z1), (4, .int ((supP (fun k => icB E.1 E.2.1 (nI k)) (fun k => x.toInt64 * hx k + y.toInt64 * hy k + z1.toInt64 * hz k) j54).1)), (5, .long ((supP (fun k => icB E.1 E.2.1 (nI k)) (fun k => x.toInt64 * hx k + y.toInt64 * hy k + z1.toInt64 * hz k) j54).2))]) 7 dX4_support_127 rfl (nI_1 _) (by decide) rfl ?_
                refine k_goto C 54 dX4_support_130 (by decide) ?_
                have e81_0 : ((supP (fun k => icB E.1 E.2.1 (nI k)) (fun k => x.toInt64 * hx k + y.toInt64 * hy k + z1.toInt64 * hz k) j54).1) = ((supP (fun k => icB E.1 E.2.1 (nI k)) (fun k => x.toInt64 * hx k + y.toInt64 * hy k + z1.toInt64 * hz k) (j54 + 1)).1) := by rw [supP, if_neg (by simp [h_2, h_3, h_4, h_5])]
                have e82_1 : ((supP (fun k => icB E.1 E.2.1 (nI k)) (fun k => x.toInt64 * hx k + y.toInt64 * hy k + z1.toInt64 * hz k) j54).2) = ((supP (fun k => icB E.1 E.2.1 (nI k)) (fun k => x.toInt64 * hx k + y.toInt64 * hy k + z1.toInt64 * hz k) (j54 + 1)).2) := by rw [supP, if_neg (by simp [h_2, h_3, h_4, h_5])]
                exact k_lv [2, 3, 4, 5, 6, 7, 0] (by rw [← e81_0, ← e82_1]; rfl) (ih54 (j54 + 1) (by omega) (by omega))
              · refine k_iload C 7 dX4_support_119 rfl ?_
                refine k_istore C (lv' := [(4, .int (nI j54)), (8, .long (((x.toInt64 * (hx j54)) + (y.toInt64 * (hy j54))) + (z1.toInt64 * (hz j54)))), (0, .ref (ad 0)), (1, .int x), (2, .int y), (3, .int z1), (5, .long ((supP (fun k => icB E.1 E.2.1 (nI k)) (fun k => x.toInt64 * hx k + y.toInt64 * hy k + z1.toInt64 * hz k) j54).2)), (7, .int (nI j54))]) dX4_support_121 (by decide) rfl ?_
                refine k_lload C 1 dX4_support_123 rfl ?_
                refine k_lstore C (lv' := [(5, .long (((x.toInt64 * (hx j54)) + (y.toInt64 * (hy j54))) + (z1.toInt64 * (hz j54)))), (4, .int (nI j54)), (8, .long (((x.toInt64 * (hx j54)) + (y.toInt64 * (hy j54))) + (z1.toInt64 * (hz j54)))), (0, .ref (ad 0)), (1, .int x), (2, .int y), (3, .int z1), (7, .int (nI j54))]) dX4_support_125 (by decide) rfl ?_
                refine k_iinc C (v := (nI (j54 + 1))) (lv' := [(7, .int (nI (j54 + 1))), (5, .long (((x.toInt64 * (hx j54)) + (y.toInt64 * (hy j54))) + (z1.toInt64 * (hz j54)))), (4, .int (nI j54)), (8, .long (((x.toInt64 * (hx j54)) + (y.toInt64 * (hy j54))) + (z1.toInt64 * (hz j54)))), (0, .ref (ad 0)), (1, .int x), (2, .int y), (3, .int z1)]) 7 dX4_support_127 rfl (nI_1 _) (by decide) rfl ?_
                refine k_goto C 54 dX4_support_130 (by decide) ?_
                have e90_0 : (nI j54) = ((supP (fun k => icB E.1 E.2.1 (nI k)) (fun k => x.toInt64 * hx k + y.toInt64 * hy k + z1.toInt64 * hz k) (j54 + 1)).1) := by rw [supP, if_pos (by simp [h_2, h_3, h_4, h_5])]
                have e91_1 : (((x.toInt64 * (hx j54)) + (y.toInt64 * (hy j54))) + (z1.toInt64 * (hz j54))) = ((supP (fun k => icB E.1 E.2.1 (nI k)) (fun k => x.toInt64 * hx k + y.toInt64 * hy k + z1.toInt64 * hz k) (j54 + 1)).2) := by rw [supP, if_pos (by simp [h_2, h_3, h_4, h_5])]
                exact k_lv [4, 5, 6, 7, 2, 1, 0] (by rw [← e90_0, ← e91_1]; rfl) (ih54 (j54 + 1) (by omega) (by omega))
    · refine k_iconst C (v := (nI 0)) dX4_support_43 (by decide) ?_
      exact hret _ _ _ _ ⟨by rw [if_neg (by rw [h_1]; decide)]; rfl, rfl⟩ dX4_support_44
  refine k_aload_n C 0 dX4_support_0 rfl rfl ?_
  refine k_aload_n C 0 dX4_support_1 rfl rfl ?_
  refine k_get C hinX4 0 5 rfl rfl (by decide) lk5 rfl rfl dX4_support_2 ?_
  refine k_iload_n C 1 dX4_support_5 rfl rfl ?_
  refine k_ldc C (v := (nI 65536)) dX4_support_6 lk6 ?_
  refine k_callSI C (ar := 2) (As := [.int x, .int (nI 65536)]) (rest := [.int (b2i bt), .ref (ad 0)]) (c4_within (kxL X) (kxD X) cI cJ cF cD x (nI 65536)) gX4_support_X4_within rfl rfl rfl (by decide +kernel) ⟨Nat.le_of_ble_eq_true rfl, Nat.le_of_ble_eq_true rfl⟩ rfl rfl (Nat.le_of_ble_eq_true rfl) dX4_support_8 (Nat.zero_le _) (Nat.zero_le _) (fun r w hw => ?_)
  obtain ⟨rfl, rfl⟩ := hw
  refine k_if_eqB C 36 dX4_support_11 (by decide) (fun h_6 => ?_) (fun h_6 => ?_)
  · refine k_iconst C (v := (nI 0)) dX4_support_36 (by decide) ?_
    refine k_topi (b2i (withinB x (nI 65536) && withinB y (nI 65536) && withinB z1 (nI 65536))) (by simp [b2i, nI0, nI1, h_6]) ?_
    exact k_lv [0, 1, 2, 3] rfl (J37)
  · refine k_iload_n C 2 dX4_support_14 rfl rfl ?_
    refine k_ldc C (v := (nI 65536)) dX4_support_15 lk6 ?_
    refine k_callSI C (ar := 2) (As := [.int y, .int (nI 65536)]) (rest := [.int (b2i bt), .ref (ad 0)]) (c4_within (kxL X) (kxD X) cI cJ cF cD y (nI 65536)) gX4_support_X4_within rfl rfl rfl (by decide +kernel) ⟨Nat.le_of_ble_eq_true rfl, Nat.le_of_ble_eq_true rfl⟩ rfl rfl (Nat.le_of_ble_eq_true rfl) dX4_support_17 (Nat.zero_le _) (Nat.zero_le _) (fun r w hw => ?_)
    obtain ⟨rfl, rfl⟩ := hw
    refine k_if_eqB C 36 dX4_support_20 (by decide) (fun h_7 => ?_) (fun h_7 => ?_)
    · refine k_iconst C (v := (nI 0)) dX4_support_36 (by decide) ?_
      refine k_topi (b2i (withinB x (nI 65536) && withinB y (nI 65536) && withinB z1 (nI 65536))) (by simp [b2i, nI0, nI1, h_6, h_7]) ?_
      exact k_lv [0, 1, 2, 3] rfl (J37)
    · refine k_iload_n C 3 dX4_support_23 rfl rfl ?_
      refine k_ldc C (v := (nI 65536)) dX4_support_24 lk6 ?_
      refine k_callSI C (ar := 2) (As := [.int z1, .int (nI 65536)]) (rest := [.int (b2i bt), .ref (ad 0)]) (c4_within (kxL X) (kxD X) cI cJ cF cD z1 (nI 65536)) gX4_support_X4_within rfl rfl rfl (by decide +kernel) ⟨Nat.le_of_ble_eq_true rfl, Nat.le_of_ble_eq_true rfl⟩ rfl rfl (Nat.le_of_ble_eq_true rfl) dX4_support_26 (Nat.zero_le _) (Nat.zero_le _) (fun r w hw => ?_)
      obtain ⟨rfl, rfl⟩ := hw
      refine k_if_eqB C 36 dX4_support_29 (by decide) (fun h_8 => ?_) (fun h_8 => ?_)
      · refine k_iconst C (v := (nI 0)) dX4_support_36 (by decide) ?_
        refine k_topi (b2i (withinB x (nI 65536) && withinB y (nI 65536) && withinB z1 (nI 65536))) (by simp [b2i, nI0, nI1, h_6, h_7, h_8]) ?_
        exact k_lv [0, 1, 2, 3] rfl (J37)
      · refine k_iconst C (v := (nI 1)) dX4_support_32 (by decide) ?_
        refine k_goto C 37 dX4_support_33 (by decide) ?_
        refine k_topi (b2i (withinB x (nI 65536) && withinB y (nI 65536) && withinB z1 (nI 65536))) (by simp [b2i, nI0, nI1, h_6, h_7, h_8]) ?_
        exact k_lv [0, 1, 2, 3] rfl (J37)
set_option maxHeartbeats 4000000 in
set_option maxRecDepth 100000 in
theorem c4_side (l : Launch) (D : va_G) (cI cJ cF cD : ClassId) {ad : Nat → Nat} {thr pts bds egs : Int32} {tx ty tz : Int64} {xs ys zs nds lfs rts far : Nat → Int32} {hx hy hz : Nat → Int64} {F : FT} {bt : Bool} {nh : Nat} {o z p : Nat → Nat} (x y z1 : Int32) (hF : F.1 ≤ 64) (ho : ∀ i, o i < 24) (hz9 : ∀ i, z i ≤ 24) (hp : ∀ i, p i < 64) : CtI l D (tyG cI cJ cF cD) yX4_side wsX4_side ({ frames := 1, cells := 0, slots := 0, locals := 22 }) [.ref (ad 0), .int x, .int y, .int z1] (wM ad cI cJ thr pts (b2i bt) bds (nI nh) (nI F.1) egs tx ty tz xs ys zs (nA z) (nA o) (nA p) nds lfs rts far hx hy hz F.2.1 F.2.2.1 F.2.2.2.1 F.2.2.2.2) (fun r w => r = (if (bt && (withinB x (nI 65536) && withinB y (nI 65536) && withinB z1 (nI 65536))) = true then sdI (fun f => F.2.1 f * x.toInt64 + F.2.2.1 f * y.toInt64 + F.2.2.2.1 f * z1.toInt64 - F.2.2.2.2 f) F.1 else 0) ∧ w = (wM ad cI cJ (goT bt (withinB x (nI 65536) && withinB y (nI 65536) && withinB z1 (nI 65536))) pts (b2i bt) bds (nI nh) (nI F.1) egs tx ty tz xs ys zs (nA z) (nA o) (nA p) nds lfs rts far hx hy hz F.2.1 F.2.2.1 F.2.2.2.1 F.2.2.2.2)) := by
  refine ctI_of (cc := cX4_side) (maxL := 8) (by decide) rfl (Nat.le_of_ble_eq_true rfl) ?_
  intro X hXl hXd C hret
  have lk0 : Cond.fieldLink RX4 91 "HullBuilderModel" "faces" "I" ∈ wsX4_side := by decide +kernel
  have hinX4 : ∀ w ∈ wsX40, w ∈ wsX4_side := by decide +kernel
  have lk2 : Cond.fieldLink RX4 29 "HullBuilderModel" "nx" "[J" ∈ wsX4_side := by decide +kernel
  have lk3 : Cond.fieldLink RX4 32 "HullBuilderModel" "ny" "[J" ∈ wsX4_side := by decide +kernel
  have lk4 : Cond.fieldLink RX4 35 "HullBuilderModel" "nz" "[J" ∈ wsX4_side := by decide +kernel
  have lk5 : Cond.fieldLink RX4 38 "HullBuilderModel" "offsets" "[J" ∈ wsX4_side := by decide +kernel
  have lk6 : Cond.fieldLink RX4 159 "HullBuilderModel" "built" "Z" ∈ wsX4_side := by decide +kernel
  have lk7 : Cond.constant RX4 170 (65536) ∈ wsX4_side := by decide +kernel
  show Kw X 0 0 (wM ad cI cJ thr pts (b2i bt) bds (nI nh) (nI F.1) egs tx ty tz xs ys zs (nA z) (nA o) (nA p) nds lfs rts far hx hy hz F.2.1 F.2.2.1 F.2.2.2.1 F.2.2.2.2) 0 [(0, .ref (ad 0)), (1, .int x), (2, .int y), (3, .int z1)] []
  have J37 : Kw X 0 0 (wM ad cI cJ thr pts (b2i bt) bds (nI nh) (nI F.1) egs tx ty tz xs ys zs (nA z) (nA o) (nA p) nds lfs rts far hx hy hz F.2.1 F.2.2.1 F.2.2.2.1 F.2.2.2.2) 37 [(0, .ref (ad 0)), (1, .int x), (2, .int y), (3, .int z1)] [.int (b2i (withinB x (nI 65536) && withinB y (nI 65536) && withinB z1 (nI 65536))), .int (b2i bt), .ref (ad 0)] := by
    refine k_callVI C (ar := 2) (As := [.int (b2i bt), .int (b2i (withinB x (nI 65536) && withinB y (nI 65536) && withinB z1 (nI 65536)))]) (rest := []) (c4_goes (kxL X) (kxD X) cI cJ cF cD bt (withinB x (nI 65536) && withinB y (nI 65536) && withinB z1 (nI 65536))) gX4_side_X4_goes rfl rfl rfl (by decide +kernel) ⟨Nat.le_of_ble_eq_true rfl, Nat.le_of_ble_eq_true rfl⟩ 0 rfl rfl rfl rfl (Nat.le_of_ble_eq_true rfl) dX4_side_37 (Nat.zero_le _) (Nat.zero_le _) (fun r w hw => ?_)
    obtain ⟨rfl, rfl⟩ := hw
    refine k_if_neB C 45 dX4_side_40 (by decide) (fun h_1 => ?_) (fun h_1 => ?_)
    · have hOK := h_1
      refine k_iconst C (v := (nI 1)) dX4_side_45 (by decide) ?_
      refine k_istore C (lv' := [(4, .int (nI 1)), (0, .ref (ad 0)), (1, .int x), (2, .int y), (3, .int z1)]) dX4_side_46 (by decide) rfl ?_
      refine k_iconst C (v := (nI 0)) dX4_side_48 (by decide) ?_
      refine k_istore C (lv' := [(5, .int (nI 0)), (4, .int (nI 1)), (0, .ref (ad 0)), (1, .int x), (2, .int y), (3, .int z1)]) dX4_side_49 (by decide) rfl ?_
      suffices L51 : ∀ (n51 j51 : Nat), j51 ≤ F.1 → F.1 + 1 ≤ j51 + n51 → Kw X 0 0 (wM ad cI cJ (goT bt (withinB x (nI 65536) && withinB y (nI 65536) && withinB z1 (nI 65536))) pts (b2i bt) bds (nI nh) (nI F.1) egs tx ty tz xs ys zs (nA z) (nA o) (nA p) nds lfs rts far hx hy hz F.2.1 F.2.2.1 F.2.2.2.1 F.2.2.2.2) 51 [(0, .ref (ad 0)), (1, .int x), (2, .int y), (3, .int z1), (4, .int (sdI (fun f => F.2.1 f * x.toInt64 + F.2.2.1 f * y.toInt64 + F.2.2.2.1 f * z1.toInt64 - F.2.2.2.2 f) j51)), (5, .int (nI j51))] [] by
        have e11_0 : (nI 1) = (sdI (fun f => F.2.1 f * x.toInt64 + F.2.2.1 f * y.toInt64 + F.2.2.2.1 f * z1.toInt64 - F.2.2.2.2 f) 0) := rfl
        exact k_lv [2, 3, 4, 5, 1, 0] (by rw [← e11_0]; rfl) (L51 (F.1 + 1) 0 (by omega) (by omega))
      intro n51
      induction n51 with
      | zero => intro j51 a1 a2; exact absurd a2 (by omega)
      | succ n51 ih51 =>
        intro j51 b51 c51
        refine k_iload C 5 dX4_side_51 rfl ?_
        refine k_aload_n C 0 dX4_side_53 rfl rfl ?_
        refine k_get C hinX4 0 11 rfl rfl (by decide) lk0 rfl rfl dX4_side_54 ?_
        refine k_icmp_geN C (by omega) (by omega) 140 dX4_side_57 (by decide) (fun h_2 => ?_) (fun h_2 => ?_)
        · refine k_iload C 4 dX4_side_140 rfl ?_
          exact hret _ _ _ _ ⟨by rw [if_pos hOK, show j51 = F.1 by omega], rfl⟩ dX4_side_142
        · refine k_aload_n C 0 dX4_side_60 rfl rfl ?_
          refine k_get C hinX4 0 12 rfl rfl (by decide) lk2 rfl rfl dX4_side_61 ?_
          refine k_iload C 5 dX4_side_64 rfl ?_
          refine k_lald C (j := j51) 7 1 rfl rfl (by omega) (by decide) dX4_side_66 ?_
          refine k_iload_n C 1 dX4_side_67 rfl rfl ?_
          refine k_i2l C dX4_side_68 ?_
          refine k_lmul C dX4_side_69 ?_
          refine k_aload_n C 0 dX4_side_70 rfl rfl ?_
          refine k_get C hinX4 0 13 rfl rfl (by decide) lk3 rfl rfl dX4_side_71 ?_
          refine k_iload C 5 dX4_side_74 rfl ?_
          refine k_lald C (j := j51) 8 1 rfl rfl (by omega) (by decide) dX4_side_76 ?_
          refine k_iload_n C 2 dX4_side_77 rfl rfl ?_
          refine k_i2l C dX4_side_78 ?_
          refine k_lmul C dX4_side_79 ?_
          refine k_ladd C dX4_side_80 ?_
          refine k_aload_n C 0 dX4_side_81 rfl rfl ?_
          refine k_get C hinX4 0 14 rfl rfl (by decide) lk4 rfl rfl dX4_side_82 ?_
          refine k_iload C 5 dX4_side_85 rfl ?_
          refine k_lald C (j := j51) 9 1 rfl rfl (by omega) (by decide) dX4_side_87 ?_
          refine k_iload_n C 3 dX4_side_88 rfl rfl ?_
          refine k_i2l C dX4_side_89 ?_
          refine k_lmul C dX4_side_90 ?_
          refine k_ladd C dX4_side_91 ?_
          refine k_aload_n C 0 dX4_side_92 rfl rfl ?_
          refine k_get C hinX4 0 15 rfl rfl (by decide) lk5 rfl rfl dX4_side_93 ?_
          refine k_iload C 5 dX4_side_96 rfl ?_
          refine k_lald C (j := j51) 10 1 rfl rfl (by omega) (by decide) dX4_side_98 ?_
          refine k_lsub C dX4_side_99 ?_
          refine k_lstore C (lv' := [(6, .long (((((F.2.1 j51) * x.toInt64) + ((F.2.2.1 j51) * y.toInt64)) + ((F.2.2.2.1 j51) * z1.toInt64)) - (F.2.2.2.2 j51))), (0, .ref (ad 0)), (1, .int x), (2, .int y), (3, .int z1), (4, .int (sdI (fun f => F.2.1 f * x.toInt64 + F.2.2.1 f * y.toInt64 + F.2.2.2.1 f * z1.toInt64 - F.2.2.2.2 f) j51)), (5, .int (nI j51))]) dX4_side_100 (by decide) rfl ?_
          refine k_lload C 0 dX4_side_102 rfl ?_
          refine k_lconst C (v := 0) dX4_side_104 (by decide) ?_
          refine k_lc_le C 113 dX4_side_105 dX4_side_106 (by decide) (fun h_3 => ?_) (fun h_3 => ?_)
          · refine k_lload C 0 dX4_side_113 rfl ?_
            refine k_lconst C (v := 0) dX4_side_115 (by decide) ?_
            refine k_lc_ne C 130 dX4_side_116 dX4_side_117 (by decide) (fun h_4 => ?_) (fun h_4 => ?_)
            · refine k_iload C 5 dX4_side_130 rfl ?_
              refine k_istore C (lv' := [(4, .int (sdI (fun f => F.2.1 f * x.toInt64 + F.2.2.1 f * y.toInt64 + F.2.2.2.1 f * z1.toInt64 - F.2.2.2.2 f) j51)), (6, .long (((((F.2.1 j51) * x.toInt64) + ((F.2.2.1 j51) * y.toInt64)) + ((F.2.2.2.1 j51) * z1.toInt64)) - (F.2.2.2.2 j51))), (0, .ref (ad 0)), (1, .int x), (2, .int y), (3, .int z1), (5, .int (nI j51))]) dX4_side_132 (by decide) rfl ?_
              refine k_iinc C (v := (nI (j51 + 1))) (lv' := [(5, .int (nI (j51 + 1))), (4, .int (sdI (fun f => F.2.1 f * x.toInt64 + F.2.2.1 f * y.toInt64 + F.2.2.2.1 f * z1.toInt64 - F.2.2.2.2 f) j51)), (6, .long (((((F.2.1 j51) * x.toInt64) + ((F.2.2.1 j51) * y.toInt64)) + ((F.2.2.2.1 j51) * z1.toInt64)) - (F.2.2.2.2 j51))), (0, .ref (ad 0)), (1, .int x), (2, .int y), (3, .int z1)]) 6 dX4_side_134 rfl (nI_1 _) (by decide) rfl ?_
              refine k_goto C 51 dX4_side_137 (by decide) ?_
              have e66_0 : (sdI (fun f => F.2.1 f * x.toInt64 + F.2.2.1 f * y.toInt64 + F.2.2.2.1 f * z1.toInt64 - F.2.2.2.2 f) j51) = (sdI (fun f => F.2.1 f * x.toInt64 + F.2.2.1 f * y.toInt64 + F.2.2.2.1 f * z1.toInt64 - F.2.2.2.2 f) (j51 + 1)) := by rw [sdI, if_neg (by assumption), if_neg (by rw [← nI1]; simp [h_2, h_3, h_4])]
              exact k_lv [3, 4, 5, 6, 1, 0] (by rw [← e66_0]; rfl) (ih51 (j51 + 1) (by omega) (by omega))
            · refine k_iload C 5 dX4_side_120 rfl ?_
              refine k_iconst C (v := (nI 1)) dX4_side_122 (by decide) ?_
              refine k_icmp_ne C 130 dX4_side_123 (by decide) (fun h_5 => ?_) (fun h_5 => ?_)
              · refine k_iload C 5 dX4_side_130 rfl ?_
                refine k_istore C (lv' := [(4, .int (sdI (fun f => F.2.1 f * x.toInt64 + F.2.2.1 f * y.toInt64 + F.2.2.2.1 f * z1.toInt64 - F.2.2.2.2 f) j51)), (6, .long (((((F.2.1 j51) * x.toInt64) + ((F.2.2.1 j51) * y.toInt64)) + ((F.2.2.2.1 j51) * z1.toInt64)) - (F.2.2.2.2 j51))), (0, .ref (ad 0)), (1, .int x), (2, .int y), (3, .int z1), (5, .int (nI j51))]) dX4_side_132 (by decide) rfl ?_
                refine k_iinc C (v := (nI (j51 + 1))) (lv' := [(5, .int (nI (j51 + 1))), (4, .int (sdI (fun f => F.2.1 f * x.toInt64 + F.2.2.1 f * y.toInt64 + F.2.2.2.1 f * z1.toInt64 - F.2.2.2.2 f) j51)), (6, .long (((((F.2.1 j51) * x.toInt64) + ((F.2.2.1 j51) * y.toInt64)) + ((F.2.2.2.1 j51) * z1.toInt64)) - (F.2.2.2.2 j51))), (0, .ref (ad 0)), (1, .int x), (2, .int y), (3, .int z1)]) 6 dX4_side_134 rfl (nI_1 _) (by decide) rfl ?_
                refine k_goto C 51 dX4_side_137 (by decide) ?_
                have e76_0 : (sdI (fun f => F.2.1 f * x.toInt64 + F.2.2.1 f * y.toInt64 + F.2.2.2.1 f * z1.toInt64 - F.2.2.2.2 f) j51) = (sdI (fun f => F.2.1 f * x.toInt64 + F.2.2.1 f * y.toInt64 + F.2.2.2.1 f * z1.toInt64 - F.2.2.2.2 f) (j51 + 1)) := by rw [sdI, if_neg (by assumption), if_neg (by rw [← nI1]; simp [h_2, h_3, h_4, h_5])]
                exact k_lv [3, 4, 5, 6, 1, 0] (by rw [← e76_0]; rfl) (ih51 (j51 + 1) (by omega) (by omega))
              · refine k_iconst C (v := (nI 0)) dX4_side_126 (by decide) ?_
                refine k_goto C 132 dX4_side_127 (by decide) ?_
                refine k_istore C (lv' := [(4, .int (nI 0)), (6, .long (((((F.2.1 j51) * x.toInt64) + ((F.2.2.1 j51) * y.toInt64)) + ((F.2.2.2.1 j51) * z1.toInt64)) - (F.2.2.2.2 j51))), (0, .ref (ad 0)), (1, .int x), (2, .int y), (3, .int z1), (5, .int (nI j51))]) dX4_side_132 (by decide) rfl ?_
                refine k_iinc C (v := (nI (j51 + 1))) (lv' := [(5, .int (nI (j51 + 1))), (4, .int (nI 0)), (6, .long (((((F.2.1 j51) * x.toInt64) + ((F.2.2.1 j51) * y.toInt64)) + ((F.2.2.2.1 j51) * z1.toInt64)) - (F.2.2.2.2 j51))), (0, .ref (ad 0)), (1, .int x), (2, .int y), (3, .int z1)]) 6 dX4_side_134 rfl (nI_1 _) (by decide) rfl ?_
                refine k_goto C 51 dX4_side_137 (by decide) ?_
                have e83_0 : (nI 0) = (sdI (fun f => F.2.1 f * x.toInt64 + F.2.2.1 f * y.toInt64 + F.2.2.2.1 f * z1.toInt64 - F.2.2.2.2 f) (j51 + 1)) := by rw [sdI, if_neg (by assumption), if_pos ⟨by assumption, by assumption⟩]; rfl
                exact k_lv [3, 4, 5, 6, 1, 0] (by rw [← e83_0]; rfl) (ih51 (j51 + 1) (by omega) (by omega))
          · refine k_iconst C (v := (-1)) dX4_side_109 (by decide) ?_
            refine k_goto C 132 dX4_side_110 (by decide) ?_
            refine k_istore C (lv' := [(4, .int (-1)), (6, .long (((((F.2.1 j51) * x.toInt64) + ((F.2.2.1 j51) * y.toInt64)) + ((F.2.2.2.1 j51) * z1.toInt64)) - (F.2.2.2.2 j51))), (0, .ref (ad 0)), (1, .int x), (2, .int y), (3, .int z1), (5, .int (nI j51))]) dX4_side_132 (by decide) rfl ?_
            refine k_iinc C (v := (nI (j51 + 1))) (lv' := [(5, .int (nI (j51 + 1))), (4, .int (-1)), (6, .long (((((F.2.1 j51) * x.toInt64) + ((F.2.2.1 j51) * y.toInt64)) + ((F.2.2.2.1 j51) * z1.toInt64)) - (F.2.2.2.2 j51))), (0, .ref (ad 0)), (1, .int x), (2, .int y), (3, .int z1)]) 6 dX4_side_134 rfl (nI_1 _) (by decide) rfl ?_
            refine k_goto C 51 dX4_side_137 (by decide) ?_
            have e88_0 : (-1) = (sdI (fun f => F.2.1 f * x.toInt64 + F.2.2.1 f * y.toInt64 + F.2.2.2.1 f * z1.toInt64 - F.2.2.2.2 f) (j51 + 1)) := by rw [sdI, if_pos (by assumption)]
            exact k_lv [3, 4, 5, 6, 1, 0] (by rw [← e88_0]; rfl) (ih51 (j51 + 1) (by omega) (by omega))
    · refine k_iconst C (v := (nI 0)) dX4_side_43 (by decide) ?_
      exact hret _ _ _ _ ⟨by rw [if_neg (by rw [h_1]; decide)]; rfl, rfl⟩ dX4_side_44
  refine k_aload_n C 0 dX4_side_0 rfl rfl ?_
  refine k_aload_n C 0 dX4_side_1 rfl rfl ?_
  refine k_get C hinX4 0 5 rfl rfl (by decide) lk6 rfl rfl dX4_side_2 ?_
  refine k_iload_n C 1 dX4_side_5 rfl rfl ?_
  refine k_ldc C (v := (nI 65536)) dX4_side_6 lk7 ?_
  refine k_callSI C (ar := 2) (As := [.int x, .int (nI 65536)]) (rest := [.int (b2i bt), .ref (ad 0)]) (c4_within (kxL X) (kxD X) cI cJ cF cD x (nI 65536)) gX4_side_X4_within rfl rfl rfl (by decide +kernel) ⟨Nat.le_of_ble_eq_true rfl, Nat.le_of_ble_eq_true rfl⟩ rfl rfl (Nat.le_of_ble_eq_true rfl) dX4_side_8 (Nat.zero_le _) (Nat.zero_le _) (fun r w hw => ?_)
  obtain ⟨rfl, rfl⟩ := hw
  refine k_if_eqB C 36 dX4_side_11 (by decide) (fun h_6 => ?_) (fun h_6 => ?_)
  · refine k_iconst C (v := (nI 0)) dX4_side_36 (by decide) ?_
    refine k_topi (b2i (withinB x (nI 65536) && withinB y (nI 65536) && withinB z1 (nI 65536))) (by simp [b2i, nI0, nI1, h_6]) ?_
    exact k_lv [0, 1, 2, 3] rfl (J37)
  · refine k_iload_n C 2 dX4_side_14 rfl rfl ?_
    refine k_ldc C (v := (nI 65536)) dX4_side_15 lk7 ?_
    refine k_callSI C (ar := 2) (As := [.int y, .int (nI 65536)]) (rest := [.int (b2i bt), .ref (ad 0)]) (c4_within (kxL X) (kxD X) cI cJ cF cD y (nI 65536)) gX4_side_X4_within rfl rfl rfl (by decide +kernel) ⟨Nat.le_of_ble_eq_true rfl, Nat.le_of_ble_eq_true rfl⟩ rfl rfl (Nat.le_of_ble_eq_true rfl) dX4_side_17 (Nat.zero_le _) (Nat.zero_le _) (fun r w hw => ?_)
    obtain ⟨rfl, rfl⟩ := hw
    refine k_if_eqB C 36 dX4_side_20 (by decide) (fun h_7 => ?_) (fun h_7 => ?_)
    · refine k_iconst C (v := (nI 0)) dX4_side_36 (by decide) ?_
      refine k_topi (b2i (withinB x (nI 65536) && withinB y (nI 65536) && withinB z1 (nI 65536))) (by simp [b2i, nI0, nI1, h_6, h_7]) ?_
      exact k_lv [0, 1, 2, 3] rfl (J37)
    · refine k_iload_n C 3 dX4_side_23 rfl rfl ?_
      refine k_ldc C (v := (nI 65536)) dX4_side_24 lk7 ?_
      refine k_callSI C (ar := 2) (As := [.int z1, .int (nI 65536)]) (rest := [.int (b2i bt), .ref (ad 0)]) (c4_within (kxL X) (kxD X) cI cJ cF cD z1 (nI 65536)) gX4_side_X4_within rfl rfl rfl (by decide +kernel) ⟨Nat.le_of_ble_eq_true rfl, Nat.le_of_ble_eq_true rfl⟩ rfl rfl (Nat.le_of_ble_eq_true rfl) dX4_side_26 (Nat.zero_le _) (Nat.zero_le _) (fun r w hw => ?_)
      obtain ⟨rfl, rfl⟩ := hw
      refine k_if_eqB C 36 dX4_side_29 (by decide) (fun h_8 => ?_) (fun h_8 => ?_)
      · refine k_iconst C (v := (nI 0)) dX4_side_36 (by decide) ?_
        refine k_topi (b2i (withinB x (nI 65536) && withinB y (nI 65536) && withinB z1 (nI 65536))) (by simp [b2i, nI0, nI1, h_6, h_7, h_8]) ?_
        exact k_lv [0, 1, 2, 3] rfl (J37)
      · refine k_iconst C (v := (nI 1)) dX4_side_32 (by decide) ?_
        refine k_goto C 37 dX4_side_33 (by decide) ?_
        refine k_topi (b2i (withinB x (nI 65536) && withinB y (nI 65536) && withinB z1 (nI 65536))) (by simp [b2i, nI0, nI1, h_6, h_7, h_8]) ?_
        exact k_lv [0, 1, 2, 3] rfl (J37)
set_option maxHeartbeats 4000000 in
set_option maxRecDepth 100000 in
theorem c4_sum (l : Launch) (D : va_G) (cI cJ cF cD : ClassId) {ad : Nat → Nat} {thr pts blt bds hld egs : Int32} {tx ty tz : Int64} {xs ys zs odr nds lfs rts far : Nat → Int32} {hx hy hz : Nat → Int64} {F : FT} {o z : Nat → Nat} (wh : Int32) (hF : F.1 ≤ 64) (ho : ∀ i, o i < 24) (hz9 : ∀ i, z i ≤ 24) : CtL l D (tyG cI cJ cF cD) yX4_sum wsX4_sum ({ frames := 0, cells := 0, slots := 0, locals := 0 }) [.ref (ad 0), .int wh] (wM ad cI cJ thr pts blt bds hld (nI F.1) egs tx ty tz xs ys zs (nA z) (nA o) odr nds lfs rts far hx hy hz F.2.1 F.2.2.1 F.2.2.2.1 F.2.2.2.2) (fun r w => r = (sum1 o z hx hy hz wh F.1) ∧ w = (wM ad cI cJ thr pts blt bds hld (nI F.1) egs tx ty tz xs ys zs (nA z) (nA o) odr nds lfs rts far hx hy hz F.2.1 F.2.2.1 F.2.2.2.1 F.2.2.2.2)) := by
  refine ctL_of (cc := cX4_sum) (maxL := 13) (by decide) rfl (Nat.le_of_ble_eq_true rfl) ?_
  intro X hXl hXd C hret
  have lk0 : Cond.fieldLink RX4 91 "HullBuilderModel" "faces" "I" ∈ wsX4_sum := by decide +kernel
  have hinX4 : ∀ w ∈ wsX40, w ∈ wsX4_sum := by decide +kernel
  have lk2 : Cond.fieldLink RX4 44 "HullBuilderModel" "corners" "[I" ∈ wsX4_sum := by decide +kernel
  have lk3 : Cond.fieldLink RX4 41 "HullBuilderModel" "sizes" "[I" ∈ wsX4_sum := by decide +kernel
  have lk4 : Cond.fieldLink RX4 19 "HullBuilderModel" "hx" "[J" ∈ wsX4_sum := by decide +kernel
  have lk5 : Cond.fieldLink RX4 23 "HullBuilderModel" "hy" "[J" ∈ wsX4_sum := by decide +kernel
  have lk6 : Cond.fieldLink RX4 26 "HullBuilderModel" "hz" "[J" ∈ wsX4_sum := by decide +kernel
  show Kw X 0 0 (wM ad cI cJ thr pts blt bds hld (nI F.1) egs tx ty tz xs ys zs (nA z) (nA o) odr nds lfs rts far hx hy hz F.2.1 F.2.2.1 F.2.2.2.1 F.2.2.2.2) 0 [(0, .ref (ad 0)), (1, .int wh)] []
  refine k_lconst C (v := 0) dX4_sum_0 (by decide) ?_
  refine k_lstore_n C (lv' := [(2, .long 0), (0, .ref (ad 0)), (1, .int wh)]) dX4_sum_1 rfl (by decide) rfl ?_
  refine k_iconst C (v := (nI 0)) dX4_sum_2 (by decide) ?_
  refine k_istore C (lv' := [(4, .int (nI 0)), (2, .long 0), (0, .ref (ad 0)), (1, .int wh)]) dX4_sum_3 (by decide) rfl ?_
  suffices L5 : ∀ (n5 j5 : Nat), j5 ≤ F.1 → F.1 + 1 ≤ j5 + n5 → Kw X 0 0 (wM ad cI cJ thr pts blt bds hld (nI F.1) egs tx ty tz xs ys zs (nA z) (nA o) odr nds lfs rts far hx hy hz F.2.1 F.2.2.1 F.2.2.2.1 F.2.2.2.2) 5 [(0, .ref (ad 0)), (1, .int wh), (2, .long (sum1 o z hx hy hz wh j5)), (4, .int (nI j5))] [] by
    have e5_0 : 0 = (sum1 o z hx hy hz wh 0) := rfl
    exact k_lv [2, 3, 1, 0] (by rw [← e5_0]; rfl) (L5 (F.1 + 1) 0 (by omega) (by omega))
  intro n5
  induction n5 with
  | zero => intro j5 a1 a2; exact absurd a2 (by omega)
  | succ n5 ih5 =>
    intro j5 b5 c5
    refine k_iload C 3 dX4_sum_5 rfl ?_
    refine k_aload_n C 0 dX4_sum_7 rfl rfl ?_
    refine k_get C hinX4 0 11 rfl rfl (by decide) lk0 rfl rfl dX4_sum_8 ?_
    refine k_icmp_geN C (by omega) (by omega) 310 dX4_sum_11 (by decide) (fun h_1 => ?_) (fun h_1 => ?_)
    · refine k_lload_n C 2 dX4_sum_310 rfl rfl ?_
      exact hret _ _ _ _ ⟨by rw [show j5 = F.1 by omega], rfl⟩ dX4_sum_311
    · have hzk := hz9 j5
      have hoa := ho (24 * j5)
      refine k_aload_n C 0 dX4_sum_14 rfl rfl ?_
      refine k_get C hinX4 0 17 rfl rfl (by decide) lk2 rfl rfl dX4_sum_15 ?_
      refine k_bipush C (v := (nI 24)) dX4_sum_18 (by decide) ?_
      refine k_iload C 3 dX4_sum_20 rfl ?_
      refine k_imulN C dX4_sum_22 ?_
      refine k_ialdN C (j := (24 * j5)) 12 0 rfl rfl (by omega) (by decide) dX4_sum_23 ?_
      refine k_istore C (lv' := [(5, .int (nI (o (24 * j5)))), (0, .ref (ad 0)), (1, .int wh), (2, .long (sum1 o z hx hy hz wh j5)), (4, .int (nI j5))]) dX4_sum_24 (by decide) rfl ?_
      refine k_iconst C (v := (nI 1)) dX4_sum_26 (by decide) ?_
      refine k_istore C (lv' := [(6, .int (nI 1)), (5, .int (nI (o (24 * j5)))), (0, .ref (ad 0)), (1, .int wh), (2, .long (sum1 o z hx hy hz wh j5)), (4, .int (nI j5))]) dX4_sum_27 (by decide) rfl ?_
      suffices L29 : ∀ (n29 j29 : Nat), j29 ≤ (z j5 + 1) → (z j5 + 1) + 1 ≤ j29 + n29 → 1 ≤ j29 ∧ (j29 = 1 ∨ j29 + 1 ≤ z j5 + 0) → Kw X 0 0 (wM ad cI cJ thr pts blt bds hld (nI F.1) egs tx ty tz xs ys zs (nA z) (nA o) odr nds lfs rts far hx hy hz F.2.1 F.2.2.1 F.2.2.2.1 F.2.2.2.2) 29 [(0, .ref (ad 0)), (1, .int wh), (2, .long (sum2 (trmL o hx hy hz wh j5) (sum1 o z hx hy hz wh j5) (j29 - 1))), (4, .int (nI j5)), (5, .int (nI (o (24 * j5)))), (6, .int (nI j29))] [] by
        have e31_0 : (sum1 o z hx hy hz wh j5) = (sum2 (trmL o hx hy hz wh j5) (sum1 o z hx hy hz wh j5) (1 - 1)) := rfl
        exact k_lv [2, 3, 4, 5, 1, 0] (by rw [← e31_0]; rfl) (L29 ((z j5 + 1) + 1) 1 (by omega) (by omega) ⟨Nat.le_refl _, Or.inl rfl⟩)
      intro n29
      induction n29 with
      | zero => intro j29 a1 a2; exact absurd a2 (by omega)
      | succ n29 ih29 =>
        intro j29 b29 c29 g29_0
        refine k_iload C 5 dX4_sum_29 rfl ?_
        refine k_iconst C (v := (nI 1)) dX4_sum_31 (by decide) ?_
        refine k_iaddN C dX4_sum_32 ?_
        refine k_aload_n C 0 dX4_sum_33 rfl rfl ?_
        refine k_get C hinX4 0 16 rfl rfl (by decide) lk3 rfl rfl dX4_sum_34 ?_
        refine k_iload C 3 dX4_sum_37 rfl ?_
        refine k_ialdN C (j := j5) 11 0 rfl rfl (by omega) (by decide) dX4_sum_39 ?_
        refine k_icmp_geN C (by omega) (by omega) 304 dX4_sum_40 (by decide) (fun h_2 => ?_) (fun h_2 => ?_)
        · refine k_iinc C (v := (nI (j5 + 1))) (lv' := [(4, .int (nI (j5 + 1))), (0, .ref (ad 0)), (1, .int wh), (2, .long (sum2 (trmL o hx hy hz wh j5) (sum1 o z hx hy hz wh j5) (j29 - 1))), (5, .int (nI (o (24 * j5)))), (6, .int (nI j29))]) 3 dX4_sum_304 rfl (nI_1 _) (by decide) rfl ?_
          refine k_goto C 5 dX4_sum_307 (by decide) ?_
          have e49_0 : (sum2 (trmL o hx hy hz wh j5) (sum1 o z hx hy hz wh j5) (j29 - 1)) = (sum1 o z hx hy hz wh (j5 + 1)) := by rw [sum1, show z j5 - 2 = j29 - 1 by omega]
          exact k_lv [1, 2, 3, 0] (by rw [← e49_0]; rfl) (ih5 (j5 + 1) (by omega) (by omega))
        · have hob := ho ((24 * j5) + j29)
          have hoc := ho (((24 * j5) + j29) + 1)
          refine k_aload_n C 0 dX4_sum_43 rfl rfl ?_
          refine k_get C hinX4 0 17 rfl rfl (by decide) lk2 rfl rfl dX4_sum_44 ?_
          refine k_bipush C (v := (nI 24)) dX4_sum_47 (by decide) ?_
          refine k_iload C 3 dX4_sum_49 rfl ?_
          refine k_imulN C dX4_sum_51 ?_
          refine k_iload C 5 dX4_sum_52 rfl ?_
          refine k_iaddN C dX4_sum_54 ?_
          refine k_ialdN C (j := ((24 * j5) + j29)) 12 0 rfl rfl (by omega) (by decide) dX4_sum_55 ?_
          refine k_istore C (lv' := [(7, .int (nI (o ((24 * j5) + j29)))), (0, .ref (ad 0)), (1, .int wh), (2, .long (sum2 (trmL o hx hy hz wh j5) (sum1 o z hx hy hz wh j5) (j29 - 1))), (4, .int (nI j5)), (5, .int (nI (o (24 * j5)))), (6, .int (nI j29))]) dX4_sum_56 (by decide) rfl ?_
          refine k_aload_n C 1 dX4_sum_58 rfl rfl ?_
          refine k_get C hinX4 0 17 rfl rfl (by decide) lk2 rfl rfl dX4_sum_59 ?_
          refine k_bipush C (v := (nI 24)) dX4_sum_62 (by decide) ?_
          refine k_iload C 4 dX4_sum_64 rfl ?_
          refine k_imulN C dX4_sum_66 ?_
          refine k_iload C 6 dX4_sum_67 rfl ?_
          refine k_iaddN C dX4_sum_69 ?_
          refine k_iconst C (v := (nI 1)) dX4_sum_70 (by decide) ?_
          refine k_iaddN C dX4_sum_71 ?_
          refine k_ialdN C (j := (((24 * j5) + j29) + 1)) 12 0 rfl rfl (by omega) (by decide) dX4_sum_72 ?_
          refine k_istore C (lv' := [(8, .int (nI (o (((24 * j5) + j29) + 1)))), (7, .int (nI (o ((24 * j5) + j29)))), (0, .ref (ad 0)), (1, .int wh), (2, .long (sum2 (trmL o hx hy hz wh j5) (sum1 o z hx hy hz wh j5) (j29 - 1))), (4, .int (nI j5)), (5, .int (nI (o (24 * j5)))), (6, .int (nI j29))]) dX4_sum_73 (by decide) rfl ?_
          refine k_aload_n C 2 dX4_sum_75 rfl rfl ?_
          refine k_get C hinX4 0 8 rfl rfl (by decide) lk4 rfl rfl dX4_sum_76 ?_
          refine k_iload C 6 dX4_sum_79 rfl ?_
          refine k_lald C (j := (o (24 * j5))) 4 1 rfl rfl (by omega) (by decide) dX4_sum_81 ?_
          refine k_aload_n C 2 dX4_sum_82 rfl rfl ?_
          refine k_get C hinX4 0 9 rfl rfl (by decide) lk5 rfl rfl dX4_sum_83 ?_
          refine k_iload C 1 dX4_sum_86 rfl ?_
          refine k_lald C (j := (o ((24 * j5) + j29))) 5 1 rfl rfl (by omega) (by decide) dX4_sum_88 ?_
          refine k_aload_n C 2 dX4_sum_89 rfl rfl ?_
          refine k_get C hinX4 0 10 rfl rfl (by decide) lk6 rfl rfl dX4_sum_90 ?_
          refine k_iload C 0 dX4_sum_93 rfl ?_
          refine k_lald C (j := (o (((24 * j5) + j29) + 1))) 6 1 rfl rfl (by omega) (by decide) dX4_sum_95 ?_
          refine k_lmul C dX4_sum_96 ?_
          refine k_aload_n C 2 dX4_sum_97 rfl rfl ?_
          refine k_get C hinX4 0 10 rfl rfl (by decide) lk6 rfl rfl dX4_sum_98 ?_
          refine k_iload C 1 dX4_sum_101 rfl ?_
          refine k_lald C (j := (o ((24 * j5) + j29))) 6 1 rfl rfl (by omega) (by decide) dX4_sum_103 ?_
          refine k_aload_n C 2 dX4_sum_104 rfl rfl ?_
          refine k_get C hinX4 0 9 rfl rfl (by decide) lk5 rfl rfl dX4_sum_105 ?_
          refine k_iload C 0 dX4_sum_108 rfl ?_
          refine k_lald C (j := (o (((24 * j5) + j29) + 1))) 5 1 rfl rfl (by omega) (by decide) dX4_sum_110 ?_
          refine k_lmul C dX4_sum_111 ?_
          refine k_lsub C dX4_sum_112 ?_
          refine k_lmul C dX4_sum_113 ?_
          refine k_aload_n C 2 dX4_sum_114 rfl rfl ?_
          refine k_get C hinX4 0 9 rfl rfl (by decide) lk5 rfl rfl dX4_sum_115 ?_
          refine k_iload C 6 dX4_sum_118 rfl ?_
          refine k_lald C (j := (o (24 * j5))) 5 1 rfl rfl (by omega) (by decide) dX4_sum_120 ?_
          refine k_aload_n C 2 dX4_sum_121 rfl rfl ?_
          refine k_get C hinX4 0 10 rfl rfl (by decide) lk6 rfl rfl dX4_sum_122 ?_
          refine k_iload C 1 dX4_sum_125 rfl ?_
          refine k_lald C (j := (o ((24 * j5) + j29))) 6 1 rfl rfl (by omega) (by decide) dX4_sum_127 ?_
          refine k_aload_n C 2 dX4_sum_128 rfl rfl ?_
          refine k_get C hinX4 0 8 rfl rfl (by decide) lk4 rfl rfl dX4_sum_129 ?_
          refine k_iload C 0 dX4_sum_132 rfl ?_
          refine k_lald C (j := (o (((24 * j5) + j29) + 1))) 4 1 rfl rfl (by omega) (by decide) dX4_sum_134 ?_
          refine k_lmul C dX4_sum_135 ?_
          refine k_aload_n C 2 dX4_sum_136 rfl rfl ?_
          refine k_get C hinX4 0 8 rfl rfl (by decide) lk4 rfl rfl dX4_sum_137 ?_
          refine k_iload C 1 dX4_sum_140 rfl ?_
          refine k_lald C (j := (o ((24 * j5) + j29))) 4 1 rfl rfl (by omega) (by decide) dX4_sum_142 ?_
          refine k_aload_n C 2 dX4_sum_143 rfl rfl ?_
          refine k_get C hinX4 0 10 rfl rfl (by decide) lk6 rfl rfl dX4_sum_144 ?_
          refine k_iload C 0 dX4_sum_147 rfl ?_
          refine k_lald C (j := (o (((24 * j5) + j29) + 1))) 6 1 rfl rfl (by omega) (by decide) dX4_sum_149 ?_
          refine k_lmul C dX4_sum_150 ?_
          refine k_lsub C dX4_sum_151 ?_
          refine k_lmul C dX4_sum_152 ?_
          refine k_ladd C dX4_sum_153 ?_
          refine k_aload_n C 2 dX4_sum_154 rfl rfl ?_
          refine k_get C hinX4 0 10 rfl rfl (by decide) lk6 rfl rfl dX4_sum_155 ?_
          refine k_iload C 6 dX4_sum_158 rfl ?_
          refine k_lald C (j := (o (24 * j5))) 6 1 rfl rfl (by omega) (by decide) dX4_sum_160 ?_
          refine k_aload_n C 2 dX4_sum_161 rfl rfl ?_
          refine k_get C hinX4 0 8 rfl rfl (by decide) lk4 rfl rfl dX4_sum_162 ?_
          refine k_iload C 1 dX4_sum_165 rfl ?_
          refine k_lald C (j := (o ((24 * j5) + j29))) 4 1 rfl rfl (by omega) (by decide) dX4_sum_167 ?_
          refine k_aload_n C 2 dX4_sum_168 rfl rfl ?_
          refine k_get C hinX4 0 9 rfl rfl (by decide) lk5 rfl rfl dX4_sum_169 ?_
          refine k_iload C 0 dX4_sum_172 rfl ?_
          refine k_lald C (j := (o (((24 * j5) + j29) + 1))) 5 1 rfl rfl (by omega) (by decide) dX4_sum_174 ?_
          refine k_lmul C dX4_sum_175 ?_
          refine k_aload_n C 2 dX4_sum_176 rfl rfl ?_
          refine k_get C hinX4 0 9 rfl rfl (by decide) lk5 rfl rfl dX4_sum_177 ?_
          refine k_iload C 1 dX4_sum_180 rfl ?_
          refine k_lald C (j := (o ((24 * j5) + j29))) 5 1 rfl rfl (by omega) (by decide) dX4_sum_182 ?_
          refine k_aload_n C 2 dX4_sum_183 rfl rfl ?_
          refine k_get C hinX4 0 8 rfl rfl (by decide) lk4 rfl rfl dX4_sum_184 ?_
          refine k_iload C 0 dX4_sum_187 rfl ?_
          refine k_lald C (j := (o (((24 * j5) + j29) + 1))) 4 1 rfl rfl (by omega) (by decide) dX4_sum_189 ?_
          refine k_lmul C dX4_sum_190 ?_
          refine k_lsub C dX4_sum_191 ?_
          refine k_lmul C dX4_sum_192 ?_
          refine k_ladd C dX4_sum_193 ?_
          refine k_lstore C (lv' := [(9, .long ((((hx (o (24 * j5))) * (((hy (o ((24 * j5) + j29))) * (hz (o (((24 * j5) + j29) + 1)))) - ((hz (o ((24 * j5) + j29))) * (hy (o (((24 * j5) + j29) + 1)))))) + ((hy (o (24 * j5))) * (((hz (o ((24 * j5) + j29))) * (hx (o (((24 * j5) + j29) + 1)))) - ((hx (o ((24 * j5) + j29))) * (hz (o (((24 * j5) + j29) + 1))))))) + ((hz (o (24 * j5))) * (((hx (o ((24 * j5) + j29))) * (hy (o (((24 * j5) + j29) + 1)))) - ((hy (o ((24 * j5) + j29))) * (hx (o (((24 * j5) + j29) + 1)))))))), (8, .int (nI (o (((24 * j5) + j29) + 1)))), (7, .int (nI (o ((24 * j5) + j29)))), (0, .ref (ad 0)), (1, .int wh), (2, .long (sum2 (trmL o hx hy hz wh j5) (sum1 o z hx hy hz wh j5) (j29 - 1))), (4, .int (nI j5)), (5, .int (nI (o (24 * j5)))), (6, .int (nI j29))]) dX4_sum_194 (by decide) rfl ?_
          refine k_iload_n C 4 dX4_sum_196 rfl rfl ?_
          refine k_if_ge C 204 dX4_sum_197 (by decide) (fun h_3 => ?_) (fun h_3 => ?_)
          · refine k_iload_n C 4 dX4_sum_204 rfl rfl ?_
            refine k_if_ne C 234 dX4_sum_205 (by decide) (fun h_4 => ?_) (fun h_4 => ?_)
            · refine k_iload_n C 4 dX4_sum_234 rfl rfl ?_
              refine k_iconst C (v := (nI 1)) dX4_sum_235 (by decide) ?_
              refine k_icmp_ne C 265 dX4_sum_236 (by decide) (fun h_5 => ?_) (fun h_5 => ?_)
              · refine k_aload_n C 3 dX4_sum_265 rfl rfl ?_
                refine k_get C hinX4 0 10 rfl rfl (by decide) lk6 rfl rfl dX4_sum_266 ?_
                refine k_iload C 7 dX4_sum_269 rfl ?_
                refine k_lald C (j := (o (24 * j5))) 6 1 rfl rfl (by omega) (by decide) dX4_sum_271 ?_
                refine k_aload_n C 3 dX4_sum_272 rfl rfl ?_
                refine k_get C hinX4 0 10 rfl rfl (by decide) lk6 rfl rfl dX4_sum_273 ?_
                refine k_iload C 2 dX4_sum_276 rfl ?_
                refine k_lald C (j := (o ((24 * j5) + j29))) 6 1 rfl rfl (by omega) (by decide) dX4_sum_278 ?_
                refine k_ladd C dX4_sum_279 ?_
                refine k_aload_n C 3 dX4_sum_280 rfl rfl ?_
                refine k_get C hinX4 0 10 rfl rfl (by decide) lk6 rfl rfl dX4_sum_281 ?_
                refine k_iload C 1 dX4_sum_284 rfl ?_
                refine k_lald C (j := (o (((24 * j5) + j29) + 1))) 6 1 rfl rfl (by omega) (by decide) dX4_sum_286 ?_
                refine k_ladd C dX4_sum_287 ?_
                refine k_lstore C (lv' := [(11, .long (((hz (o (24 * j5))) + (hz (o ((24 * j5) + j29)))) + (hz (o (((24 * j5) + j29) + 1))))), (9, .long ((((hx (o (24 * j5))) * (((hy (o ((24 * j5) + j29))) * (hz (o (((24 * j5) + j29) + 1)))) - ((hz (o ((24 * j5) + j29))) * (hy (o (((24 * j5) + j29) + 1)))))) + ((hy (o (24 * j5))) * (((hz (o ((24 * j5) + j29))) * (hx (o (((24 * j5) + j29) + 1)))) - ((hx (o ((24 * j5) + j29))) * (hz (o (((24 * j5) + j29) + 1))))))) + ((hz (o (24 * j5))) * (((hx (o ((24 * j5) + j29))) * (hy (o (((24 * j5) + j29) + 1)))) - ((hy (o ((24 * j5) + j29))) * (hx (o (((24 * j5) + j29) + 1)))))))), (8, .int (nI (o (((24 * j5) + j29) + 1)))), (7, .int (nI (o ((24 * j5) + j29)))), (0, .ref (ad 0)), (1, .int wh), (2, .long (sum2 (trmL o hx hy hz wh j5) (sum1 o z hx hy hz wh j5) (j29 - 1))), (4, .int (nI j5)), (5, .int (nI (o (24 * j5)))), (6, .int (nI j29))]) dX4_sum_288 (by decide) rfl ?_
                refine k_lload_n C 6 dX4_sum_290 rfl rfl ?_
                refine k_lload C 1 dX4_sum_291 rfl ?_
                refine k_lload C 0 dX4_sum_293 rfl ?_
                refine k_lmul C dX4_sum_295 ?_
                refine k_ladd C dX4_sum_296 ?_
                refine k_lstore_n C (lv' := [(2, .long ((sum2 (trmL o hx hy hz wh j5) (sum1 o z hx hy hz wh j5) (j29 - 1)) + (((((hx (o (24 * j5))) * (((hy (o ((24 * j5) + j29))) * (hz (o (((24 * j5) + j29) + 1)))) - ((hz (o ((24 * j5) + j29))) * (hy (o (((24 * j5) + j29) + 1)))))) + ((hy (o (24 * j5))) * (((hz (o ((24 * j5) + j29))) * (hx (o (((24 * j5) + j29) + 1)))) - ((hx (o ((24 * j5) + j29))) * (hz (o (((24 * j5) + j29) + 1))))))) + ((hz (o (24 * j5))) * (((hx (o ((24 * j5) + j29))) * (hy (o (((24 * j5) + j29) + 1)))) - ((hy (o ((24 * j5) + j29))) * (hx (o (((24 * j5) + j29) + 1))))))) * (((hz (o (24 * j5))) + (hz (o ((24 * j5) + j29)))) + (hz (o (((24 * j5) + j29) + 1))))))), (11, .long (((hz (o (24 * j5))) + (hz (o ((24 * j5) + j29)))) + (hz (o (((24 * j5) + j29) + 1))))), (9, .long ((((hx (o (24 * j5))) * (((hy (o ((24 * j5) + j29))) * (hz (o (((24 * j5) + j29) + 1)))) - ((hz (o ((24 * j5) + j29))) * (hy (o (((24 * j5) + j29) + 1)))))) + ((hy (o (24 * j5))) * (((hz (o ((24 * j5) + j29))) * (hx (o (((24 * j5) + j29) + 1)))) - ((hx (o ((24 * j5) + j29))) * (hz (o (((24 * j5) + j29) + 1))))))) + ((hz (o (24 * j5))) * (((hx (o ((24 * j5) + j29))) * (hy (o (((24 * j5) + j29) + 1)))) - ((hy (o ((24 * j5) + j29))) * (hx (o (((24 * j5) + j29) + 1)))))))), (8, .int (nI (o (((24 * j5) + j29) + 1)))), (7, .int (nI (o ((24 * j5) + j29)))), (0, .ref (ad 0)), (1, .int wh), (4, .int (nI j5)), (5, .int (nI (o (24 * j5)))), (6, .int (nI j29))]) dX4_sum_297 rfl (by decide) rfl ?_
                refine k_iinc C (v := (nI (j29 + 1))) (lv' := [(6, .int (nI (j29 + 1))), (2, .long ((sum2 (trmL o hx hy hz wh j5) (sum1 o z hx hy hz wh j5) (j29 - 1)) + (((((hx (o (24 * j5))) * (((hy (o ((24 * j5) + j29))) * (hz (o (((24 * j5) + j29) + 1)))) - ((hz (o ((24 * j5) + j29))) * (hy (o (((24 * j5) + j29) + 1)))))) + ((hy (o (24 * j5))) * (((hz (o ((24 * j5) + j29))) * (hx (o (((24 * j5) + j29) + 1)))) - ((hx (o ((24 * j5) + j29))) * (hz (o (((24 * j5) + j29) + 1))))))) + ((hz (o (24 * j5))) * (((hx (o ((24 * j5) + j29))) * (hy (o (((24 * j5) + j29) + 1)))) - ((hy (o ((24 * j5) + j29))) * (hx (o (((24 * j5) + j29) + 1))))))) * (((hz (o (24 * j5))) + (hz (o ((24 * j5) + j29)))) + (hz (o (((24 * j5) + j29) + 1))))))), (11, .long (((hz (o (24 * j5))) + (hz (o ((24 * j5) + j29)))) + (hz (o (((24 * j5) + j29) + 1))))), (9, .long ((((hx (o (24 * j5))) * (((hy (o ((24 * j5) + j29))) * (hz (o (((24 * j5) + j29) + 1)))) - ((hz (o ((24 * j5) + j29))) * (hy (o (((24 * j5) + j29) + 1)))))) + ((hy (o (24 * j5))) * (((hz (o ((24 * j5) + j29))) * (hx (o (((24 * j5) + j29) + 1)))) - ((hx (o ((24 * j5) + j29))) * (hz (o (((24 * j5) + j29) + 1))))))) + ((hz (o (24 * j5))) * (((hx (o ((24 * j5) + j29))) * (hy (o (((24 * j5) + j29) + 1)))) - ((hy (o ((24 * j5) + j29))) * (hx (o (((24 * j5) + j29) + 1)))))))), (8, .int (nI (o (((24 * j5) + j29) + 1)))), (7, .int (nI (o ((24 * j5) + j29)))), (0, .ref (ad 0)), (1, .int wh), (4, .int (nI j5)), (5, .int (nI (o (24 * j5))))]) 9 dX4_sum_298 rfl (nI_1 _) (by decide) rfl ?_
                refine k_goto C 29 dX4_sum_301 (by decide) ?_
                have e181_0 : ((sum2 (trmL o hx hy hz wh j5) (sum1 o z hx hy hz wh j5) (j29 - 1)) + (((((hx (o (24 * j5))) * (((hy (o ((24 * j5) + j29))) * (hz (o (((24 * j5) + j29) + 1)))) - ((hz (o ((24 * j5) + j29))) * (hy (o (((24 * j5) + j29) + 1)))))) + ((hy (o (24 * j5))) * (((hz (o ((24 * j5) + j29))) * (hx (o (((24 * j5) + j29) + 1)))) - ((hx (o ((24 * j5) + j29))) * (hz (o (((24 * j5) + j29) + 1))))))) + ((hz (o (24 * j5))) * (((hx (o ((24 * j5) + j29))) * (hy (o (((24 * j5) + j29) + 1)))) - ((hy (o ((24 * j5) + j29))) * (hx (o (((24 * j5) + j29) + 1))))))) * (((hz (o (24 * j5))) + (hz (o ((24 * j5) + j29)))) + (hz (o (((24 * j5) + j29) + 1)))))) = (sum2 (trmL o hx hy hz wh j5) (sum1 o z hx hy hz wh j5) ((j29 + 1) - 1)) := by rw [show j29 + 1 - 1 = (j29 - 1) + 1 by omega, sum2, show j29 - 1 + 1 = j29 by omega]; simp only [trmL, sixL, byL]; rw [if_neg (Int32.not_lt.mpr (by assumption)), if_neg (by assumption), if_neg (show ¬ wh = 1 from by assumption)]
                exact k_lv [6, 7, 1, 8, 9, 0] (by rw [← e181_0]; rfl) (ih29 (j29 + 1) (by omega) (by omega) ⟨by omega, Or.inr (by omega)⟩)
              · refine k_aload_n C 3 dX4_sum_239 rfl rfl ?_
                refine k_get C hinX4 0 9 rfl rfl (by decide) lk5 rfl rfl dX4_sum_240 ?_
                refine k_iload C 7 dX4_sum_243 rfl ?_
                refine k_lald C (j := (o (24 * j5))) 5 1 rfl rfl (by omega) (by decide) dX4_sum_245 ?_
                refine k_aload_n C 3 dX4_sum_246 rfl rfl ?_
                refine k_get C hinX4 0 9 rfl rfl (by decide) lk5 rfl rfl dX4_sum_247 ?_
                refine k_iload C 2 dX4_sum_250 rfl ?_
                refine k_lald C (j := (o ((24 * j5) + j29))) 5 1 rfl rfl (by omega) (by decide) dX4_sum_252 ?_
                refine k_ladd C dX4_sum_253 ?_
                refine k_aload_n C 3 dX4_sum_254 rfl rfl ?_
                refine k_get C hinX4 0 9 rfl rfl (by decide) lk5 rfl rfl dX4_sum_255 ?_
                refine k_iload C 1 dX4_sum_258 rfl ?_
                refine k_lald C (j := (o (((24 * j5) + j29) + 1))) 5 1 rfl rfl (by omega) (by decide) dX4_sum_260 ?_
                refine k_ladd C dX4_sum_261 ?_
                refine k_goto C 288 dX4_sum_262 (by decide) ?_
                refine k_lstore C (lv' := [(11, .long (((hy (o (24 * j5))) + (hy (o ((24 * j5) + j29)))) + (hy (o (((24 * j5) + j29) + 1))))), (9, .long ((((hx (o (24 * j5))) * (((hy (o ((24 * j5) + j29))) * (hz (o (((24 * j5) + j29) + 1)))) - ((hz (o ((24 * j5) + j29))) * (hy (o (((24 * j5) + j29) + 1)))))) + ((hy (o (24 * j5))) * (((hz (o ((24 * j5) + j29))) * (hx (o (((24 * j5) + j29) + 1)))) - ((hx (o ((24 * j5) + j29))) * (hz (o (((24 * j5) + j29) + 1))))))) + ((hz (o (24 * j5))) * (((hx (o ((24 * j5) + j29))) * (hy (o (((24 * j5) + j29) + 1)))) - ((hy (o ((24 * j5) + j29))) * (hx (o (((24 * j5) + j29) + 1)))))))), (8, .int (nI (o (((24 * j5) + j29) + 1)))), (7, .int (nI (o ((24 * j5) + j29)))), (0, .ref (ad 0)), (1, .int wh), (2, .long (sum2 (trmL o hx hy hz wh j5) (sum1 o z hx hy hz wh j5) (j29 - 1))), (4, .int (nI j5)), (5, .int (nI (o (24 * j5)))), (6, .int (nI j29))]) dX4_sum_288 (by decide) rfl ?_
                refine k_lload_n C 6 dX4_sum_290 rfl rfl ?_
                refine k_lload C 1 dX4_sum_291 rfl ?_
                refine k_lload C 0 dX4_sum_293 rfl ?_
                refine k_lmul C dX4_sum_295 ?_
                refine k_ladd C dX4_sum_296 ?_
                refine k_lstore_n C (lv' := [(2, .long ((sum2 (trmL o hx hy hz wh j5) (sum1 o z hx hy hz wh j5) (j29 - 1)) + (((((hx (o (24 * j5))) * (((hy (o ((24 * j5) + j29))) * (hz (o (((24 * j5) + j29) + 1)))) - ((hz (o ((24 * j5) + j29))) * (hy (o (((24 * j5) + j29) + 1)))))) + ((hy (o (24 * j5))) * (((hz (o ((24 * j5) + j29))) * (hx (o (((24 * j5) + j29) + 1)))) - ((hx (o ((24 * j5) + j29))) * (hz (o (((24 * j5) + j29) + 1))))))) + ((hz (o (24 * j5))) * (((hx (o ((24 * j5) + j29))) * (hy (o (((24 * j5) + j29) + 1)))) - ((hy (o ((24 * j5) + j29))) * (hx (o (((24 * j5) + j29) + 1))))))) * (((hy (o (24 * j5))) + (hy (o ((24 * j5) + j29)))) + (hy (o (((24 * j5) + j29) + 1))))))), (11, .long (((hy (o (24 * j5))) + (hy (o ((24 * j5) + j29)))) + (hy (o (((24 * j5) + j29) + 1))))), (9, .long ((((hx (o (24 * j5))) * (((hy (o ((24 * j5) + j29))) * (hz (o (((24 * j5) + j29) + 1)))) - ((hz (o ((24 * j5) + j29))) * (hy (o (((24 * j5) + j29) + 1)))))) + ((hy (o (24 * j5))) * (((hz (o ((24 * j5) + j29))) * (hx (o (((24 * j5) + j29) + 1)))) - ((hx (o ((24 * j5) + j29))) * (hz (o (((24 * j5) + j29) + 1))))))) + ((hz (o (24 * j5))) * (((hx (o ((24 * j5) + j29))) * (hy (o (((24 * j5) + j29) + 1)))) - ((hy (o ((24 * j5) + j29))) * (hx (o (((24 * j5) + j29) + 1)))))))), (8, .int (nI (o (((24 * j5) + j29) + 1)))), (7, .int (nI (o ((24 * j5) + j29)))), (0, .ref (ad 0)), (1, .int wh), (4, .int (nI j5)), (5, .int (nI (o (24 * j5)))), (6, .int (nI j29))]) dX4_sum_297 rfl (by decide) rfl ?_
                refine k_iinc C (v := (nI (j29 + 1))) (lv' := [(6, .int (nI (j29 + 1))), (2, .long ((sum2 (trmL o hx hy hz wh j5) (sum1 o z hx hy hz wh j5) (j29 - 1)) + (((((hx (o (24 * j5))) * (((hy (o ((24 * j5) + j29))) * (hz (o (((24 * j5) + j29) + 1)))) - ((hz (o ((24 * j5) + j29))) * (hy (o (((24 * j5) + j29) + 1)))))) + ((hy (o (24 * j5))) * (((hz (o ((24 * j5) + j29))) * (hx (o (((24 * j5) + j29) + 1)))) - ((hx (o ((24 * j5) + j29))) * (hz (o (((24 * j5) + j29) + 1))))))) + ((hz (o (24 * j5))) * (((hx (o ((24 * j5) + j29))) * (hy (o (((24 * j5) + j29) + 1)))) - ((hy (o ((24 * j5) + j29))) * (hx (o (((24 * j5) + j29) + 1))))))) * (((hy (o (24 * j5))) + (hy (o ((24 * j5) + j29)))) + (hy (o (((24 * j5) + j29) + 1))))))), (11, .long (((hy (o (24 * j5))) + (hy (o ((24 * j5) + j29)))) + (hy (o (((24 * j5) + j29) + 1))))), (9, .long ((((hx (o (24 * j5))) * (((hy (o ((24 * j5) + j29))) * (hz (o (((24 * j5) + j29) + 1)))) - ((hz (o ((24 * j5) + j29))) * (hy (o (((24 * j5) + j29) + 1)))))) + ((hy (o (24 * j5))) * (((hz (o ((24 * j5) + j29))) * (hx (o (((24 * j5) + j29) + 1)))) - ((hx (o ((24 * j5) + j29))) * (hz (o (((24 * j5) + j29) + 1))))))) + ((hz (o (24 * j5))) * (((hx (o ((24 * j5) + j29))) * (hy (o (((24 * j5) + j29) + 1)))) - ((hy (o ((24 * j5) + j29))) * (hx (o (((24 * j5) + j29) + 1)))))))), (8, .int (nI (o (((24 * j5) + j29) + 1)))), (7, .int (nI (o ((24 * j5) + j29)))), (0, .ref (ad 0)), (1, .int wh), (4, .int (nI j5)), (5, .int (nI (o (24 * j5))))]) 9 dX4_sum_298 rfl (nI_1 _) (by decide) rfl ?_
                refine k_goto C 29 dX4_sum_301 (by decide) ?_
                have e207_0 : ((sum2 (trmL o hx hy hz wh j5) (sum1 o z hx hy hz wh j5) (j29 - 1)) + (((((hx (o (24 * j5))) * (((hy (o ((24 * j5) + j29))) * (hz (o (((24 * j5) + j29) + 1)))) - ((hz (o ((24 * j5) + j29))) * (hy (o (((24 * j5) + j29) + 1)))))) + ((hy (o (24 * j5))) * (((hz (o ((24 * j5) + j29))) * (hx (o (((24 * j5) + j29) + 1)))) - ((hx (o ((24 * j5) + j29))) * (hz (o (((24 * j5) + j29) + 1))))))) + ((hz (o (24 * j5))) * (((hx (o ((24 * j5) + j29))) * (hy (o (((24 * j5) + j29) + 1)))) - ((hy (o ((24 * j5) + j29))) * (hx (o (((24 * j5) + j29) + 1))))))) * (((hy (o (24 * j5))) + (hy (o ((24 * j5) + j29)))) + (hy (o (((24 * j5) + j29) + 1)))))) = (sum2 (trmL o hx hy hz wh j5) (sum1 o z hx hy hz wh j5) ((j29 + 1) - 1)) := by rw [show j29 + 1 - 1 = (j29 - 1) + 1 by omega, sum2, show j29 - 1 + 1 = j29 by omega]; simp only [trmL, sixL, byL]; rw [if_neg (Int32.not_lt.mpr (by assumption)), if_neg (by assumption), if_pos (show wh = 1 from by assumption)]
                exact k_lv [6, 7, 1, 8, 9, 0] (by rw [← e207_0]; rfl) (ih29 (j29 + 1) (by omega) (by omega) ⟨by omega, Or.inr (by omega)⟩)
            · refine k_aload_n C 3 dX4_sum_208 rfl rfl ?_
              refine k_get C hinX4 0 8 rfl rfl (by decide) lk4 rfl rfl dX4_sum_209 ?_
              refine k_iload C 7 dX4_sum_212 rfl ?_
              refine k_lald C (j := (o (24 * j5))) 4 1 rfl rfl (by omega) (by decide) dX4_sum_214 ?_
              refine k_aload_n C 3 dX4_sum_215 rfl rfl ?_
              refine k_get C hinX4 0 8 rfl rfl (by decide) lk4 rfl rfl dX4_sum_216 ?_
              refine k_iload C 2 dX4_sum_219 rfl ?_
              refine k_lald C (j := (o ((24 * j5) + j29))) 4 1 rfl rfl (by omega) (by decide) dX4_sum_221 ?_
              refine k_ladd C dX4_sum_222 ?_
              refine k_aload_n C 3 dX4_sum_223 rfl rfl ?_
              refine k_get C hinX4 0 8 rfl rfl (by decide) lk4 rfl rfl dX4_sum_224 ?_
              refine k_iload C 1 dX4_sum_227 rfl ?_
              refine k_lald C (j := (o (((24 * j5) + j29) + 1))) 4 1 rfl rfl (by omega) (by decide) dX4_sum_229 ?_
              refine k_ladd C dX4_sum_230 ?_
              refine k_goto C 288 dX4_sum_231 (by decide) ?_
              refine k_lstore C (lv' := [(11, .long (((hx (o (24 * j5))) + (hx (o ((24 * j5) + j29)))) + (hx (o (((24 * j5) + j29) + 1))))), (9, .long ((((hx (o (24 * j5))) * (((hy (o ((24 * j5) + j29))) * (hz (o (((24 * j5) + j29) + 1)))) - ((hz (o ((24 * j5) + j29))) * (hy (o (((24 * j5) + j29) + 1)))))) + ((hy (o (24 * j5))) * (((hz (o ((24 * j5) + j29))) * (hx (o (((24 * j5) + j29) + 1)))) - ((hx (o ((24 * j5) + j29))) * (hz (o (((24 * j5) + j29) + 1))))))) + ((hz (o (24 * j5))) * (((hx (o ((24 * j5) + j29))) * (hy (o (((24 * j5) + j29) + 1)))) - ((hy (o ((24 * j5) + j29))) * (hx (o (((24 * j5) + j29) + 1)))))))), (8, .int (nI (o (((24 * j5) + j29) + 1)))), (7, .int (nI (o ((24 * j5) + j29)))), (0, .ref (ad 0)), (1, .int wh), (2, .long (sum2 (trmL o hx hy hz wh j5) (sum1 o z hx hy hz wh j5) (j29 - 1))), (4, .int (nI j5)), (5, .int (nI (o (24 * j5)))), (6, .int (nI j29))]) dX4_sum_288 (by decide) rfl ?_
              refine k_lload_n C 6 dX4_sum_290 rfl rfl ?_
              refine k_lload C 1 dX4_sum_291 rfl ?_
              refine k_lload C 0 dX4_sum_293 rfl ?_
              refine k_lmul C dX4_sum_295 ?_
              refine k_ladd C dX4_sum_296 ?_
              refine k_lstore_n C (lv' := [(2, .long ((sum2 (trmL o hx hy hz wh j5) (sum1 o z hx hy hz wh j5) (j29 - 1)) + (((((hx (o (24 * j5))) * (((hy (o ((24 * j5) + j29))) * (hz (o (((24 * j5) + j29) + 1)))) - ((hz (o ((24 * j5) + j29))) * (hy (o (((24 * j5) + j29) + 1)))))) + ((hy (o (24 * j5))) * (((hz (o ((24 * j5) + j29))) * (hx (o (((24 * j5) + j29) + 1)))) - ((hx (o ((24 * j5) + j29))) * (hz (o (((24 * j5) + j29) + 1))))))) + ((hz (o (24 * j5))) * (((hx (o ((24 * j5) + j29))) * (hy (o (((24 * j5) + j29) + 1)))) - ((hy (o ((24 * j5) + j29))) * (hx (o (((24 * j5) + j29) + 1))))))) * (((hx (o (24 * j5))) + (hx (o ((24 * j5) + j29)))) + (hx (o (((24 * j5) + j29) + 1))))))), (11, .long (((hx (o (24 * j5))) + (hx (o ((24 * j5) + j29)))) + (hx (o (((24 * j5) + j29) + 1))))), (9, .long ((((hx (o (24 * j5))) * (((hy (o ((24 * j5) + j29))) * (hz (o (((24 * j5) + j29) + 1)))) - ((hz (o ((24 * j5) + j29))) * (hy (o (((24 * j5) + j29) + 1)))))) + ((hy (o (24 * j5))) * (((hz (o ((24 * j5) + j29))) * (hx (o (((24 * j5) + j29) + 1)))) - ((hx (o ((24 * j5) + j29))) * (hz (o (((24 * j5) + j29) + 1))))))) + ((hz (o (24 * j5))) * (((hx (o ((24 * j5) + j29))) * (hy (o (((24 * j5) + j29) + 1)))) - ((hy (o ((24 * j5) + j29))) * (hx (o (((24 * j5) + j29) + 1)))))))), (8, .int (nI (o (((24 * j5) + j29) + 1)))), (7, .int (nI (o ((24 * j5) + j29)))), (0, .ref (ad 0)), (1, .int wh), (4, .int (nI j5)), (5, .int (nI (o (24 * j5)))), (6, .int (nI j29))]) dX4_sum_297 rfl (by decide) rfl ?_
              refine k_iinc C (v := (nI (j29 + 1))) (lv' := [(6, .int (nI (j29 + 1))), (2, .long ((sum2 (trmL o hx hy hz wh j5) (sum1 o z hx hy hz wh j5) (j29 - 1)) + (((((hx (o (24 * j5))) * (((hy (o ((24 * j5) + j29))) * (hz (o (((24 * j5) + j29) + 1)))) - ((hz (o ((24 * j5) + j29))) * (hy (o (((24 * j5) + j29) + 1)))))) + ((hy (o (24 * j5))) * (((hz (o ((24 * j5) + j29))) * (hx (o (((24 * j5) + j29) + 1)))) - ((hx (o ((24 * j5) + j29))) * (hz (o (((24 * j5) + j29) + 1))))))) + ((hz (o (24 * j5))) * (((hx (o ((24 * j5) + j29))) * (hy (o (((24 * j5) + j29) + 1)))) - ((hy (o ((24 * j5) + j29))) * (hx (o (((24 * j5) + j29) + 1))))))) * (((hx (o (24 * j5))) + (hx (o ((24 * j5) + j29)))) + (hx (o (((24 * j5) + j29) + 1))))))), (11, .long (((hx (o (24 * j5))) + (hx (o ((24 * j5) + j29)))) + (hx (o (((24 * j5) + j29) + 1))))), (9, .long ((((hx (o (24 * j5))) * (((hy (o ((24 * j5) + j29))) * (hz (o (((24 * j5) + j29) + 1)))) - ((hz (o ((24 * j5) + j29))) * (hy (o (((24 * j5) + j29) + 1)))))) + ((hy (o (24 * j5))) * (((hz (o ((24 * j5) + j29))) * (hx (o (((24 * j5) + j29) + 1)))) - ((hx (o ((24 * j5) + j29))) * (hz (o (((24 * j5) + j29) + 1))))))) + ((hz (o (24 * j5))) * (((hx (o ((24 * j5) + j29))) * (hy (o (((24 * j5) + j29) + 1)))) - ((hy (o ((24 * j5) + j29))) * (hx (o (((24 * j5) + j29) + 1)))))))), (8, .int (nI (o (((24 * j5) + j29) + 1)))), (7, .int (nI (o ((24 * j5) + j29)))), (0, .ref (ad 0)), (1, .int wh), (4, .int (nI j5)), (5, .int (nI (o (24 * j5))))]) 9 dX4_sum_298 rfl (nI_1 _) (by decide) rfl ?_
              refine k_goto C 29 dX4_sum_301 (by decide) ?_
              have e232_0 : ((sum2 (trmL o hx hy hz wh j5) (sum1 o z hx hy hz wh j5) (j29 - 1)) + (((((hx (o (24 * j5))) * (((hy (o ((24 * j5) + j29))) * (hz (o (((24 * j5) + j29) + 1)))) - ((hz (o ((24 * j5) + j29))) * (hy (o (((24 * j5) + j29) + 1)))))) + ((hy (o (24 * j5))) * (((hz (o ((24 * j5) + j29))) * (hx (o (((24 * j5) + j29) + 1)))) - ((hx (o ((24 * j5) + j29))) * (hz (o (((24 * j5) + j29) + 1))))))) + ((hz (o (24 * j5))) * (((hx (o ((24 * j5) + j29))) * (hy (o (((24 * j5) + j29) + 1)))) - ((hy (o ((24 * j5) + j29))) * (hx (o (((24 * j5) + j29) + 1))))))) * (((hx (o (24 * j5))) + (hx (o ((24 * j5) + j29)))) + (hx (o (((24 * j5) + j29) + 1)))))) = (sum2 (trmL o hx hy hz wh j5) (sum1 o z hx hy hz wh j5) ((j29 + 1) - 1)) := by rw [show j29 + 1 - 1 = (j29 - 1) + 1 by omega, sum2, show j29 - 1 + 1 = j29 by omega]; simp only [trmL, sixL, byL]; rw [if_neg (Int32.not_lt.mpr (by assumption)), if_pos (by assumption)]
              exact k_lv [6, 7, 1, 8, 9, 0] (by rw [← e232_0]; rfl) (ih29 (j29 + 1) (by omega) (by omega) ⟨by omega, Or.inr (by omega)⟩)
          · refine k_lconst C (v := 1) dX4_sum_200 (by decide) ?_
            refine k_goto C 288 dX4_sum_201 (by decide) ?_
            refine k_lstore C (lv' := [(11, .long 1), (9, .long ((((hx (o (24 * j5))) * (((hy (o ((24 * j5) + j29))) * (hz (o (((24 * j5) + j29) + 1)))) - ((hz (o ((24 * j5) + j29))) * (hy (o (((24 * j5) + j29) + 1)))))) + ((hy (o (24 * j5))) * (((hz (o ((24 * j5) + j29))) * (hx (o (((24 * j5) + j29) + 1)))) - ((hx (o ((24 * j5) + j29))) * (hz (o (((24 * j5) + j29) + 1))))))) + ((hz (o (24 * j5))) * (((hx (o ((24 * j5) + j29))) * (hy (o (((24 * j5) + j29) + 1)))) - ((hy (o ((24 * j5) + j29))) * (hx (o (((24 * j5) + j29) + 1)))))))), (8, .int (nI (o (((24 * j5) + j29) + 1)))), (7, .int (nI (o ((24 * j5) + j29)))), (0, .ref (ad 0)), (1, .int wh), (2, .long (sum2 (trmL o hx hy hz wh j5) (sum1 o z hx hy hz wh j5) (j29 - 1))), (4, .int (nI j5)), (5, .int (nI (o (24 * j5)))), (6, .int (nI j29))]) dX4_sum_288 (by decide) rfl ?_
            refine k_lload_n C 6 dX4_sum_290 rfl rfl ?_
            refine k_lload C 1 dX4_sum_291 rfl ?_
            refine k_lload C 0 dX4_sum_293 rfl ?_
            refine k_lmul C dX4_sum_295 ?_
            refine k_ladd C dX4_sum_296 ?_
            refine k_lstore_n C (lv' := [(2, .long ((sum2 (trmL o hx hy hz wh j5) (sum1 o z hx hy hz wh j5) (j29 - 1)) + (((((hx (o (24 * j5))) * (((hy (o ((24 * j5) + j29))) * (hz (o (((24 * j5) + j29) + 1)))) - ((hz (o ((24 * j5) + j29))) * (hy (o (((24 * j5) + j29) + 1)))))) + ((hy (o (24 * j5))) * (((hz (o ((24 * j5) + j29))) * (hx (o (((24 * j5) + j29) + 1)))) - ((hx (o ((24 * j5) + j29))) * (hz (o (((24 * j5) + j29) + 1))))))) + ((hz (o (24 * j5))) * (((hx (o ((24 * j5) + j29))) * (hy (o (((24 * j5) + j29) + 1)))) - ((hy (o ((24 * j5) + j29))) * (hx (o (((24 * j5) + j29) + 1))))))) * 1))), (11, .long 1), (9, .long ((((hx (o (24 * j5))) * (((hy (o ((24 * j5) + j29))) * (hz (o (((24 * j5) + j29) + 1)))) - ((hz (o ((24 * j5) + j29))) * (hy (o (((24 * j5) + j29) + 1)))))) + ((hy (o (24 * j5))) * (((hz (o ((24 * j5) + j29))) * (hx (o (((24 * j5) + j29) + 1)))) - ((hx (o ((24 * j5) + j29))) * (hz (o (((24 * j5) + j29) + 1))))))) + ((hz (o (24 * j5))) * (((hx (o ((24 * j5) + j29))) * (hy (o (((24 * j5) + j29) + 1)))) - ((hy (o ((24 * j5) + j29))) * (hx (o (((24 * j5) + j29) + 1)))))))), (8, .int (nI (o (((24 * j5) + j29) + 1)))), (7, .int (nI (o ((24 * j5) + j29)))), (0, .ref (ad 0)), (1, .int wh), (4, .int (nI j5)), (5, .int (nI (o (24 * j5)))), (6, .int (nI j29))]) dX4_sum_297 rfl (by decide) rfl ?_
            refine k_iinc C (v := (nI (j29 + 1))) (lv' := [(6, .int (nI (j29 + 1))), (2, .long ((sum2 (trmL o hx hy hz wh j5) (sum1 o z hx hy hz wh j5) (j29 - 1)) + (((((hx (o (24 * j5))) * (((hy (o ((24 * j5) + j29))) * (hz (o (((24 * j5) + j29) + 1)))) - ((hz (o ((24 * j5) + j29))) * (hy (o (((24 * j5) + j29) + 1)))))) + ((hy (o (24 * j5))) * (((hz (o ((24 * j5) + j29))) * (hx (o (((24 * j5) + j29) + 1)))) - ((hx (o ((24 * j5) + j29))) * (hz (o (((24 * j5) + j29) + 1))))))) + ((hz (o (24 * j5))) * (((hx (o ((24 * j5) + j29))) * (hy (o (((24 * j5) + j29) + 1)))) - ((hy (o ((24 * j5) + j29))) * (hx (o (((24 * j5) + j29) + 1))))))) * 1))), (11, .long 1), (9, .long ((((hx (o (24 * j5))) * (((hy (o ((24 * j5) + j29))) * (hz (o (((24 * j5) + j29) + 1)))) - ((hz (o ((24 * j5) + j29))) * (hy (o (((24 * j5) + j29) + 1)))))) + ((hy (o (24 * j5))) * (((hz (o ((24 * j5) + j29))) * (hx (o (((24 * j5) + j29) + 1)))) - ((hx (o ((24 * j5) + j29))) * (hz (o (((24 * j5) + j29) + 1))))))) + ((hz (o (24 * j5))) * (((hx (o ((24 * j5) + j29))) * (hy (o (((24 * j5) + j29) + 1)))) - ((hy (o ((24 * j5) + j29))) * (hx (o (((24 * j5) + j29) + 1)))))))), (8, .int (nI (o (((24 * j5) + j29) + 1)))), (7, .int (nI (o ((24 * j5) + j29)))), (0, .ref (ad 0)), (1, .int wh), (4, .int (nI j5)), (5, .int (nI (o (24 * j5))))]) 9 dX4_sum_298 rfl (nI_1 _) (by decide) rfl ?_
            refine k_goto C 29 dX4_sum_301 (by decide) ?_
            have e244_0 : ((sum2 (trmL o hx hy hz wh j5) (sum1 o z hx hy hz wh j5) (j29 - 1)) + (((((hx (o (24 * j5))) * (((hy (o ((24 * j5) + j29))) * (hz (o (((24 * j5) + j29) + 1)))) - ((hz (o ((24 * j5) + j29))) * (hy (o (((24 * j5) + j29) + 1)))))) + ((hy (o (24 * j5))) * (((hz (o ((24 * j5) + j29))) * (hx (o (((24 * j5) + j29) + 1)))) - ((hx (o ((24 * j5) + j29))) * (hz (o (((24 * j5) + j29) + 1))))))) + ((hz (o (24 * j5))) * (((hx (o ((24 * j5) + j29))) * (hy (o (((24 * j5) + j29) + 1)))) - ((hy (o ((24 * j5) + j29))) * (hx (o (((24 * j5) + j29) + 1))))))) * 1)) = (sum2 (trmL o hx hy hz wh j5) (sum1 o z hx hy hz wh j5) ((j29 + 1) - 1)) := by rw [show j29 + 1 - 1 = (j29 - 1) + 1 by omega, sum2, show j29 - 1 + 1 = j29 by omega]; simp only [trmL, sixL, byL]; rw [if_pos (Int32.not_le.mp (by assumption))]
            exact k_lv [6, 7, 1, 8, 9, 0] (by rw [← e244_0]; rfl) (ih29 (j29 + 1) (by omega) (by omega) ⟨by omega, Or.inr (by omega)⟩)
set_option maxHeartbeats 4000000 in
set_option maxRecDepth 100000 in
theorem c4_volume (l : Launch) (D : va_G) (cI cJ cF cD : ClassId) {ad : Nat → Nat} {thr pts bds egs : Int32} {tx ty tz : Int64} {xs ys zs nds lfs rts far : Nat → Int32} {hx hy hz : Nat → Int64} {F : FT} {bt : Bool} {nh : Nat} {o z p : Nat → Nat} (hF : F.1 ≤ 64) (ho : ∀ i, o i < 24) (hz9 : ∀ i, z i ≤ 24) (hp : ∀ i, p i < 64) : CtL l D (tyG cI cJ cF cD) yX4_volume wsX4_volume ({ frames := 1, cells := 0, slots := 0, locals := 32 }) [.ref (ad 0)] (wM ad cI cJ thr pts (b2i bt) bds (nI nh) (nI F.1) egs tx ty tz xs ys zs (nA z) (nA o) (nA p) nds lfs rts far hx hy hz F.2.1 F.2.2.1 F.2.2.2.1 F.2.2.2.2) (fun r w => r = (if bt = true then sum1 o z hx hy hz (-1) F.1 else 0) ∧ w = (wM ad cI cJ (goT bt true) pts (b2i bt) bds (nI nh) (nI F.1) egs tx ty tz xs ys zs (nA z) (nA o) (nA p) nds lfs rts far hx hy hz F.2.1 F.2.2.1 F.2.2.2.1 F.2.2.2.2)) := by
  refine ctL_of (cc := cX4_volume) (maxL := 1) (by decide) rfl (Nat.le_of_ble_eq_true rfl) ?_
  intro X hXl hXd C hret
  have lk0 : Cond.fieldLink RX4 159 "HullBuilderModel" "built" "Z" ∈ wsX4_volume := by decide +kernel
  have hinX4 : ∀ w ∈ wsX40, w ∈ wsX4_volume := by decide +kernel
  show Kw X 0 0 (wM ad cI cJ thr pts (b2i bt) bds (nI nh) (nI F.1) egs tx ty tz xs ys zs (nA z) (nA o) (nA p) nds lfs rts far hx hy hz F.2.1 F.2.2.1 F.2.2.2.1 F.2.2.2.2) 0 [(0, .ref (ad 0))] []
  refine k_aload_n C 0 dX4_volume_0 rfl rfl ?_
  refine k_aload_n C 0 dX4_volume_1 rfl rfl ?_
  refine k_get C hinX4 0 5 rfl rfl (by decide) lk0 rfl rfl dX4_volume_2 ?_
  refine k_iconst C (v := (nI 1)) dX4_volume_5 (by decide) ?_
  refine k_callVI C (ar := 2) (As := [.int (b2i bt), .int (nI 1)]) (rest := []) (c4_goes (kxL X) (kxD X) cI cJ cF cD bt true) gX4_volume_X4_goes rfl rfl rfl (by decide +kernel) ⟨Nat.le_of_ble_eq_true rfl, Nat.le_of_ble_eq_true rfl⟩ 0 rfl rfl rfl rfl (Nat.le_of_ble_eq_true rfl) dX4_volume_6 (Nat.zero_le _) (Nat.zero_le _) (fun r w hw => ?_)
  obtain ⟨rfl, rfl⟩ := hw
  refine k_topi (b2i bt) (by rw [Bool.and_true]) ?_
  refine k_if_eqB C 20 dX4_volume_9 (by decide) (fun h_1 => ?_) (fun h_1 => ?_)
  · refine k_lconst C (v := 0) dX4_volume_20 (by decide) ?_
    exact hret _ _ _ _ ⟨by rw [if_neg (by rw [h_1]; decide)], rfl⟩ dX4_volume_21
  · refine k_aload_n C 0 dX4_volume_12 rfl rfl ?_
    refine k_iconst C (v := (-1)) dX4_volume_13 (by decide) ?_
    refine k_callVL C (ar := 1) (As := [.int (-1)]) (rest := []) (c4_sum (kxL X) (kxD X) cI cJ cF cD (-1) hF ho hz9) gX4_volume_X4_sum rfl rfl rfl (by decide +kernel) ⟨Nat.le_of_ble_eq_true rfl, Nat.le_of_ble_eq_true rfl⟩ 0 rfl rfl rfl rfl (Nat.le_of_ble_eq_true rfl) dX4_volume_14 (Nat.zero_le _) (Nat.zero_le _) (fun r w hw => ?_)
    obtain ⟨rfl, rfl⟩ := hw
    refine k_goto C 21 dX4_volume_17 (by decide) ?_
    exact hret _ _ _ _ ⟨by rw [if_pos h_1], rfl⟩ dX4_volume_21
set_option maxHeartbeats 4000000 in
set_option maxRecDepth 100000 in
theorem c4_centre (l : Launch) (D : va_G) (cI cJ cF cD : ClassId) {ad : Nat → Nat} {thr pts bds egs : Int32} {tx ty tz : Int64} {xs ys zs nds lfs rts far : Nat → Int32} {hx hy hz : Nat → Int64} {F : FT} {bt : Bool} {nh : Nat} {o z p : Nat → Nat} (wh : Int32) (hF : F.1 ≤ 64) (ho : ∀ i, o i < 24) (hz9 : ∀ i, z i ≤ 24) (hp : ∀ i, p i < 64) : CtL l D (tyG cI cJ cF cD) yX4_centre wsX4_centre ({ frames := 1, cells := 0, slots := 0, locals := 32 }) [.ref (ad 0), .int wh] (wM ad cI cJ thr pts (b2i bt) bds (nI nh) (nI F.1) egs tx ty tz xs ys zs (nA z) (nA o) (nA p) nds lfs rts far hx hy hz F.2.1 F.2.2.1 F.2.2.2.1 F.2.2.2.2) (fun r w => r = (if (bt && whB 2 wh) = true then sum1 o z hx hy hz wh F.1 else 0) ∧ w = (wM ad cI cJ (goT bt (whB 2 wh)) pts (b2i bt) bds (nI nh) (nI F.1) egs tx ty tz xs ys zs (nA z) (nA o) (nA p) nds lfs rts far hx hy hz F.2.1 F.2.2.1 F.2.2.2.1 F.2.2.2.2)) := by
  refine ctL_of (cc := cX4_centre) (maxL := 2) (by decide) rfl (Nat.le_of_ble_eq_true rfl) ?_
  intro X hXl hXd C hret
  have lk0 : Cond.fieldLink RX4 159 "HullBuilderModel" "built" "Z" ∈ wsX4_centre := by decide +kernel
  have hinX4 : ∀ w ∈ wsX40, w ∈ wsX4_centre := by decide +kernel
  show Kw X 0 0 (wM ad cI cJ thr pts (b2i bt) bds (nI nh) (nI F.1) egs tx ty tz xs ys zs (nA z) (nA o) (nA p) nds lfs rts far hx hy hz F.2.1 F.2.2.1 F.2.2.2.1 F.2.2.2.2) 0 [(0, .ref (ad 0)), (1, .int wh)] []
  have J19 : Kw X 0 0 (wM ad cI cJ thr pts (b2i bt) bds (nI nh) (nI F.1) egs tx ty tz xs ys zs (nA z) (nA o) (nA p) nds lfs rts far hx hy hz F.2.1 F.2.2.1 F.2.2.2.1 F.2.2.2.2) 19 [(0, .ref (ad 0)), (1, .int wh)] [.int (b2i (whB 2 wh)), .int (b2i bt), .ref (ad 0)] := by
    refine k_callVI C (ar := 2) (As := [.int (b2i bt), .int (b2i (whB 2 wh))]) (rest := []) (c4_goes (kxL X) (kxD X) cI cJ cF cD bt (whB 2 wh)) gX4_centre_X4_goes rfl rfl rfl (by decide +kernel) ⟨Nat.le_of_ble_eq_true rfl, Nat.le_of_ble_eq_true rfl⟩ 0 rfl rfl rfl rfl (Nat.le_of_ble_eq_true rfl) dX4_centre_19 (Nat.zero_le _) (Nat.zero_le _) (fun r w hw => ?_)
    obtain ⟨rfl, rfl⟩ := hw
    refine k_if_eqB C 33 dX4_centre_22 (by decide) (fun h_1 => ?_) (fun h_1 => ?_)
    · refine k_lconst C (v := 0) dX4_centre_33 (by decide) ?_
      exact hret _ _ _ _ ⟨by rw [if_neg (by rw [h_1]; decide)], rfl⟩ dX4_centre_34
    · refine k_aload_n C 0 dX4_centre_25 rfl rfl ?_
      refine k_iload_n C 1 dX4_centre_26 rfl rfl ?_
      refine k_callVL C (ar := 1) (As := [.int wh]) (rest := []) (c4_sum (kxL X) (kxD X) cI cJ cF cD wh hF ho hz9) gX4_centre_X4_sum rfl rfl rfl (by decide +kernel) ⟨Nat.le_of_ble_eq_true rfl, Nat.le_of_ble_eq_true rfl⟩ 0 rfl rfl rfl rfl (Nat.le_of_ble_eq_true rfl) dX4_centre_27 (Nat.zero_le _) (Nat.zero_le _) (fun r w hw => ?_)
      obtain ⟨rfl, rfl⟩ := hw
      refine k_goto C 34 dX4_centre_30 (by decide) ?_
      exact hret _ _ _ _ ⟨by rw [if_pos h_1], rfl⟩ dX4_centre_34
  refine k_aload_n C 0 dX4_centre_0 rfl rfl ?_
  refine k_aload_n C 0 dX4_centre_1 rfl rfl ?_
  refine k_get C hinX4 0 5 rfl rfl (by decide) lk0 rfl rfl dX4_centre_2 ?_
  refine k_iload_n C 1 dX4_centre_5 rfl rfl ?_
  refine k_if_lt C 18 dX4_centre_6 (by decide) (fun h_2 => ?_) (fun h_2 => ?_)
  · refine k_iconst C (v := (nI 0)) dX4_centre_18 (by decide) ?_
    refine k_topi (b2i (whB 2 wh)) (by simp [rngB, whB, b2i, nI0, nI1, h_2]) ?_
    exact k_lv [0, 1] rfl (J19)
  · refine k_iload_n C 1 dX4_centre_9 rfl rfl ?_
    refine k_iconst C (v := (nI 2)) dX4_centre_10 (by decide) ?_
    refine k_icmp_gt C 18 dX4_centre_11 (by decide) (fun h_3 => ?_) (fun h_3 => ?_)
    · refine k_iconst C (v := (nI 0)) dX4_centre_18 (by decide) ?_
      refine k_topi (b2i (whB 2 wh)) (by simp [rngB, whB, b2i, nI0, nI1, h_2, h_3]) ?_
      exact k_lv [0, 1] rfl (J19)
    · refine k_iconst C (v := (nI 1)) dX4_centre_14 (by decide) ?_
      refine k_goto C 19 dX4_centre_15 (by decide) ?_
      refine k_topi (b2i (whB 2 wh)) (by simp [rngB, whB, b2i, nI0, nI1, h_2, h_3]) ?_
      exact k_lv [0, 1] rfl (J19)
set_option maxHeartbeats 4000000 in
set_option maxRecDepth 100000 in
theorem c4_middle (l : Launch) (D : va_G) (cI cJ cF cD : ClassId) {ad : Nat → Nat} {thr pts bds egs : Int32} {tx ty tz : Int64} {xs ys zs nds lfs rts far : Nat → Int32} {hx hy hz : Nat → Int64} {F : FT} {bt : Bool} {nh : Nat} {o z p : Nat → Nat} (wh : Int32) (hF : F.1 ≤ 64) (ho : ∀ i, o i < 24) (hz9 : ∀ i, z i ≤ 24) (hp : ∀ i, p i < 64) (hnn : (bt && whB 2 wh) = true → vf_n64 (FP.ddiv (FP.l2d (sum1 o z hx hy hz wh F.1)) (FP.l2d (4 * sum1 o z hx hy hz (-1) F.1)))) : CtD l D (tyG cI cJ cF cD) yX4_middle wsX4_middle ({ frames := 1, cells := 0, slots := 0, locals := 32 }) [.ref (ad 0), .int wh] (wM ad cI cJ thr pts (b2i bt) bds (nI nh) (nI F.1) egs tx ty tz xs ys zs (nA z) (nA o) (nA p) nds lfs rts far hx hy hz F.2.1 F.2.2.1 F.2.2.2.1 F.2.2.2.2) (fun r w => r = (if (bt && whB 2 wh) = true then FP.ddiv (FP.l2d (sum1 o z hx hy hz wh F.1)) (FP.l2d (4 * sum1 o z hx hy hz (-1) F.1)) else FP.dconst0) ∧ w = (wM ad cI cJ (goT bt (whB 2 wh)) pts (b2i bt) bds (nI nh) (nI F.1) egs tx ty tz xs ys zs (nA z) (nA o) (nA p) nds lfs rts far hx hy hz F.2.1 F.2.2.1 F.2.2.2.1 F.2.2.2.2)) := by
  refine ctD_of (cc := cX4_middle) (maxL := 6) (by decide) rfl (Nat.le_of_ble_eq_true rfl) ?_
  intro X hXl hXd C hret
  have lk0 : Cond.constantLong RX4 178 (4) ∈ wsX4_middle := by decide +kernel
  have lk1 : Cond.fieldLink RX4 159 "HullBuilderModel" "built" "Z" ∈ wsX4_middle := by decide +kernel
  have hinX4 : ∀ w ∈ wsX40, w ∈ wsX4_middle := by decide +kernel
  show Kw X 0 0 (wM ad cI cJ thr pts (b2i bt) bds (nI nh) (nI F.1) egs tx ty tz xs ys zs (nA z) (nA o) (nA p) nds lfs rts far hx hy hz F.2.1 F.2.2.1 F.2.2.2.1 F.2.2.2.2) 0 [(0, .ref (ad 0)), (1, .int wh)] []
  have J19 : Kw X 0 0 (wM ad cI cJ thr pts (b2i bt) bds (nI nh) (nI F.1) egs tx ty tz xs ys zs (nA z) (nA o) (nA p) nds lfs rts far hx hy hz F.2.1 F.2.2.1 F.2.2.2.1 F.2.2.2.2) 19 [(0, .ref (ad 0)), (1, .int wh)] [.int (b2i (whB 2 wh)), .int (b2i bt), .ref (ad 0)] := by
    refine k_callVI C (ar := 2) (As := [.int (b2i bt), .int (b2i (whB 2 wh))]) (rest := []) (c4_goes (kxL X) (kxD X) cI cJ cF cD bt (whB 2 wh)) gX4_middle_X4_goes rfl rfl rfl (by decide +kernel) ⟨Nat.le_of_ble_eq_true rfl, Nat.le_of_ble_eq_true rfl⟩ 0 rfl rfl rfl rfl (Nat.le_of_ble_eq_true rfl) dX4_middle_19 (Nat.zero_le _) (Nat.zero_le _) (fun r w hw => ?_)
    obtain ⟨rfl, rfl⟩ := hw
    refine k_if_neB C 27 dX4_middle_22 (by decide) (fun h_1 => ?_) (fun h_1 => ?_)
    · refine k_aload_n C 0 dX4_middle_27 rfl rfl ?_
      refine k_iload_n C 1 dX4_middle_28 rfl rfl ?_
      refine k_callVL C (ar := 1) (As := [.int wh]) (rest := []) (c4_sum (kxL X) (kxD X) cI cJ cF cD wh hF ho hz9) gX4_middle_X4_sum rfl rfl rfl (by decide +kernel) ⟨Nat.le_of_ble_eq_true rfl, Nat.le_of_ble_eq_true rfl⟩ 0 rfl rfl rfl rfl (Nat.le_of_ble_eq_true rfl) dX4_middle_29 (Nat.zero_le _) (Nat.zero_le _) (fun r w hw => ?_)
      obtain ⟨rfl, rfl⟩ := hw
      refine k_l2d C dX4_middle_32 ?_
      refine k_dstore_n C (lv' := [(2, .double (FP.l2d (sum1 o z hx hy hz wh F.1))), (0, .ref (ad 0)), (1, .int wh)]) dX4_middle_33 rfl (by decide) rfl ?_
      refine k_ldc2 C (v := 4) dX4_middle_34 lk0 ?_
      refine k_aload_n C 1 dX4_middle_37 rfl rfl ?_
      refine k_iconst C (v := (-1)) dX4_middle_38 (by decide) ?_
      refine k_callVL C (ar := 1) (As := [.int (-1)]) (rest := [.long 4]) (c4_sum (kxL X) (kxD X) cI cJ cF cD (-1) hF ho hz9) gX4_middle_X4_sum rfl rfl rfl (by decide +kernel) ⟨Nat.le_of_ble_eq_true rfl, Nat.le_of_ble_eq_true rfl⟩ 0 rfl rfl rfl rfl (Nat.le_of_ble_eq_true rfl) dX4_middle_39 (Nat.zero_le _) (Nat.zero_le _) (fun r w hw => ?_)
      obtain ⟨rfl, rfl⟩ := hw
      refine k_lmul C dX4_middle_42 ?_
      refine k_l2d C dX4_middle_43 ?_
      refine k_dstore C (lv' := [(4, .double (FP.l2d (4 * (sum1 o z hx hy hz (-1) F.1)))), (2, .double (FP.l2d (sum1 o z hx hy hz wh F.1))), (0, .ref (ad 0)), (1, .int wh)]) dX4_middle_44 (by decide) rfl ?_
      refine k_dload_n C 1 dX4_middle_46 rfl rfl ?_
      refine k_dload C 0 dX4_middle_47 rfl ?_
      refine k_ddiv C dX4_middle_49 (hnn (by assumption)) ?_
      exact hret _ _ _ _ ⟨by rw [if_pos h_1], rfl⟩ dX4_middle_50
    · refine k_dconst0 C dX4_middle_25 ?_
      exact hret _ _ _ _ ⟨by rw [if_neg (by rw [h_1]; decide)], rfl⟩ dX4_middle_26
  refine k_aload_n C 0 dX4_middle_0 rfl rfl ?_
  refine k_aload_n C 0 dX4_middle_1 rfl rfl ?_
  refine k_get C hinX4 0 5 rfl rfl (by decide) lk1 rfl rfl dX4_middle_2 ?_
  refine k_iload_n C 1 dX4_middle_5 rfl rfl ?_
  refine k_if_lt C 18 dX4_middle_6 (by decide) (fun h_2 => ?_) (fun h_2 => ?_)
  · refine k_iconst C (v := (nI 0)) dX4_middle_18 (by decide) ?_
    refine k_topi (b2i (whB 2 wh)) (by simp [rngB, whB, b2i, nI0, nI1, h_2]) ?_
    exact k_lv [0, 1] rfl (J19)
  · refine k_iload_n C 1 dX4_middle_9 rfl rfl ?_
    refine k_iconst C (v := (nI 2)) dX4_middle_10 (by decide) ?_
    refine k_icmp_gt C 18 dX4_middle_11 (by decide) (fun h_3 => ?_) (fun h_3 => ?_)
    · refine k_iconst C (v := (nI 0)) dX4_middle_18 (by decide) ?_
      refine k_topi (b2i (whB 2 wh)) (by simp [rngB, whB, b2i, nI0, nI1, h_2, h_3]) ?_
      exact k_lv [0, 1] rfl (J19)
    · refine k_iconst C (v := (nI 1)) dX4_middle_14 (by decide) ?_
      refine k_goto C 19 dX4_middle_15 (by decide) ?_
      refine k_topi (b2i (whB 2 wh)) (by simp [rngB, whB, b2i, nI0, nI1, h_2, h_3]) ?_
      exact k_lv [0, 1] rfl (J19)
