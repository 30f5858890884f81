/-! ===== HullBuilderModel: its world and its contracts, 1 ===== -/
def wM (ad : Nat → Nat) (cI cJ : ClassId) (thr pts blt bds hld fcs egs : Int32) (tx ty tz : Int64) (xs ys zs szs crn odr nds lfs rts far : Nat → Int32) (hx hy hz nx ny nz ofs : Nat → Int64) : va_W := [(ad 0, .inr (4, [.int thr, .int pts, .ref (ad 2), .ref (ad 3), .ref (ad 4), .int blt, .int bds, .int hld, .ref (ad 8), .ref (ad 9), .ref (ad 10), .int fcs, .ref (ad 12), .ref (ad 13), .ref (ad 14), .ref (ad 15), .ref (ad 16), .ref (ad 17), .ref (ad 18), .int egs, .ref (ad 20), .ref (ad 21), .ref (ad 22), .long tx, .long ty, .long tz, .ref (ad 26)])), (ad 2, .inl (cI, 24, .inl xs)), (ad 3, .inl (cI, 24, .inl ys)), (ad 4, .inl (cI, 24, .inl zs)), (ad 8, .inl (cJ, 24, .inr (.inl hx))), (ad 9, .inl (cJ, 24, .inr (.inl hy))), (ad 10, .inl (cJ, 24, .inr (.inl hz))), (ad 12, .inl (cJ, 64, .inr (.inl nx))), (ad 13, .inl (cJ, 64, .inr (.inl ny))), (ad 14, .inl (cJ, 64, .inr (.inl nz))), (ad 15, .inl (cJ, 64, .inr (.inl ofs))), (ad 16, .inl (cI, 64, .inl szs)), (ad 17, .inl (cI, 1536, .inl crn)), (ad 18, .inl (cI, 64, .inl odr)), (ad 20, .inl (cI, 128, .inl nds)), (ad 21, .inl (cI, 128, .inl lfs)), (ad 22, .inl (cI, 128, .inl rts)), (ad 26, .inl (cI, 24, .inl far))]
set_option maxHeartbeats 4000000 in
set_option maxRecDepth 100000 in
theorem c4_thrown (l : Launch) (D : va_G) (cI cJ cF cD : ClassId) {ad : Nat → Nat} {thr pts blt bds hld fcs egs : Int32} {tx ty tz : Int64} {xs ys zs szs crn odr nds lfs rts far : Nat → Int32} {hx hy hz nx ny nz ofs : Nat → Int64}   : CtI l D (tyG cI cJ cF cD) yX4_thrown wsX4_thrown ({ frames := 0, cells := 0, slots := 0, locals := 0 }) [.ref (ad 0)] (wM ad cI cJ thr pts blt bds hld fcs egs tx ty tz xs ys zs szs crn odr nds lfs rts far hx hy hz nx ny nz ofs) (fun r w => r = (thr) ∧ w = (wM ad cI cJ thr pts blt bds hld fcs egs tx ty tz xs ys zs szs crn odr nds lfs rts far hx hy hz nx ny nz ofs)) := by
  refine ctI_of (cc := cX4_thrown) (maxL := 1) (by decide) rfl (Nat.le_of_ble_eq_true rfl) ?_
  intro X hXl hXd C hret
  have lk0 : Cond.fieldLink RX4 62 "HullBuilderModel" "thrown" "I" ∈ wsX4_thrown := by decide +kernel
  have hinX4 : ∀ w ∈ wsX40, w ∈ wsX4_thrown := by decide +kernel
  show Kw X 0 0 (wM ad cI cJ thr pts blt bds hld fcs egs tx ty tz xs ys zs szs crn odr nds lfs rts far hx hy hz nx ny nz ofs) 0 [(0, .ref (ad 0))] []
  refine k_aload_n C 0 dX4_thrown_0 rfl rfl ?_
  refine k_get C hinX4 0 0 rfl rfl (by decide) lk0 rfl rfl dX4_thrown_1 ?_
  exact hret _ _ _ _ ⟨rfl, rfl⟩ dX4_thrown_4
set_option maxHeartbeats 4000000 in
set_option maxRecDepth 100000 in
theorem c4_goes (l : Launch) (D : va_G) (cI cJ cF cD : ClassId) {ad : Nat → Nat} {thr pts blt bds hld fcs egs : Int32} {tx ty tz : Int64} {xs ys zs szs crn odr nds lfs rts far : Nat → Int32} {hx hy hz nx ny nz ofs : Nat → Int64} (f s : Bool)  : CtI l D (tyG cI cJ cF cD) yX4_goes wsX4_goes ({ frames := 0, cells := 0, slots := 0, locals := 0 }) [.ref (ad 0), .int (b2i f), .int (b2i s)] (wM ad cI cJ thr pts blt bds hld fcs egs tx ty tz xs ys zs szs crn odr nds lfs rts far hx hy hz nx ny nz ofs) (fun r w => r = (b2i (f && s)) ∧ w = (wM ad cI cJ (goT f s) pts blt bds hld fcs egs tx ty tz xs ys zs szs crn odr nds lfs rts far hx hy hz nx ny nz ofs)) := by
  refine ctZ_of (cc := cX4_goes) (maxL := 3) (by decide) rfl (Nat.le_of_ble_eq_true rfl) (fun r w h => h.1 ▸ b2i_01 _) ?_
  intro X hXl hXd C hret
  have lk0 : Cond.fieldLink RX4 62 "HullBuilderModel" "thrown" "I" ∈ wsX4_goes := by decide +kernel
  have hinX4 : ∀ w ∈ wsX40, w ∈ wsX4_goes := by decide +kernel
  show Kw X 0 0 (wM ad cI cJ thr pts blt bds hld fcs egs tx ty tz xs ys zs szs crn odr nds lfs rts far hx hy hz nx ny nz ofs) 0 [(0, .ref (ad 0)), (1, .int (b2i f)), (2, .int (b2i s))] []
  refine k_aload_n C 0 dX4_goes_0 rfl rfl ?_
  refine k_iload_n C 1 dX4_goes_1 rfl rfl ?_
  refine k_if_neB C 9 dX4_goes_2 (by decide) (fun h_1 => ?_) (fun h_1 => ?_)
  · refine k_iload_n C 2 dX4_goes_9 rfl rfl ?_
    refine k_if_neB C 17 dX4_goes_10 (by decide) (fun h_2 => ?_) (fun h_2 => ?_)
    · refine k_iconst C (v := (nI 0)) dX4_goes_17 (by decide) ?_
      refine k_put C (ws' := (wM ad cI cJ (nI 0) pts blt bds hld fcs egs tx ty tz xs ys zs szs crn odr nds lfs rts far hx hy hz nx ny nz ofs)) hinX4 tyX4 tyX4_ok nmX4 0 0 rfl rfl (by decide) lk0 rfl rfl rfl rfl (Nat.le_of_ble_eq_true rfl) rfl dX4_goes_18 ?_
      refine k_aload_n C 0 dX4_goes_21 rfl rfl ?_
      refine k_get C hinX4 0 0 rfl rfl (by decide) lk0 rfl rfl dX4_goes_22 ?_
      refine k_if_neN C (by omega) 32 dX4_goes_25 (by decide) (fun h_3 => absurd h_3 (by decide)) (fun h_3 => ?_)
      refine k_iconst C (v := (nI 1)) dX4_goes_28 (by decide) ?_
      refine k_goto C 33 dX4_goes_29 (by decide) ?_
      exact hret _ _ _ _ ⟨by simp [b2i, goT, nI0, nI1, nI2, h_1, h_2], by simp [goT, b2i, nI0, nI1, nI2, h_1, h_2]⟩ dX4_goes_33
    · refine k_iconst C (v := (nI 2)) dX4_goes_13 (by decide) ?_
      refine k_goto C 18 dX4_goes_14 (by decide) ?_
      refine k_put C (ws' := (wM ad cI cJ (nI 2) pts blt bds hld fcs egs tx ty tz xs ys zs szs crn odr nds lfs rts far hx hy hz nx ny nz ofs)) hinX4 tyX4 tyX4_ok nmX4 0 0 rfl rfl (by decide) lk0 rfl rfl rfl rfl (Nat.le_of_ble_eq_true rfl) rfl dX4_goes_18 ?_
      refine k_aload_n C 0 dX4_goes_21 rfl rfl ?_
      refine k_get C hinX4 0 0 rfl rfl (by decide) lk0 rfl rfl dX4_goes_22 ?_
      refine k_if_neN C (by omega) 32 dX4_goes_25 (by decide) (fun h_4 => ?_) (fun h_4 => absurd h_4 (by decide))
      refine k_iconst C (v := (nI 0)) dX4_goes_32 (by decide) ?_
      exact hret _ _ _ _ ⟨by simp [b2i, goT, nI0, nI1, nI2, h_1, h_2], by simp [goT, b2i, nI0, nI1, nI2, h_1, h_2]⟩ dX4_goes_33
  · refine k_iconst C (v := (nI 1)) dX4_goes_5 (by decide) ?_
    refine k_goto C 18 dX4_goes_6 (by decide) ?_
    refine k_put C (ws' := (wM ad cI cJ (nI 1) pts blt bds hld fcs egs tx ty tz xs ys zs szs crn odr nds lfs rts far hx hy hz nx ny nz ofs)) hinX4 tyX4 tyX4_ok nmX4 0 0 rfl rfl (by decide) lk0 rfl rfl rfl rfl (Nat.le_of_ble_eq_true rfl) rfl dX4_goes_18 ?_
    refine k_aload_n C 0 dX4_goes_21 rfl rfl ?_
    refine k_get C hinX4 0 0 rfl rfl (by decide) lk0 rfl rfl dX4_goes_22 ?_
    refine k_if_neN C (by omega) 32 dX4_goes_25 (by decide) (fun h_5 => ?_) (fun h_5 => absurd h_5 (by decide))
    refine k_iconst C (v := (nI 0)) dX4_goes_32 (by decide) ?_
    exact hret _ _ _ _ ⟨by simp [b2i, goT, nI0, nI1, nI2, h_1], by simp [goT, b2i, nI0, nI1, nI2, h_1]⟩ dX4_goes_33
set_option maxHeartbeats 4000000 in
set_option maxRecDepth 100000 in
theorem c4_within (l : Launch) (D : va_G) (cI cJ cF cD : ClassId) {ad : Nat → Nat} {thr pts blt bds hld fcs egs : Int32} {tx ty tz : Int64} {xs ys zs szs crn odr nds lfs rts far : Nat → Int32} {hx hy hz nx ny nz ofs : Nat → Int64} (v q : Int32)  : CtI l D (tyG cI cJ cF cD) yX4_within wsX4_within ({ frames := 0, cells := 0, slots := 0, locals := 0 }) [.int v, .int q] (wM ad cI cJ thr pts blt bds hld fcs egs tx ty tz xs ys zs szs crn odr nds lfs rts far hx hy hz nx ny nz ofs) (fun r w => r = (b2i (withinB v q)) ∧ w = (wM ad cI cJ thr pts blt bds hld fcs egs tx ty tz xs ys zs szs crn odr nds lfs rts far hx hy hz nx ny nz ofs)) := by
  refine ctZ_of (cc := cX4_within) (maxL := 2) (by decide) rfl (Nat.le_of_ble_eq_true rfl) (fun r w h => h.1 ▸ b2i_01 _) ?_
  intro X hXl hXd C hret
  show Kw X 0 0 (wM ad cI cJ thr pts blt bds hld fcs egs tx ty tz xs ys zs szs crn odr nds lfs rts far hx hy hz nx ny nz ofs) 0 [(0, .int v), (1, .int q)] []
  refine k_iload_n C 0 dX4_within_0 rfl rfl ?_
  refine k_iload_n C 1 dX4_within_1 rfl rfl ?_
  refine k_ineg C dX4_within_2 ?_
  refine k_icmp_lt C 15 dX4_within_3 (by decide) (fun h_1 => ?_) (fun h_1 => ?_)
  · refine k_iconst C (v := (nI 0)) dX4_within_15 (by decide) ?_
    exact hret _ _ _ _ ⟨by simp [withinB, b2i, nI0, nI1, h_1], rfl⟩ dX4_within_16
  · refine k_iload_n C 0 dX4_within_6 rfl rfl ?_
    refine k_iload_n C 1 dX4_within_7 rfl rfl ?_
    refine k_icmp_gt C 15 dX4_within_8 (by decide) (fun h_2 => ?_) (fun h_2 => ?_)
    · refine k_iconst C (v := (nI 0)) dX4_within_15 (by decide) ?_
      exact hret _ _ _ _ ⟨by simp [withinB, b2i, nI0, nI1, h_1, h_2], rfl⟩ dX4_within_16
    · refine k_iconst C (v := (nI 1)) dX4_within_11 (by decide) ?_
      refine k_goto C 16 dX4_within_12 (by decide) ?_
      exact hret _ _ _ _ ⟨by simp [withinB, b2i, nI0, nI1, h_1, h_2], rfl⟩ dX4_within_16
set_option maxHeartbeats 4000000 in
set_option maxRecDepth 100000 in
theorem c4_taken (l : Launch) (D : va_G) (cI cJ cF cD : ClassId) {ad : Nat → Nat} {thr blt bds hld fcs egs : Int32} {tx ty tz : Int64} {xs ys zs szs crn odr nds lfs rts far : Nat → Int32} {hx hy hz nx ny nz ofs : Nat → Int64} {np : Nat} (x y z : Int32) (hnp : np ≤ 24) : CtI l D (tyG cI cJ cF cD) yX4_taken wsX4_taken ({ frames := 0, cells := 0, slots := 0, locals := 0 }) [.ref (ad 0), .int x, .int y, .int z] (wM ad cI cJ thr (nI np) blt bds hld fcs egs tx ty tz xs ys zs szs crn odr nds lfs rts far hx hy hz nx ny nz ofs) (fun r w => r = (b2i (takB np xs ys zs x y z)) ∧ w = (wM ad cI cJ thr (nI np) blt bds hld fcs egs tx ty tz xs ys zs szs crn odr nds lfs rts far hx hy hz nx ny nz ofs)) := by
  refine ctZ_of (cc := cX4_taken) (maxL := 6) (by decide) rfl (Nat.le_of_ble_eq_true rfl) (fun r w h => h.1 ▸ b2i_01 _) ?_
  intro X hXl hXd C hret
  have lk0 : Cond.fieldLink RX4 66 "HullBuilderModel" "points" "I" ∈ wsX4_taken := by decide +kernel
  have hinX4 : ∀ w ∈ wsX40, w ∈ wsX4_taken := by decide +kernel
  have lk2 : Cond.fieldLink RX4 7 "HullBuilderModel" "xs" "[I" ∈ wsX4_taken := by decide +kernel
  have lk3 : Cond.fieldLink RX4 13 "HullBuilderModel" "ys" "[I" ∈ wsX4_taken := by decide +kernel
  have lk4 : Cond.fieldLink RX4 16 "HullBuilderModel" "zs" "[I" ∈ wsX4_taken := by decide +kernel
  show Kw X 0 0 (wM ad cI cJ thr (nI np) blt bds hld fcs egs tx ty tz xs ys zs szs crn odr nds lfs rts far hx hy hz nx ny nz ofs) 0 [(0, .ref (ad 0)), (1, .int x), (2, .int y), (3, .int z)] []
  refine k_iconst C (v := (nI 0)) dX4_taken_0 (by decide) ?_
  refine k_istore C (lv' := [(4, .int (nI 0)), (0, .ref (ad 0)), (1, .int x), (2, .int y), (3, .int z)]) dX4_taken_1 (by decide) rfl ?_
  refine k_iconst C (v := (nI 0)) dX4_taken_3 (by decide) ?_
  refine k_istore C (lv' := [(5, .int (nI 0)), (4, .int (nI 0)), (0, .ref (ad 0)), (1, .int x), (2, .int y), (3, .int z)]) dX4_taken_4 (by decide) rfl ?_
  suffices L6 : ∀ (n6 j6 : Nat), j6 ≤ np → np + 1 ≤ j6 + n6 → Kw X 0 0 (wM ad cI cJ thr (nI np) blt bds hld fcs egs tx ty tz xs ys zs szs crn odr nds lfs rts far hx hy hz nx ny nz ofs) 6 [(0, .ref (ad 0)), (1, .int x), (2, .int y), (3, .int z), (4, .int (b2i (takB j6 xs ys zs x y z))), (5, .int (nI j6))] [] by
    have e5_0 : (nI 0) = (b2i (takB 0 xs ys zs x y z)) := rfl
    exact k_lv [2, 3, 4, 5, 1, 0] (by rw [← e5_0]; rfl) (L6 (np + 1) 0 (by omega) (by omega))
  intro n6
  induction n6 with
  | zero => intro j6 a1 a2; exact absurd a2 (by omega)
  | succ n6 ih6 =>
    intro j6 b6 c6
    refine k_iload C 5 dX4_taken_6 rfl ?_
    refine k_aload_n C 0 dX4_taken_8 rfl rfl ?_
    refine k_get C hinX4 0 1 rfl rfl (by decide) lk0 rfl rfl dX4_taken_9 ?_
    refine k_icmp_geN C (by omega) (by omega) 66 dX4_taken_12 (by decide) (fun h_1 => ?_) (fun h_1 => ?_)
    · refine k_iload C 4 dX4_taken_66 rfl ?_
      exact hret _ _ _ _ ⟨by rw [show j6 = np by omega], rfl⟩ dX4_taken_68
    · refine k_iload C 4 dX4_taken_15 rfl ?_
      refine k_if_neB C 53 dX4_taken_17 (by decide) (fun h_2 => ?_) (fun h_2 => ?_)
      · refine k_iconst C (v := (nI 1)) dX4_taken_53 (by decide) ?_
        refine k_goto C 58 dX4_taken_54 (by decide) ?_
        refine k_istore C (lv' := [(4, .int (nI 1)), (0, .ref (ad 0)), (1, .int x), (2, .int y), (3, .int z), (5, .int (nI j6))]) dX4_taken_58 (by decide) rfl ?_
        refine k_iinc C (v := (nI (j6 + 1))) (lv' := [(5, .int (nI (j6 + 1))), (4, .int (nI 1)), (0, .ref (ad 0)), (1, .int x), (2, .int y), (3, .int z)]) 5 dX4_taken_60 rfl (nI_1 _) (by decide) rfl ?_
        refine k_goto C 6 dX4_taken_63 (by decide) ?_
        have e27_0 : (nI 1) = (b2i (takB (j6 + 1) xs ys zs x y z)) := by simp [takB_s, b2i, nI0, nI1, h_1, h_2]
        exact k_lv [2, 3, 4, 5, 1, 0] (by rw [← e27_0]; rfl) (ih6 (j6 + 1) (by omega) (by omega))
      · refine k_aload_n C 0 dX4_taken_20 rfl rfl ?_
        refine k_get C hinX4 0 2 rfl rfl (by decide) lk2 rfl rfl dX4_taken_21 ?_
        refine k_iload C 5 dX4_taken_24 rfl ?_
        refine k_iald C (j := j6) 1 0 rfl rfl (by omega) (by decide) dX4_taken_26 ?_
        refine k_iload_n C 1 dX4_taken_27 rfl rfl ?_
        refine k_icmp_ne C 57 dX4_taken_28 (by decide) (fun h_3 => ?_) (fun h_3 => ?_)
        · refine k_iconst C (v := (nI 0)) dX4_taken_57 (by decide) ?_
          refine k_istore C (lv' := [(4, .int (nI 0)), (0, .ref (ad 0)), (1, .int x), (2, .int y), (3, .int z), (5, .int (nI j6))]) dX4_taken_58 (by decide) rfl ?_
          refine k_iinc C (v := (nI (j6 + 1))) (lv' := [(5, .int (nI (j6 + 1))), (4, .int (nI 0)), (0, .ref (ad 0)), (1, .int x), (2, .int y), (3, .int z)]) 5 dX4_taken_60 rfl (nI_1 _) (by decide) rfl ?_
          refine k_goto C 6 dX4_taken_63 (by decide) ?_
          have e40_0 : (nI 0) = (b2i (takB (j6 + 1) xs ys zs x y z)) := by simp [takB_s, b2i, nI0, nI1, h_1, h_2, h_3]
          exact k_lv [2, 3, 4, 5, 1, 0] (by rw [← e40_0]; rfl) (ih6 (j6 + 1) (by omega) (by omega))
        · refine k_aload_n C 0 dX4_taken_31 rfl rfl ?_
          refine k_get C hinX4 0 3 rfl rfl (by decide) lk3 rfl rfl dX4_taken_32 ?_
          refine k_iload C 5 dX4_taken_35 rfl ?_
          refine k_iald C (j := j6) 2 0 rfl rfl (by omega) (by decide) dX4_taken_37 ?_
          refine k_iload_n C 2 dX4_taken_38 rfl rfl ?_
          refine k_icmp_ne C 57 dX4_taken_39 (by decide) (fun h_4 => ?_) (fun h_4 => ?_)
          · refine k_iconst C (v := (nI 0)) dX4_taken_57 (by decide) ?_
            refine k_istore C (lv' := [(4, .int (nI 0)), (0, .ref (ad 0)), (1, .int x), (2, .int y), (3, .int z), (5, .int (nI j6))]) dX4_taken_58 (by decide) rfl ?_
            refine k_iinc C (v := (nI (j6 + 1))) (lv' := [(5, .int (nI (j6 + 1))), (4, .int (nI 0)), (0, .ref (ad 0)), (1, .int x), (2, .int y), (3, .int z)]) 5 dX4_taken_60 rfl (nI_1 _) (by decide) rfl ?_
            refine k_goto C 6 dX4_taken_63 (by decide) ?_
            have e53_0 : (nI 0) = (b2i (takB (j6 + 1) xs ys zs x y z)) := by simp [takB_s, b2i, nI0, nI1, h_1, h_2, h_3, h_4]
            exact k_lv [2, 3, 4, 5, 1, 0] (by rw [← e53_0]; rfl) (ih6 (j6 + 1) (by omega) (by omega))
          · refine k_aload_n C 0 dX4_taken_42 rfl rfl ?_
            refine k_get C hinX4 0 4 rfl rfl (by decide) lk4 rfl rfl dX4_taken_43 ?_
            refine k_iload C 5 dX4_taken_46 rfl ?_
            refine k_iald C (j := j6) 3 0 rfl rfl (by omega) (by decide) dX4_taken_48 ?_
            refine k_iload_n C 3 dX4_taken_49 rfl rfl ?_
            refine k_icmp_ne C 57 dX4_taken_50 (by decide) (fun h_5 => ?_) (fun h_5 => ?_)
            · refine k_iconst C (v := (nI 0)) dX4_taken_57 (by decide) ?_
              refine k_istore C (lv' := [(4, .int (nI 0)), (0, .ref (ad 0)), (1, .int x), (2, .int y), (3, .int z), (5, .int (nI j6))]) dX4_taken_58 (by decide) rfl ?_
              refine k_iinc C (v := (nI (j6 + 1))) (lv' := [(5, .int (nI (j6 + 1))), (4, .int (nI 0)), (0, .ref (ad 0)), (1, .int x), (2, .int y), (3, .int z)]) 5 dX4_taken_60 rfl (nI_1 _) (by decide) rfl ?_
              refine k_goto C 6 dX4_taken_63 (by decide) ?_
              have e66_0 : (nI 0) = (b2i (takB (j6 + 1) xs ys zs x y z)) := by simp [takB_s, b2i, nI0, nI1, h_1, h_2, h_3, h_4, h_5]
              exact k_lv [2, 3, 4, 5, 1, 0] (by rw [← e66_0]; rfl) (ih6 (j6 + 1) (by omega) (by omega))
            · refine k_iconst C (v := (nI 1)) dX4_taken_53 (by decide) ?_
              refine k_goto C 58 dX4_taken_54 (by decide) ?_
              refine k_istore C (lv' := [(4, .int (nI 1)), (0, .ref (ad 0)), (1, .int x), (2, .int y), (3, .int z), (5, .int (nI j6))]) dX4_taken_58 (by decide) rfl ?_
              refine k_iinc C (v := (nI (j6 + 1))) (lv' := [(5, .int (nI (j6 + 1))), (4, .int (nI 1)), (0, .ref (ad 0)), (1, .int x), (2, .int y), (3, .int z)]) 5 dX4_taken_60 rfl (nI_1 _) (by decide) rfl ?_
              refine k_goto C 6 dX4_taken_63 (by decide) ?_
              have e73_0 : (nI 1) = (b2i (takB (j6 + 1) xs ys zs x y z)) := by simp [takB_s, b2i, nI0, nI1, h_1, h_2, h_3, h_4, h_5]
              exact k_lv [2, 3, 4, 5, 1, 0] (by rw [← e73_0]; rfl) (ih6 (j6 + 1) (by omega) (by omega))
set_option maxHeartbeats 4000000 in
set_option maxRecDepth 100000 in
theorem c4_across (l : Launch) (D : va_G) (cI cJ cF cD : ClassId) {ad : Nat → Nat} {thr pts blt bds hld fcs egs : Int32} {tx ty tz : Int64} {xs ys zs szs crn odr nds lfs rts far : Nat → Int32} {hx hy hz nx ny nz ofs : Nat → Int64} {a b c : Nat} (ha : a < 24) (hb : b < 24) (hc : c < 24) : CtV l D (tyG cI cJ cF cD) yX4_across wsX4_across ({ frames := 0, cells := 0, slots := 0, locals := 0 }) [.ref (ad 0), .int (nI a), .int (nI b), .int (nI c)] (wM ad cI cJ thr pts blt bds hld fcs egs tx ty tz xs ys zs szs crn odr nds lfs rts far hx hy hz nx ny nz ofs) (fun w => w = (wM ad cI cJ thr pts blt bds hld fcs egs (acx hy hz a b c) (acx hz hx a b c) (acx hx hy a b c) xs ys zs szs crn odr nds lfs rts far hx hy hz nx ny nz ofs)) := by
  refine ctV_of (cc := cX4_across) (maxL := 16) (by decide) rfl (Nat.le_of_ble_eq_true rfl) ?_
  intro X hXl hXd C hret
  have lk0 : Cond.fieldLink RX4 19 "HullBuilderModel" "hx" "[J" ∈ wsX4_across := by decide +kernel
  have hinX4 : ∀ w ∈ wsX40, w ∈ wsX4_across := by decide +kernel
  have lk2 : Cond.fieldLink RX4 23 "HullBuilderModel" "hy" "[J" ∈ wsX4_across := by decide +kernel
  have lk3 : Cond.fieldLink RX4 26 "HullBuilderModel" "hz" "[J" ∈ wsX4_across := by decide +kernel
  have lk4 : Cond.fieldLink RX4 81 "HullBuilderModel" "tx" "J" ∈ wsX4_across := by decide +kernel
  have lk5 : Cond.fieldLink RX4 85 "HullBuilderModel" "ty" "J" ∈ wsX4_across := by decide +kernel
  have lk6 : Cond.fieldLink RX4 88 "HullBuilderModel" "tz" "J" ∈ wsX4_across := by decide +kernel
  show Kw X 0 0 (wM ad cI cJ thr pts blt bds hld fcs egs tx ty tz xs ys zs szs crn odr nds lfs rts far hx hy hz nx ny nz ofs) 0 [(0, .ref (ad 0)), (1, .int (nI a)), (2, .int (nI b)), (3, .int (nI c))] []
  refine k_aload_n C 0 dX4_across_0 rfl rfl ?_
  refine k_get C hinX4 0 8 rfl rfl (by decide) lk0 rfl rfl dX4_across_1 ?_
  refine k_iload_n C 2 dX4_across_4 rfl rfl ?_
  refine k_lald C (j := b) 4 1 rfl rfl (by omega) (by decide) dX4_across_5 ?_
  refine k_aload_n C 0 dX4_across_6 rfl rfl ?_
  refine k_get C hinX4 0 8 rfl rfl (by decide) lk0 rfl rfl dX4_across_7 ?_
  refine k_iload_n C 1 dX4_across_10 rfl rfl ?_
  refine k_lald C (j := a) 4 1 rfl rfl (by omega) (by decide) dX4_across_11 ?_
  refine k_lsub C dX4_across_12 ?_
  refine k_lstore C (lv' := [(4, .long ((hx b) - (hx a))), (0, .ref (ad 0)), (1, .int (nI a)), (2, .int (nI b)), (3, .int (nI c))]) dX4_across_13 (by decide) rfl ?_
  refine k_aload_n C 1 dX4_across_15 rfl rfl ?_
  refine k_get C hinX4 0 9 rfl rfl (by decide) lk2 rfl rfl dX4_across_16 ?_
  refine k_iload_n C 3 dX4_across_19 rfl rfl ?_
  refine k_lald C (j := b) 5 1 rfl rfl (by omega) (by decide) dX4_across_20 ?_
  refine k_aload_n C 1 dX4_across_21 rfl rfl ?_
  refine k_get C hinX4 0 9 rfl rfl (by decide) lk2 rfl rfl dX4_across_22 ?_
  refine k_iload_n C 2 dX4_across_25 rfl rfl ?_
  refine k_lald C (j := a) 5 1 rfl rfl (by omega) (by decide) dX4_across_26 ?_
  refine k_lsub C dX4_across_27 ?_
  refine k_lstore C (lv' := [(6, .long ((hy b) - (hy a))), (4, .long ((hx b) - (hx a))), (0, .ref (ad 0)), (1, .int (nI a)), (2, .int (nI b)), (3, .int (nI c))]) dX4_across_28 (by decide) rfl ?_
  refine k_aload_n C 2 dX4_across_30 rfl rfl ?_
  refine k_get C hinX4 0 10 rfl rfl (by decide) lk3 rfl rfl dX4_across_31 ?_
  refine k_iload_n C 4 dX4_across_34 rfl rfl ?_
  refine k_lald C (j := b) 6 1 rfl rfl (by omega) (by decide) dX4_across_35 ?_
  refine k_aload_n C 2 dX4_across_36 rfl rfl ?_
  refine k_get C hinX4 0 10 rfl rfl (by decide) lk3 rfl rfl dX4_across_37 ?_
  refine k_iload_n C 3 dX4_across_40 rfl rfl ?_
  refine k_lald C (j := a) 6 1 rfl rfl (by omega) (by decide) dX4_across_41 ?_
  refine k_lsub C dX4_across_42 ?_
  refine k_lstore C (lv' := [(8, .long ((hz b) - (hz a))), (6, .long ((hy b) - (hy a))), (4, .long ((hx b) - (hx a))), (0, .ref (ad 0)), (1, .int (nI a)), (2, .int (nI b)), (3, .int (nI c))]) dX4_across_43 (by decide) rfl ?_
  refine k_aload_n C 3 dX4_across_45 rfl rfl ?_
  refine k_get C hinX4 0 8 rfl rfl (by decide) lk0 rfl rfl dX4_across_46 ?_
  refine k_iload_n C 6 dX4_across_49 rfl rfl ?_
  refine k_lald C (j := c) 4 1 rfl rfl (by omega) (by decide) dX4_across_50 ?_
  refine k_aload_n C 3 dX4_across_51 rfl rfl ?_
  refine k_get C hinX4 0 8 rfl rfl (by decide) lk0 rfl rfl dX4_across_52 ?_
  refine k_iload_n C 4 dX4_across_55 rfl rfl ?_
  refine k_lald C (j := a) 4 1 rfl rfl (by omega) (by decide) dX4_across_56 ?_
  refine k_lsub C dX4_across_57 ?_
  refine k_lstore C (lv' := [(10, .long ((hx c) - (hx a))), (8, .long ((hz b) - (hz a))), (6, .long ((hy b) - (hy a))), (4, .long ((hx b) - (hx a))), (0, .ref (ad 0)), (1, .int (nI a)), (2, .int (nI b)), (3, .int (nI c))]) dX4_across_58 (by decide) rfl ?_
  refine k_aload_n C 4 dX4_across_60 rfl rfl ?_
  refine k_get C hinX4 0 9 rfl rfl (by decide) lk2 rfl rfl dX4_across_61 ?_
  refine k_iload_n C 7 dX4_across_64 rfl rfl ?_
  refine k_lald C (j := c) 5 1 rfl rfl (by omega) (by decide) dX4_across_65 ?_
  refine k_aload_n C 4 dX4_across_66 rfl rfl ?_
  refine k_get C hinX4 0 9 rfl rfl (by decide) lk2 rfl rfl dX4_across_67 ?_
  refine k_iload_n C 5 dX4_across_70 rfl rfl ?_
  refine k_lald C (j := a) 5 1 rfl rfl (by omega) (by decide) dX4_across_71 ?_
  refine k_lsub C dX4_across_72 ?_
  refine k_lstore C (lv' := [(12, .long ((hy c) - (hy a))), (10, .long ((hx c) - (hx a))), (8, .long ((hz b) - (hz a))), (6, .long ((hy b) - (hy a))), (4, .long ((hx b) - (hx a))), (0, .ref (ad 0)), (1, .int (nI a)), (2, .int (nI b)), (3, .int (nI c))]) dX4_across_73 (by decide) rfl ?_
  refine k_aload_n C 5 dX4_across_75 rfl rfl ?_
  refine k_get C hinX4 0 10 rfl rfl (by decide) lk3 rfl rfl dX4_across_76 ?_
  refine k_iload_n C 8 dX4_across_79 rfl rfl ?_
  refine k_lald C (j := c) 6 1 rfl rfl (by omega) (by decide) dX4_across_80 ?_
  refine k_aload_n C 5 dX4_across_81 rfl rfl ?_
  refine k_get C hinX4 0 10 rfl rfl (by decide) lk3 rfl rfl dX4_across_82 ?_
  refine k_iload_n C 6 dX4_across_85 rfl rfl ?_
  refine k_lald C (j := a) 6 1 rfl rfl (by omega) (by decide) dX4_across_86 ?_
  refine k_lsub C dX4_across_87 ?_
  refine k_lstore C (lv' := [(14, .long ((hz c) - (hz a))), (12, .long ((hy c) - (hy a))), (10, .long ((hx c) - (hx a))), (8, .long ((hz b) - (hz a))), (6, .long ((hy b) - (hy a))), (4, .long ((hx b) - (hx a))), (0, .ref (ad 0)), (1, .int (nI a)), (2, .int (nI b)), (3, .int (nI c))]) dX4_across_88 (by decide) rfl ?_
  refine k_aload_n C 6 dX4_across_90 rfl rfl ?_
  refine k_lload C 4 dX4_across_91 rfl ?_
  refine k_lload C 0 dX4_across_93 rfl ?_
  refine k_lmul C dX4_across_95 ?_
  refine k_lload C 3 dX4_across_96 rfl ?_
  refine k_lload C 1 dX4_across_98 rfl ?_
  refine k_lmul C dX4_across_100 ?_
  refine k_lsub C dX4_across_101 ?_
  refine k_put C (ws' := (wM ad cI cJ thr pts blt bds hld fcs egs ((((hy b) - (hy a)) * ((hz c) - (hz a))) - (((hz b) - (hz a)) * ((hy c) - (hy a)))) ty tz xs ys zs szs crn odr nds lfs rts far hx hy hz nx ny nz ofs)) hinX4 tyX4 tyX4_ok nmX4 0 23 rfl rfl (by decide) lk4 rfl rfl rfl rfl (Nat.le_of_ble_eq_true rfl) rfl dX4_across_102 ?_
  refine k_aload_n C 6 dX4_across_105 rfl rfl ?_
  refine k_lload C 3 dX4_across_106 rfl ?_
  refine k_lload C 2 dX4_across_108 rfl ?_
  refine k_lmul C dX4_across_110 ?_
  refine k_lload C 5 dX4_across_111 rfl ?_
  refine k_lload C 0 dX4_across_113 rfl ?_
  refine k_lmul C dX4_across_115 ?_
  refine k_lsub C dX4_across_116 ?_
  refine k_put C (ws' := (wM ad cI cJ thr pts blt bds hld fcs egs ((((hy b) - (hy a)) * ((hz c) - (hz a))) - (((hz b) - (hz a)) * ((hy c) - (hy a)))) ((((hz b) - (hz a)) * ((hx c) - (hx a))) - (((hx b) - (hx a)) * ((hz c) - (hz a)))) tz xs ys zs szs crn odr nds lfs rts far hx hy hz nx ny nz ofs)) hinX4 tyX4 tyX4_ok nmX4 0 24 rfl rfl (by decide) lk5 rfl rfl rfl rfl (Nat.le_of_ble_eq_true rfl) rfl dX4_across_117 ?_
  refine k_aload_n C 6 dX4_across_120 rfl rfl ?_
  refine k_lload C 5 dX4_across_121 rfl ?_
  refine k_lload C 1 dX4_across_123 rfl ?_
  refine k_lmul C dX4_across_125 ?_
  refine k_lload C 4 dX4_across_126 rfl ?_
  refine k_lload C 2 dX4_across_128 rfl ?_
  refine k_lmul C dX4_across_130 ?_
  refine k_lsub C dX4_across_131 ?_
  refine k_put C (ws' := (wM ad cI cJ thr pts blt bds hld fcs egs ((((hy b) - (hy a)) * ((hz c) - (hz a))) - (((hz b) - (hz a)) * ((hy c) - (hy a)))) ((((hz b) - (hz a)) * ((hx c) - (hx a))) - (((hx b) - (hx a)) * ((hz c) - (hz a)))) ((((hx b) - (hx a)) * ((hy c) - (hy a))) - (((hy b) - (hy a)) * ((hx c) - (hx a)))) xs ys zs szs crn odr nds lfs rts far hx hy hz nx ny nz ofs)) hinX4 tyX4 tyX4_ok nmX4 0 25 rfl rfl (by decide) lk6 rfl rfl rfl rfl (Nat.le_of_ble_eq_true rfl) rfl dX4_across_132 ?_
  exact hret _ _ _ (rfl) dX4_across_135
set_option maxHeartbeats 4000000 in
set_option maxRecDepth 100000 in
theorem c4_above (l : Launch) (D : va_G) (cI cJ cF cD : ClassId) {ad : Nat → Nat} {thr pts blt bds hld fcs egs : Int32} {tx ty tz : Int64} {xs ys zs szs crn odr nds lfs rts far : Nat → Int32} {hx hy hz nx ny nz ofs : Nat → Int64} {a q : Nat} (ha : a < 24) (hq : q < 24) : CtL l D (tyG cI cJ cF cD) yX4_above wsX4_above ({ frames := 0, cells := 0, slots := 0, locals := 0 }) [.ref (ad 0), .int (nI a), .int (nI q)] (wM ad cI cJ thr pts blt bds hld fcs egs tx ty tz xs ys zs szs crn odr nds lfs rts far hx hy hz nx ny nz ofs) (fun r w => r = (dot3 tx ty tz (hx q - hx a) (hy q - hy a) (hz q - hz a)) ∧ w = (wM ad cI cJ thr pts blt bds hld fcs egs tx ty tz xs ys zs szs crn odr nds lfs rts far hx hy hz nx ny nz ofs)) := by
  refine ctL_of (cc := cX4_above) (maxL := 3) (by decide) rfl (Nat.le_of_ble_eq_true rfl) ?_
  intro X hXl hXd C hret
  have lk0 : Cond.fieldLink RX4 81 "HullBuilderModel" "tx" "J" ∈ wsX4_above := by decide +kernel
  have hinX4 : ∀ w ∈ wsX40, w ∈ wsX4_above := by decide +kernel
  have lk2 : Cond.fieldLink RX4 19 "HullBuilderModel" "hx" "[J" ∈ wsX4_above := by decide +kernel
  have lk3 : Cond.fieldLink RX4 85 "HullBuilderModel" "ty" "J" ∈ wsX4_above := by decide +kernel
  have lk4 : Cond.fieldLink RX4 23 "HullBuilderModel" "hy" "[J" ∈ wsX4_above := by decide +kernel
  have lk5 : Cond.fieldLink RX4 88 "HullBuilderModel" "tz" "J" ∈ wsX4_above := by decide +kernel
  have lk6 : Cond.fieldLink RX4 26 "HullBuilderModel" "hz" "[J" ∈ wsX4_above := by decide +kernel
  show Kw X 0 0 (wM ad cI cJ thr pts blt bds hld fcs egs tx ty tz xs ys zs szs crn odr nds lfs rts far hx hy hz nx ny nz ofs) 0 [(0, .ref (ad 0)), (1, .int (nI a)), (2, .int (nI q))] []
  refine k_aload_n C 0 dX4_above_0 rfl rfl ?_
  refine k_get C hinX4 0 23 rfl rfl (by decide) lk0 rfl rfl dX4_above_1 ?_
  refine k_aload_n C 0 dX4_above_4 rfl rfl ?_
  refine k_get C hinX4 0 8 rfl rfl (by decide) lk2 rfl rfl dX4_above_5 ?_
  refine k_iload_n C 2 dX4_above_8 rfl rfl ?_
  refine k_lald C (j := q) 4 1 rfl rfl (by omega) (by decide) dX4_above_9 ?_
  refine k_aload_n C 0 dX4_above_10 rfl rfl ?_
  refine k_get C hinX4 0 8 rfl rfl (by decide) lk2 rfl rfl dX4_above_11 ?_
  refine k_iload_n C 1 dX4_above_14 rfl rfl ?_
  refine k_lald C (j := a) 4 1 rfl rfl (by omega) (by decide) dX4_above_15 ?_
  refine k_lsub C dX4_above_16 ?_
  refine k_lmul C dX4_above_17 ?_
  refine k_aload_n C 0 dX4_above_18 rfl rfl ?_
  refine k_get C hinX4 0 24 rfl rfl (by decide) lk3 rfl rfl dX4_above_19 ?_
  refine k_aload_n C 0 dX4_above_22 rfl rfl ?_
  refine k_get C hinX4 0 9 rfl rfl (by decide) lk4 rfl rfl dX4_above_23 ?_
  refine k_iload_n C 2 dX4_above_26 rfl rfl ?_
  refine k_lald C (j := q) 5 1 rfl rfl (by omega) (by decide) dX4_above_27 ?_
  refine k_aload_n C 0 dX4_above_28 rfl rfl ?_
  refine k_get C hinX4 0 9 rfl rfl (by decide) lk4 rfl rfl dX4_above_29 ?_
  refine k_iload_n C 1 dX4_above_32 rfl rfl ?_
  refine k_lald C (j := a) 5 1 rfl rfl (by omega) (by decide) dX4_above_33 ?_
  refine k_lsub C dX4_above_34 ?_
  refine k_lmul C dX4_above_35 ?_
  refine k_ladd C dX4_above_36 ?_
  refine k_aload_n C 0 dX4_above_37 rfl rfl ?_
  refine k_get C hinX4 0 25 rfl rfl (by decide) lk5 rfl rfl dX4_above_38 ?_
  refine k_aload_n C 0 dX4_above_41 rfl rfl ?_
  refine k_get C hinX4 0 10 rfl rfl (by decide) lk6 rfl rfl dX4_above_42 ?_
  refine k_iload_n C 2 dX4_above_45 rfl rfl ?_
  refine k_lald C (j := q) 6 1 rfl rfl (by omega) (by decide) dX4_above_46 ?_
  refine k_aload_n C 0 dX4_above_47 rfl rfl ?_
  refine k_get C hinX4 0 10 rfl rfl (by decide) lk6 rfl rfl dX4_above_48 ?_
  refine k_iload_n C 1 dX4_above_51 rfl rfl ?_
  refine k_lald C (j := a) 6 1 rfl rfl (by omega) (by decide) dX4_above_52 ?_
  refine k_lsub C dX4_above_53 ?_
  refine k_lmul C dX4_above_54 ?_
  refine k_ladd C dX4_above_55 ?_
  exact hret _ _ _ _ ⟨rfl, rfl⟩ dX4_above_56
