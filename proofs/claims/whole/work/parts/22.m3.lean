/-! ===== HullBuilderModel: its contracts, 3 ===== -/
set_option maxHeartbeats 4000000 in
set_option maxRecDepth 100000 in
theorem c4_walk (l : Launch) (D : va_G) (cI cJ cF cD : ClassId) {ad : Nat → Nat} {thr pts blt bds egs : Int32} {tx ty tz : Int64} {xs ys zs odr nds lfs rts far : Nat → Int32} {hx hy hz : Nat → Int64} {F : FT} {nh f m : Nat} {o z r : Nat → Nat} (hh : nh ≤ 24) (hf : f < 64) (hR : ringOK F nh hx hy hz f r m) : CtV l D (tyG cI cJ cF cD) yX4_walk wsX4_walk ({ frames := 3, cells := 0, slots := 0, locals := 87 }) [.ref (ad 0), .int (nI f)] (wM ad cI cJ thr pts blt bds (nI nh) (nI F.1) egs tx ty tz xs ys zs (nA z) (nA o) odr nds lfs rts far hx hy hz F.2.1 F.2.2.1 F.2.2.2.1 F.2.2.2.2) (fun w => ∃ t1 t2 t3 : Int64, w = (wM ad cI cJ thr pts blt bds (nI nh) (nI F.1) egs t1 t2 t3 xs ys zs (nA (updN z f m)) (nA (ringO o f r m)) odr nds lfs rts far hx hy hz F.2.1 F.2.2.1 F.2.2.2.1 F.2.2.2.2)) := by
  refine ctV_of (cc := cX4_walk) (maxL := 6) (by decide) rfl (Nat.le_of_ble_eq_true rfl) ?_
  intro X hXl hXd C hret
  have lk0 : Cond.fieldLink RX4 41 "HullBuilderModel" "sizes" "[I" ∈ wsX4_walk := by decide +kernel
  have hinX4 : ∀ w ∈ wsX40, w ∈ wsX4_walk := by decide +kernel
  have lk2 : Cond.fieldLink RX4 44 "HullBuilderModel" "corners" "[I" ∈ wsX4_walk := by decide +kernel
  have hr0 := hR.2.2.1 0 hR.1
  have hm1 := hR.1
  have hm2 := hR.2.1
  have hr1 : r (0 + 1) < 24 := by rcases Nat.lt_or_ge 1 m with h | h; exact Nat.lt_of_lt_of_le (hR.2.2.1 1 h) hh; have e := hR.2.2.2.1; rw [show m = 0 + 1 by omega] at e; rw [e]; omega
  have hrb : ∀ k, k ≤ m → r k < 24 := by intro k hk; rcases Nat.lt_or_ge k m with h | h; exact Nat.lt_of_lt_of_le (hR.2.2.1 k h) hh; rw [show k = m by omega, hR.2.2.2.1]; omega
  show Kw X 0 0 (wM ad cI cJ thr pts blt bds (nI nh) (nI F.1) egs tx ty tz xs ys zs (nA z) (nA o) odr nds lfs rts far hx hy hz F.2.1 F.2.2.1 F.2.2.2.1 F.2.2.2.2) 0 [(0, .ref (ad 0)), (1, .int (nI f))] []
  refine k_iconst C (v := (nI 0)) dX4_walk_0 (by decide) ?_
  refine k_istore_n C (lv' := [(2, .int (nI 0)), (0, .ref (ad 0)), (1, .int (nI f))]) dX4_walk_1 rfl (by decide) rfl ?_
  suffices L2 : ∀ (n2 j2 : Nat) (t1 : Int64) (t2 : Int64) (t3 : Int64), j2 ≤ r 0 → r 0 + 1 ≤ j2 + n2 → Kw X 0 0 (wM ad cI cJ thr pts blt bds (nI nh) (nI F.1) egs t1 t2 t3 xs ys zs (nA z) (nA o) odr nds lfs rts far hx hy hz F.2.1 F.2.2.1 F.2.2.2.1 F.2.2.2.2) 2 [(0, .ref (ad 0)), (1, .int (nI f)), (2, .int (nI j2))] [] by
    exact k_lv [1, 2, 0] rfl (L2 (r 0 + 1) 0 tx ty tz (by omega) (by omega))
  intro n2
  induction n2 with
  | zero => intro j2 t1 t2 t3 a1 a2; exact absurd a2 (by omega)
  | succ n2 ih2 =>
    intro j2 t1 t2 t3 b2 c2
    refine k_aload_n C 0 dX4_walk_2 rfl rfl ?_
    refine k_iload_n C 1 dX4_walk_3 rfl rfl ?_
    refine k_iload_n C 2 dX4_walk_4 rfl rfl ?_
    refine k_callVI C (ar := 2) (As := [.int (nI f), .int (nI j2)]) (rest := []) (c4_in (kxL X) (kxD X) cI cJ cF cD (by omega) (by omega)) gX4_walk_X4_in rfl rfl rfl (by decide +kernel) ⟨Nat.le_of_ble_eq_true rfl, Nat.le_of_ble_eq_true rfl⟩ 0 rfl rfl rfl rfl (Nat.le_of_ble_eq_true rfl) dX4_walk_5 (Nat.zero_le _) (Nat.zero_le _) (fun r w hw => ?_)
    obtain ⟨rfl, rfl⟩ := hw
    refine k_if_eqB C 20 dX4_walk_8 (by decide) (fun h_1 => ?_) (fun h_1 => ?_)
    · have hlt : j2 < r 0 := Nat.lt_of_le_of_ne b2 (by intro e; subst e; first | (rw [hR.2.2.2.2.2.1] at h_1; exact absurd h_1 (by decide)) | (rw [hR.2.2.2.2.2.2.1 0 hR.1] at h_2; exact absurd (nI_pos' (Nat.lt_trans hr1 (by decide))) h_2))
      refine k_iinc C (v := (nI (j2 + 1))) (lv' := [(2, .int (nI (j2 + 1))), (0, .ref (ad 0)), (1, .int (nI f))]) 2 dX4_walk_20 rfl (nI_1 _) (by decide) rfl ?_
      refine k_goto C 2 dX4_walk_23 (by decide) ?_
      exact k_lv [1, 2, 0] rfl (ih2 (j2 + 1) t1 t2 t3 (by omega) (by omega))
    · refine k_aload_n C 0 dX4_walk_11 rfl rfl ?_
      refine k_iload_n C 1 dX4_walk_12 rfl rfl ?_
      refine k_iload_n C 2 dX4_walk_13 rfl rfl ?_
      refine k_callVI C (ar := 2) (As := [.int (nI f), .int (nI j2)]) (rest := []) (c4_behind (kxL X) (kxD X) cI cJ cF cD (by omega) (by omega) (by omega)) gX4_walk_X4_behind rfl rfl rfl (by decide +kernel) ⟨Nat.le_of_ble_eq_true rfl, Nat.le_of_ble_eq_true rfl⟩ 0 rfl rfl rfl rfl (Nat.le_of_ble_eq_true rfl) dX4_walk_14 (Nat.zero_le _) (Nat.zero_le _) (fun r w hw => ?_)
      obtain ⟨t1_2, t2_2, t3_2, rfl, rfl⟩ := hw
      refine k_if_ge C 26 dX4_walk_17 (by decide) (fun h_2 => ?_) (fun h_2 => ?_)
      · have heq : r 0 = j2 := Nat.le_antisymm (Nat.le_of_not_lt (fun hlt => absurd (hR.2.2.2.2.2.2.2 j2 hlt h_1) (Int32.not_lt.mpr h_2))) b2
        subst heq
        refine k_lv (lv' := [(0, .ref (ad 0)), (1, .int (nI f)), (2, .int (nI (r 0)))]) [0, 1, 2] rfl ?_
        refine k_iconst C (v := (nI 0)) dX4_walk_26 (by decide) ?_
        refine k_istore_n C (lv' := [(3, .int (nI 0)), (0, .ref (ad 0)), (1, .int (nI f)), (2, .int (nI (r 0)))]) dX4_walk_27 rfl (by decide) rfl ?_
        refine k_iload_n C 3 dX4_walk_28 rfl rfl ?_
        refine k_istore C (lv' := [(4, .int (nI (r 0))), (3, .int (nI 0)), (0, .ref (ad 0)), (1, .int (nI f)), (2, .int (nI (r 0)))]) dX4_walk_29 (by decide) rfl ?_
        refine k_iconst C (v := (nI 0)) dX4_walk_31 (by decide) ?_
        refine k_istore C (lv' := [(5, .int (nI 0)), (4, .int (nI (r 0))), (3, .int (nI 0)), (0, .ref (ad 0)), (1, .int (nI f)), (2, .int (nI (r 0)))]) dX4_walk_32 (by decide) rfl ?_
        suffices L34 : ∀ (n34 j34 : Nat) (t1 : Int64) (t2 : Int64) (t3 : Int64), j34 ≤ m → m + 1 ≤ j34 + n34 → Kw X 0 0 (wM ad cI cJ thr pts blt bds (nI nh) (nI F.1) egs t1 t2 t3 xs ys zs (nA z) (nA (ringO o f r j34)) odr nds lfs rts far hx hy hz F.2.1 F.2.2.1 F.2.2.2.1 F.2.2.2.2) 34 [(0, .ref (ad 0)), (1, .int (nI f)), (2, .int (nI (r 0))), (3, .int (nI j34)), (4, .int (nI (r j34))), (5, .int (nI j34))] [] by
          have w37_0 : (nA o) = (nA (ringO o f r 0)) := by rw [ringO_0]
          refine k_ws (ws' := (wM ad cI cJ thr pts blt bds (nI nh) (nI F.1) egs t1_2 t2_2 t3_2 xs ys zs (nA z) (nA (ringO o f r 0)) odr nds lfs rts far hx hy hz F.2.1 F.2.2.1 F.2.2.2.1 F.2.2.2.2)) (by rw [← w37_0]) ?_
          exact k_lv [3, 4, 5, 2, 1, 0] rfl (L34 (m + 1) 0 t1_2 t2_2 t3_2 (by omega) (by omega))
        intro n34
        induction n34 with
        | zero => intro j34 t1 t2 t3 a1 a2; exact absurd a2 (by omega)
        | succ n34 ih34 =>
          intro j34 t1 t2 t3 b34 c34
          refine k_iload C 5 dX4_walk_34 rfl ?_
          refine k_bipush C (v := (nI 24)) dX4_walk_36 (by decide) ?_
          refine k_icmp_geN C (by omega) (by omega) 82 dX4_walk_38 (by decide) (fun h_3 => ?_) (fun h_3 => ?_)
          · have heq : m = j34 := Nat.le_antisymm (Nat.le_of_not_lt (fun hlt => by first | omega | exact hR.2.2.2.2.1 j34 (by omega) hlt (by assumption))) b34
            subst heq
            refine k_ws (ws' := (wM ad cI cJ thr pts blt bds (nI nh) (nI F.1) egs t1 t2 t3 xs ys zs (nA z) (nA (ringO o f r m)) odr nds lfs rts far hx hy hz F.2.1 F.2.2.1 F.2.2.2.1 F.2.2.2.2)) rfl ?_
            refine k_lv (lv' := [(0, .ref (ad 0)), (1, .int (nI f)), (2, .int (nI (r 0))), (3, .int (nI m)), (4, .int (nI (r m))), (5, .int (nI m))]) [0, 1, 2, 3, 4, 5] rfl ?_
            refine k_aload_n C 0 dX4_walk_82 rfl rfl ?_
            refine k_get C hinX4 0 16 rfl rfl (by decide) lk0 rfl rfl dX4_walk_83 ?_
            refine k_iload_n C 1 dX4_walk_86 rfl rfl ?_
            refine k_iload_n C 3 dX4_walk_87 rfl rfl ?_
            refine k_iastN C (ws' := (wM ad cI cJ thr pts blt bds (nI nh) (nI F.1) egs t1 t2 t3 xs ys zs (nA (updN z f m)) (nA (ringO o f r m)) odr nds lfs rts far hx hy hz F.2.1 F.2.2.1 F.2.2.2.1 F.2.2.2.2)) (j := f) 11 0 rfl rfl (by omega) (by decide) rfl dX4_walk_88 ?_
            exact hret _ _ _ (⟨_, _, _, rfl⟩) dX4_walk_89
          · refine k_iload_n C 3 dX4_walk_41 rfl rfl ?_
            refine k_if_eqN C (by omega) 51 dX4_walk_42 (by decide) (fun h_4 => ?_) (fun h_4 => ?_)
            · have hlt : j34 < m := Nat.lt_of_le_of_ne b34 (by intro e; subst e; first | omega | exact h_4 hR.2.2.2.1)
              have hrj := hR.2.2.1 j34 hlt
              refine k_aload_n C 0 dX4_walk_51 rfl rfl ?_
              refine k_get C hinX4 0 17 rfl rfl (by decide) lk2 rfl rfl dX4_walk_52 ?_
              refine k_bipush C (v := (nI 24)) dX4_walk_55 (by decide) ?_
              refine k_iload_n C 1 dX4_walk_57 rfl rfl ?_
              refine k_imulN C dX4_walk_58 ?_
              refine k_iload_n C 3 dX4_walk_59 rfl rfl ?_
              refine k_iaddN C dX4_walk_60 ?_
              refine k_iload C 4 dX4_walk_61 rfl ?_
              refine k_iastN C (ws' := (wM ad cI cJ thr pts blt bds (nI nh) (nI F.1) egs t1 t2 t3 xs ys zs (nA z) (nA (updN (ringO o f r j34) ((24 * f) + j34) (r j34))) odr nds lfs rts far hx hy hz F.2.1 F.2.2.1 F.2.2.2.1 F.2.2.2.2)) (j := ((24 * f) + j34)) 12 0 rfl rfl (by omega) (by decide) rfl dX4_walk_63 ?_
              refine k_iinc C (v := (nI (j34 + 1))) (lv' := [(3, .int (nI (j34 + 1))), (0, .ref (ad 0)), (1, .int (nI f)), (2, .int (nI (r 0))), (4, .int (nI (r j34))), (5, .int (nI j34))]) 3 dX4_walk_64 rfl (nI_1 _) (by decide) rfl ?_
              refine k_aload_n C 1 dX4_walk_67 rfl rfl ?_
              refine k_iload_n C 2 dX4_walk_68 rfl rfl ?_
              refine k_iload C 4 dX4_walk_69 rfl ?_
              refine k_callVI C (ar := 2) (As := [.int (nI f), .int (nI (r j34))]) (rest := []) (c4_behind (kxL X) (kxD X) cI cJ cF cD (by omega) (by omega) (by omega)) gX4_walk_X4_behind rfl rfl rfl (by decide +kernel) ⟨Nat.le_of_ble_eq_true rfl, Nat.le_of_ble_eq_true rfl⟩ 0 rfl rfl rfl rfl (Nat.le_of_ble_eq_true rfl) dX4_walk_71 (Nat.zero_le _) (Nat.zero_le _) (fun r w hw => ?_)
              obtain ⟨t1_3, t2_3, t3_3, rfl, rfl⟩ := hw
              refine k_topi (nI (r (j34 + 1))) (hR.2.2.2.2.2.2.1 j34 hlt) ?_
              refine k_istore C (lv' := [(4, .int (nI (r (j34 + 1)))), (3, .int (nI (j34 + 1))), (0, .ref (ad 0)), (1, .int (nI f)), (2, .int (nI (r 0))), (5, .int (nI j34))]) dX4_walk_74 (by decide) rfl ?_
              refine k_iinc C (v := (nI (j34 + 1))) (lv' := [(5, .int (nI (j34 + 1))), (4, .int (nI (r (j34 + 1)))), (3, .int (nI (j34 + 1))), (0, .ref (ad 0)), (1, .int (nI f)), (2, .int (nI (r 0)))]) 5 dX4_walk_76 rfl (nI_1 _) (by decide) rfl ?_
              refine k_goto C 34 dX4_walk_79 (by decide) ?_
              have w83_0 : (nA (updN (ringO o f r j34) ((24 * f) + j34) (r j34))) = (nA (ringO o f r (j34 + 1))) := by rw [← ringO_s]
              refine k_ws (ws' := (wM ad cI cJ thr pts blt bds (nI nh) (nI F.1) egs t1_3 t2_3 t3_3 xs ys zs (nA z) (nA (ringO o f r (j34 + 1))) odr nds lfs rts far hx hy hz F.2.1 F.2.2.1 F.2.2.2.1 F.2.2.2.2)) (by rw [← w83_0]) ?_
              exact k_lv [3, 4, 5, 2, 1, 0] rfl (ih34 (j34 + 1) t1_3 t2_3 t3_3 (by omega) (by omega))
            · have hrk := hrb j34 b34
              refine k_iload C 4 dX4_walk_45 rfl ?_
              refine k_iload_n C 2 dX4_walk_47 rfl rfl ?_
              refine k_icmp_eqN C (by omega) (by omega) 82 dX4_walk_48 (by decide) (fun h_5 => ?_) (fun h_5 => ?_)
              · have heq : m = j34 := Nat.le_antisymm (Nat.le_of_not_lt (fun hlt => by first | omega | exact hR.2.2.2.2.1 j34 (by omega) hlt (by assumption))) b34
                subst heq
                refine k_ws (ws' := (wM ad cI cJ thr pts blt bds (nI nh) (nI F.1) egs t1 t2 t3 xs ys zs (nA z) (nA (ringO o f r m)) odr nds lfs rts far hx hy hz F.2.1 F.2.2.1 F.2.2.2.1 F.2.2.2.2)) rfl ?_
                refine k_lv (lv' := [(0, .ref (ad 0)), (1, .int (nI f)), (2, .int (nI (r 0))), (3, .int (nI m)), (4, .int (nI (r m))), (5, .int (nI m))]) [0, 1, 2, 3, 4, 5] rfl ?_
                refine k_aload_n C 0 dX4_walk_82 rfl rfl ?_
                refine k_get C hinX4 0 16 rfl rfl (by decide) lk0 rfl rfl dX4_walk_83 ?_
                refine k_iload_n C 1 dX4_walk_86 rfl rfl ?_
                refine k_iload_n C 3 dX4_walk_87 rfl rfl ?_
                refine k_iastN C (ws' := (wM ad cI cJ thr pts blt bds (nI nh) (nI F.1) egs t1 t2 t3 xs ys zs (nA (updN z f m)) (nA (ringO o f r m)) odr nds lfs rts far hx hy hz F.2.1 F.2.2.1 F.2.2.2.1 F.2.2.2.2)) (j := f) 11 0 rfl rfl (by omega) (by decide) rfl dX4_walk_88 ?_
                exact hret _ _ _ (⟨_, _, _, rfl⟩) dX4_walk_89
              · have hlt : j34 < m := Nat.lt_of_le_of_ne b34 (by intro e; subst e; first | omega | exact h_5 hR.2.2.2.1)
                have hrj := hR.2.2.1 j34 hlt
                refine k_aload_n C 0 dX4_walk_51 rfl rfl ?_
                refine k_get C hinX4 0 17 rfl rfl (by decide) lk2 rfl rfl dX4_walk_52 ?_
                refine k_bipush C (v := (nI 24)) dX4_walk_55 (by decide) ?_
                refine k_iload_n C 1 dX4_walk_57 rfl rfl ?_
                refine k_imulN C dX4_walk_58 ?_
                refine k_iload_n C 3 dX4_walk_59 rfl rfl ?_
                refine k_iaddN C dX4_walk_60 ?_
                refine k_iload C 4 dX4_walk_61 rfl ?_
                refine k_iastN C (ws' := (wM ad cI cJ thr pts blt bds (nI nh) (nI F.1) egs t1 t2 t3 xs ys zs (nA z) (nA (updN (ringO o f r j34) ((24 * f) + j34) (r j34))) odr nds lfs rts far hx hy hz F.2.1 F.2.2.1 F.2.2.2.1 F.2.2.2.2)) (j := ((24 * f) + j34)) 12 0 rfl rfl (by omega) (by decide) rfl dX4_walk_63 ?_
                refine k_iinc C (v := (nI (j34 + 1))) (lv' := [(3, .int (nI (j34 + 1))), (0, .ref (ad 0)), (1, .int (nI f)), (2, .int (nI (r 0))), (4, .int (nI (r j34))), (5, .int (nI j34))]) 3 dX4_walk_64 rfl (nI_1 _) (by decide) rfl ?_
                refine k_aload_n C 1 dX4_walk_67 rfl rfl ?_
                refine k_iload_n C 2 dX4_walk_68 rfl rfl ?_
                refine k_iload C 4 dX4_walk_69 rfl ?_
                refine k_callVI C (ar := 2) (As := [.int (nI f), .int (nI (r j34))]) (rest := []) (c4_behind (kxL X) (kxD X) cI cJ cF cD (by omega) (by omega) (by omega)) gX4_walk_X4_behind rfl rfl rfl (by decide +kernel) ⟨Nat.le_of_ble_eq_true rfl, Nat.le_of_ble_eq_true rfl⟩ 0 rfl rfl rfl rfl (Nat.le_of_ble_eq_true rfl) dX4_walk_71 (Nat.zero_le _) (Nat.zero_le _) (fun r w hw => ?_)
                obtain ⟨t1_4, t2_4, t3_4, rfl, rfl⟩ := hw
                refine k_topi (nI (r (j34 + 1))) (hR.2.2.2.2.2.2.1 j34 hlt) ?_
                refine k_istore C (lv' := [(4, .int (nI (r (j34 + 1)))), (3, .int (nI (j34 + 1))), (0, .ref (ad 0)), (1, .int (nI f)), (2, .int (nI (r 0))), (5, .int (nI j34))]) dX4_walk_74 (by decide) rfl ?_
                refine k_iinc C (v := (nI (j34 + 1))) (lv' := [(5, .int (nI (j34 + 1))), (4, .int (nI (r (j34 + 1)))), (3, .int (nI (j34 + 1))), (0, .ref (ad 0)), (1, .int (nI f)), (2, .int (nI (r 0)))]) 5 dX4_walk_76 rfl (nI_1 _) (by decide) rfl ?_
                refine k_goto C 34 dX4_walk_79 (by decide) ?_
                have w122_0 : (nA (updN (ringO o f r j34) ((24 * f) + j34) (r j34))) = (nA (ringO o f r (j34 + 1))) := by rw [← ringO_s]
                refine k_ws (ws' := (wM ad cI cJ thr pts blt bds (nI nh) (nI F.1) egs t1_4 t2_4 t3_4 xs ys zs (nA z) (nA (ringO o f r (j34 + 1))) odr nds lfs rts far hx hy hz F.2.1 F.2.2.1 F.2.2.2.1 F.2.2.2.2)) (by rw [← w122_0]) ?_
                exact k_lv [3, 4, 5, 2, 1, 0] rfl (ih34 (j34 + 1) t1_4 t2_4 t3_4 (by omega) (by omega))
      · have hlt : j2 < r 0 := Nat.lt_of_le_of_ne b2 (by intro e; subst e; first | (rw [hR.2.2.2.2.2.1] at h_1; exact absurd h_1 (by decide)) | (rw [hR.2.2.2.2.2.2.1 0 hR.1] at h_2; exact absurd (nI_pos' (Nat.lt_trans hr1 (by decide))) h_2))
        refine k_iinc C (v := (nI (j2 + 1))) (lv' := [(2, .int (nI (j2 + 1))), (0, .ref (ad 0)), (1, .int (nI f))]) 2 dX4_walk_20 rfl (nI_1 _) (by decide) rfl ?_
        refine k_goto C 2 dX4_walk_23 (by decide) ?_
        exact k_lv [1, 2, 0] rfl (ih2 (j2 + 1) t1_2 t2_2 t3_2 (by omega) (by omega))
set_option maxHeartbeats 4000000 in
set_option maxRecDepth 100000 in
theorem c4_earlier (l : Launch) (D : va_G) (cI cJ cF cD : ClassId) {ad : Nat → Nat} {thr pts blt bds hld fcs egs : Int32} {tx ty tz : Int64} {xs ys zs szs odr nds lfs rts far : Nat → Int32} {hx hy hz nx ny nz ofs : Nat → Int64} {f g : Nat} {o : Nat → Nat} (hf : f < 64) (hg : g < 64) (ho : ∀ i, o i < 24) : CtI l D (tyG cI cJ cF cD) yX4_earlier wsX4_earlier ({ frames := 0, cells := 0, slots := 0, locals := 0 }) [.ref (ad 0), .int (nI f), .int (nI g)] (wM ad cI cJ thr pts blt bds hld fcs egs tx ty tz xs ys zs szs (nA o) odr nds lfs rts far hx hy hz nx ny nz ofs) (fun r w => r = (b2i (erlB o f g)) ∧ w = (wM ad cI cJ thr pts blt bds hld fcs egs tx ty tz xs ys zs szs (nA o) odr nds lfs rts far hx hy hz nx ny nz ofs)) := by
  refine ctZ_of (cc := cX4_earlier) (maxL := 5) (by decide) rfl (Nat.le_of_ble_eq_true rfl) (fun r w h => h.1 ▸ b2i_01 _) ?_
  intro X hXl hXd C hret
  have lk0 : Cond.fieldLink RX4 44 "HullBuilderModel" "corners" "[I" ∈ wsX4_earlier := by decide +kernel
  have hinX4 : ∀ w ∈ wsX40, w ∈ wsX4_earlier := by decide +kernel
  have b1 := ho (24 * f)
  have b2 := ho ((24 * f) + 1)
  have b3 := ho (24 * g)
  have b4 := ho ((24 * g) + 1)
  show Kw X 0 0 (wM ad cI cJ thr pts blt bds hld fcs egs tx ty tz xs ys zs szs (nA o) odr nds lfs rts far hx hy hz nx ny nz ofs) 0 [(0, .ref (ad 0)), (1, .int (nI f)), (2, .int (nI g))] []
  refine k_bipush C (v := (nI 32)) dX4_earlier_0 (by decide) ?_
  refine k_aload_n C 0 dX4_earlier_2 rfl rfl ?_
  refine k_get C hinX4 0 17 rfl rfl (by decide) lk0 rfl rfl dX4_earlier_3 ?_
  refine k_bipush C (v := (nI 24)) dX4_earlier_6 (by decide) ?_
  refine k_iload_n C 1 dX4_earlier_8 rfl rfl ?_
  refine k_imulN C dX4_earlier_9 ?_
  refine k_ialdN C (j := (24 * f)) 12 0 rfl rfl (by omega) (by decide) dX4_earlier_10 ?_
  refine k_imulN C dX4_earlier_11 ?_
  refine k_aload_n C 0 dX4_earlier_12 rfl rfl ?_
  refine k_get C hinX4 0 17 rfl rfl (by decide) lk0 rfl rfl dX4_earlier_13 ?_
  refine k_bipush C (v := (nI 24)) dX4_earlier_16 (by decide) ?_
  refine k_iload_n C 1 dX4_earlier_18 rfl rfl ?_
  refine k_imulN C dX4_earlier_19 ?_
  refine k_iconst C (v := (nI 1)) dX4_earlier_20 (by decide) ?_
  refine k_iaddN C dX4_earlier_21 ?_
  refine k_ialdN C (j := ((24 * f) + 1)) 12 0 rfl rfl (by omega) (by decide) dX4_earlier_22 ?_
  refine k_iaddN C dX4_earlier_23 ?_
  refine k_istore_n C (lv' := [(3, .int (nI ((32 * (o (24 * f))) + (o ((24 * f) + 1))))), (0, .ref (ad 0)), (1, .int (nI f)), (2, .int (nI g))]) dX4_earlier_24 rfl (by decide) rfl ?_
  refine k_bipush C (v := (nI 32)) dX4_earlier_25 (by decide) ?_
  refine k_aload_n C 1 dX4_earlier_27 rfl rfl ?_
  refine k_get C hinX4 0 17 rfl rfl (by decide) lk0 rfl rfl dX4_earlier_28 ?_
  refine k_bipush C (v := (nI 24)) dX4_earlier_31 (by decide) ?_
  refine k_iload_n C 3 dX4_earlier_33 rfl rfl ?_
  refine k_imulN C dX4_earlier_34 ?_
  refine k_ialdN C (j := (24 * g)) 12 0 rfl rfl (by omega) (by decide) dX4_earlier_35 ?_
  refine k_imulN C dX4_earlier_36 ?_
  refine k_aload_n C 1 dX4_earlier_37 rfl rfl ?_
  refine k_get C hinX4 0 17 rfl rfl (by decide) lk0 rfl rfl dX4_earlier_38 ?_
  refine k_bipush C (v := (nI 24)) dX4_earlier_41 (by decide) ?_
  refine k_iload_n C 3 dX4_earlier_43 rfl rfl ?_
  refine k_imulN C dX4_earlier_44 ?_
  refine k_iconst C (v := (nI 1)) dX4_earlier_45 (by decide) ?_
  refine k_iaddN C dX4_earlier_46 ?_
  refine k_ialdN C (j := ((24 * g) + 1)) 12 0 rfl rfl (by omega) (by decide) dX4_earlier_47 ?_
  refine k_iaddN C dX4_earlier_48 ?_
  refine k_istore C (lv' := [(4, .int (nI ((32 * (o (24 * g))) + (o ((24 * g) + 1))))), (3, .int (nI ((32 * (o (24 * f))) + (o ((24 * f) + 1))))), (0, .ref (ad 0)), (1, .int (nI f)), (2, .int (nI g))]) dX4_earlier_49 (by decide) rfl ?_
  refine k_iload_n C 1 dX4_earlier_51 rfl rfl ?_
  refine k_iload C 0 dX4_earlier_52 rfl ?_
  refine k_icmp_geN C (by omega) (by omega) 61 dX4_earlier_54 (by decide) (fun h_1 => ?_) (fun h_1 => ?_)
  · refine k_iconst C (v := (nI 0)) dX4_earlier_61 (by decide) ?_
    exact hret _ _ _ _ ⟨by first | (rw [show erlB o f g = true from decide_eq_true (show keyO o f < keyO o g from by assumption)]; rfl) | (rw [show erlB o f g = false from decide_eq_false (Nat.not_lt.mpr (show keyO o g ≤ keyO o f from by assumption))]; rfl), rfl⟩ dX4_earlier_62
  · refine k_iconst C (v := (nI 1)) dX4_earlier_57 (by decide) ?_
    refine k_goto C 62 dX4_earlier_58 (by decide) ?_
    exact hret _ _ _ _ ⟨by first | (rw [show erlB o f g = true from decide_eq_true (show keyO o f < keyO o g from by assumption)]; rfl) | (rw [show erlB o f g = false from decide_eq_false (Nat.not_lt.mpr (show keyO o g ≤ keyO o f from by assumption))]; rfl), rfl⟩ dX4_earlier_62
set_option maxHeartbeats 4000000 in
set_option maxRecDepth 100000 in
theorem c4_orderFaces (l : Launch) (D : va_G) (cI cJ cF cD : ClassId) {ad : Nat → Nat} {thr pts blt bds hld egs : Int32} {tx ty tz : Int64} {xs ys zs szs nds lfs rts far : Nat → Int32} {hx hy hz : Nat → Int64} {F : FT} {o p : Nat → Nat} (hF : F.1 ≤ 64) (ho : ∀ i, o i < 24) (hp : ∀ i, p i < 64) : CtV l D (tyG cI cJ cF cD) yX4_orderFaces wsX4_orderFaces ({ frames := 1, cells := 0, slots := 0, locals := 24 }) [.ref (ad 0)] (wM ad cI cJ thr pts blt bds hld (nI F.1) egs tx ty tz xs ys zs szs (nA o) (nA p) nds lfs rts far hx hy hz F.2.1 F.2.2.1 F.2.2.2.1 F.2.2.2.2) (fun w => w = (wM ad cI cJ thr pts blt bds hld (nI F.1) egs tx ty tz xs ys zs szs (nA o) (nA (ordL (erlB o) p F.1)) nds lfs rts far hx hy hz F.2.1 F.2.2.1 F.2.2.2.1 F.2.2.2.2)) := by
  refine ctV_of (cc := cX4_orderFaces) (maxL := 3) (by decide) rfl (Nat.le_of_ble_eq_true rfl) ?_
  intro X hXl hXd C hret
  have lk0 : Cond.fieldLink RX4 91 "HullBuilderModel" "faces" "I" ∈ wsX4_orderFaces := by decide +kernel
  have hinX4 : ∀ w ∈ wsX40, w ∈ wsX4_orderFaces := by decide +kernel
  have lk2 : Cond.fieldLink RX4 47 "HullBuilderModel" "order" "[I" ∈ wsX4_orderFaces := by decide +kernel
  show Kw X 0 0 (wM ad cI cJ thr pts blt bds hld (nI F.1) egs tx ty tz xs ys zs szs (nA o) (nA p) nds lfs rts far hx hy hz F.2.1 F.2.2.1 F.2.2.2.1 F.2.2.2.2) 0 [(0, .ref (ad 0))] []
  refine k_iconst C (v := (nI 0)) dX4_orderFaces_0 (by decide) ?_
  refine k_istore_n C (lv' := [(1, .int (nI 0)), (0, .ref (ad 0))]) dX4_orderFaces_1 rfl (by decide) rfl ?_
  suffices L2 : ∀ (n2 j2 : Nat), j2 ≤ F.1 → F.1 + 1 ≤ j2 + n2 → Kw X 0 0 (wM ad cI cJ thr pts blt bds hld (nI F.1) egs tx ty tz xs ys zs szs (nA o) (nA (ordL (erlB o) p j2)) nds lfs rts far hx hy hz F.2.1 F.2.2.1 F.2.2.2.1 F.2.2.2.2) 2 [(0, .ref (ad 0)), (1, .int (nI j2))] [] by
    have w3_0 : (nA p) = (nA (ordL (erlB o) p 0)) := rfl
    refine k_ws (ws' := (wM ad cI cJ thr pts blt bds hld (nI F.1) egs tx ty tz xs ys zs szs (nA o) (nA (ordL (erlB o) p 0)) nds lfs rts far hx hy hz F.2.1 F.2.2.1 F.2.2.2.1 F.2.2.2.2)) (by rw [← w3_0]) ?_
    exact k_lv [1, 0] rfl (L2 (F.1 + 1) 0 (by omega) (by omega))
  intro n2
  induction n2 with
  | zero => intro j2 a1 a2; exact absurd a2 (by omega)
  | succ n2 ih2 =>
    intro j2 b2 c2
    refine k_iload_n C 1 dX4_orderFaces_2 rfl rfl ?_
    refine k_aload_n C 0 dX4_orderFaces_3 rfl rfl ?_
    refine k_get C hinX4 0 11 rfl rfl (by decide) lk0 rfl rfl dX4_orderFaces_4 ?_
    refine k_icmp_geN C (by omega) (by omega) 65 dX4_orderFaces_7 (by decide) (fun h_1 => ?_) (fun h_1 => ?_)
    · exact hret _ _ _ (by rw [show j2 = F.1 by omega]) dX4_orderFaces_65
    · refine k_iload_n C 1 dX4_orderFaces_10 rfl rfl ?_
      refine k_istore_n C (lv' := [(2, .int (nI j2)), (0, .ref (ad 0)), (1, .int (nI j2))]) dX4_orderFaces_11 rfl (by decide) rfl ?_
      have hq0 : ∀ i, ordL (erlB o) p j2 i < 64 := ordL_lt hp j2 (by omega)
      suffices L12 : ∀ (k : Nat) (q : Nat → Nat), k ≤ j2 → (∀ i, q i < 64) → insL (erlB o) j2 k q = insL (erlB o) j2 j2 (ordL (erlB o) p j2) → Kw X 0 0 (wM ad cI cJ thr pts blt bds hld (nI F.1) egs tx ty tz xs ys zs szs (nA o) (nA q) nds lfs rts far hx hy hz F.2.1 F.2.2.1 F.2.2.2.1 F.2.2.2.2) 12 [(0, .ref (ad 0)), (1, .int (nI j2)), (2, .int (nI k))] [] by
        exact k_lv [1, 2, 0] rfl (L12 j2 _ (Nat.le_refl _) hq0 rfl)
      intro k
      induction k with
      | zero =>
        intro q b12 hq g12
        refine k_iload_n C 2 dX4_orderFaces_12 rfl rfl ?_
        refine k_if_le C 52 dX4_orderFaces_13 (by decide) (fun _ => ?_) (fun h => absurd (show (nI 0) ≤ 0 from by decide) h)
        refine k_aload_n C 0 dX4_orderFaces_52 rfl rfl ?_
        refine k_get C hinX4 0 18 rfl rfl (by decide) lk2 rfl rfl dX4_orderFaces_53 ?_
        refine k_iload_n C 2 dX4_orderFaces_56 rfl rfl ?_
        refine k_iload_n C 1 dX4_orderFaces_57 rfl rfl ?_
        refine k_iastN C (ws' := (wM ad cI cJ thr pts blt bds hld (nI F.1) egs tx ty tz xs ys zs szs (nA o) (nA (updN q 0 j2)) nds lfs rts far hx hy hz F.2.1 F.2.2.1 F.2.2.2.1 F.2.2.2.2)) (j := 0) 13 0 rfl rfl (by omega) (by decide) rfl dX4_orderFaces_58 ?_
        refine k_iinc C (v := (nI (j2 + 1))) (lv' := [(1, .int (nI (j2 + 1))), (0, .ref (ad 0)), (2, .int (nI 0))]) 1 dX4_orderFaces_59 rfl (nI_1 _) (by decide) rfl ?_
        refine k_goto C 2 dX4_orderFaces_62 (by decide) ?_
        have w35_0 : (nA (updN q 0 j2)) = (nA (ordL (erlB o) p (j2 + 1))) := by rw [ordL, ← g12]; first | rfl | rw [insL, if_neg (Bool.eq_false_iff.mp (by assumption))]
        refine k_ws (ws' := (wM ad cI cJ thr pts blt bds hld (nI F.1) egs tx ty tz xs ys zs szs (nA o) (nA (ordL (erlB o) p (j2 + 1))) nds lfs rts far hx hy hz F.2.1 F.2.2.1 F.2.2.2.1 F.2.2.2.2)) (by rw [← w35_0]) ?_
        exact k_lv [1, 0] rfl (ih2 (j2 + 1) (by omega) (by omega))
      | succ k ihk =>
        intro q b12 hq g12
        have hqk := hq k
        refine k_iload_n C 2 dX4_orderFaces_12 rfl rfl ?_
        refine k_if_le C 52 dX4_orderFaces_13 (by decide) (fun h => absurd h (nI_nle (by omega) (by omega))) (fun _ => ?_)
        refine k_aload_n C 0 dX4_orderFaces_16 rfl rfl ?_
        refine k_iload_n C 1 dX4_orderFaces_17 rfl rfl ?_
        refine k_aload_n C 0 dX4_orderFaces_18 rfl rfl ?_
        refine k_get C hinX4 0 18 rfl rfl (by decide) lk2 rfl rfl dX4_orderFaces_19 ?_
        refine k_iload_n C 2 dX4_orderFaces_22 rfl rfl ?_
        refine k_iconst C (v := (nI 1)) dX4_orderFaces_23 (by decide) ?_
        refine k_isubN C (by omega) dX4_orderFaces_24 ?_
        refine k_topi (nI k) (by rw [Nat.add_sub_cancel]) ?_
        refine k_ialdN C (j := k) 13 0 rfl rfl (by omega) (by decide) dX4_orderFaces_25 ?_
        refine k_callVI C (ar := 2) (As := [.int (nI j2), .int (nI (q k))]) (rest := []) (c4_earlier (kxL X) (kxD X) cI cJ cF cD (by omega) (by omega) ho) gX4_orderFaces_X4_earlier rfl rfl rfl (by decide +kernel) ⟨Nat.le_of_ble_eq_true rfl, Nat.le_of_ble_eq_true rfl⟩ 0 rfl rfl rfl rfl (Nat.le_of_ble_eq_true rfl) dX4_orderFaces_26 (Nat.zero_le _) (Nat.zero_le _) (fun r w hw => ?_)
        obtain ⟨rfl, rfl⟩ := hw
        refine k_if_eqB C 52 dX4_orderFaces_29 (by decide) (fun h_2 => ?_) (fun h_2 => ?_)
        · refine k_aload_n C 0 dX4_orderFaces_52 rfl rfl ?_
          refine k_get C hinX4 0 18 rfl rfl (by decide) lk2 rfl rfl dX4_orderFaces_53 ?_
          refine k_iload_n C 2 dX4_orderFaces_56 rfl rfl ?_
          refine k_iload_n C 1 dX4_orderFaces_57 rfl rfl ?_
          refine k_iastN C (ws' := (wM ad cI cJ thr pts blt bds hld (nI F.1) egs tx ty tz xs ys zs szs (nA o) (nA (updN q (k + 1) j2)) nds lfs rts far hx hy hz F.2.1 F.2.2.1 F.2.2.2.1 F.2.2.2.2)) (j := (k + 1)) 13 0 rfl rfl (by omega) (by decide) rfl dX4_orderFaces_58 ?_
          refine k_iinc C (v := (nI (j2 + 1))) (lv' := [(1, .int (nI (j2 + 1))), (0, .ref (ad 0)), (2, .int (nI (k + 1)))]) 1 dX4_orderFaces_59 rfl (nI_1 _) (by decide) rfl ?_
          refine k_goto C 2 dX4_orderFaces_62 (by decide) ?_
          have w63_0 : (nA (updN q (k + 1) j2)) = (nA (ordL (erlB o) p (j2 + 1))) := by rw [ordL, ← g12]; first | rfl | rw [insL, if_neg (Bool.eq_false_iff.mp (by assumption))]
          refine k_ws (ws' := (wM ad cI cJ thr pts blt bds hld (nI F.1) egs tx ty tz xs ys zs szs (nA o) (nA (ordL (erlB o) p (j2 + 1))) nds lfs rts far hx hy hz F.2.1 F.2.2.1 F.2.2.2.1 F.2.2.2.2)) (by rw [← w63_0]) ?_
          exact k_lv [1, 0] rfl (ih2 (j2 + 1) (by omega) (by omega))
        · refine k_aload_n C 0 dX4_orderFaces_32 rfl rfl ?_
          refine k_get C hinX4 0 18 rfl rfl (by decide) lk2 rfl rfl dX4_orderFaces_33 ?_
          refine k_iload_n C 2 dX4_orderFaces_36 rfl rfl ?_
          refine k_aload_n C 0 dX4_orderFaces_37 rfl rfl ?_
          refine k_get C hinX4 0 18 rfl rfl (by decide) lk2 rfl rfl dX4_orderFaces_38 ?_
          refine k_iload_n C 2 dX4_orderFaces_41 rfl rfl ?_
          refine k_iconst C (v := (nI 1)) dX4_orderFaces_42 (by decide) ?_
          refine k_isubN C (by omega) dX4_orderFaces_43 ?_
          refine k_topi (nI k) (by rw [Nat.add_sub_cancel]) ?_
          refine k_ialdN C (j := k) 13 0 rfl rfl (by omega) (by decide) dX4_orderFaces_44 ?_
          refine k_iastN C (ws' := (wM ad cI cJ thr pts blt bds hld (nI F.1) egs tx ty tz xs ys zs szs (nA o) (nA (updN q (k + 1) (q k))) nds lfs rts far hx hy hz F.2.1 F.2.2.1 F.2.2.2.1 F.2.2.2.2)) (j := (k + 1)) 13 0 rfl rfl (by omega) (by decide) rfl dX4_orderFaces_45 ?_
          refine k_iinc C (v := (nI k)) (lv' := [(2, .int (nI k)), (0, .ref (ad 0)), (1, .int (nI j2))]) 2 dX4_orderFaces_46 rfl (pk_m1 _) (by decide) rfl ?_
          refine k_goto C 12 dX4_orderFaces_49 (by decide) ?_
          exact k_lv [1, 2, 0] rfl (ihk _ (by omega) (updN_lt hq hqk) (by rw [← g12, insL, if_pos (by assumption)]))
set_option maxHeartbeats 4000000 in
set_option maxRecDepth 100000 in
theorem c4_faceFrom (l : Launch) (D : va_G) (cI cJ cF cD : ClassId) {ad : Nat → Nat} {thr pts blt bds hld egs : Int32} {tx ty tz : Int64} {xs ys zs nds lfs rts far : Nat → Int32} {hx hy hz9 : Nat → Int64} {F : FT} {a b : Nat} {o z p : Nat → Nat} (hF : F.1 ≤ 64) (ha : a < 24) (hb : b < 24) (ho : ∀ i, o i < 24) (hz : ∀ i, z i ≤ 24) (hp : ∀ i, p i < 64) : CtI l D (tyG cI cJ cF cD) yX4_faceFrom wsX4_faceFrom ({ frames := 0, cells := 0, slots := 0, locals := 0 }) [.ref (ad 0), .int (nI a), .int (nI b)] (wM ad cI cJ thr pts blt bds hld (nI F.1) egs tx ty tz xs ys zs (nA z) (nA o) (nA p) nds lfs rts far hx hy hz9 F.2.1 F.2.2.1 F.2.2.2.1 F.2.2.2.2) (fun r w => r = (frI o z p F.1 a b) ∧ w = (wM ad cI cJ thr pts blt bds hld (nI F.1) egs tx ty tz xs ys zs (nA z) (nA o) (nA p) nds lfs rts far hx hy hz9 F.2.1 F.2.2.1 F.2.2.2.1 F.2.2.2.2)) := by
  refine ctI_of (cc := cX4_faceFrom) (maxL := 8) (by decide) rfl (Nat.le_of_ble_eq_true rfl) ?_
  intro X hXl hXd C hret
  have lk0 : Cond.fieldLink RX4 91 "HullBuilderModel" "faces" "I" ∈ wsX4_faceFrom := by decide +kernel
  have hinX4 : ∀ w ∈ wsX40, w ∈ wsX4_faceFrom := by decide +kernel
  have lk2 : Cond.fieldLink RX4 47 "HullBuilderModel" "order" "[I" ∈ wsX4_faceFrom := by decide +kernel
  have lk3 : Cond.fieldLink RX4 41 "HullBuilderModel" "sizes" "[I" ∈ wsX4_faceFrom := by decide +kernel
  have lk4 : Cond.fieldLink RX4 44 "HullBuilderModel" "corners" "[I" ∈ wsX4_faceFrom := by decide +kernel
  show Kw X 0 0 (wM ad cI cJ thr pts blt bds hld (nI F.1) egs tx ty tz xs ys zs (nA z) (nA o) (nA p) nds lfs rts far hx hy hz9 F.2.1 F.2.2.1 F.2.2.2.1 F.2.2.2.2) 0 [(0, .ref (ad 0)), (1, .int (nI a)), (2, .int (nI b))] []
  refine k_iconst C (v := (-1)) dX4_faceFrom_0 (by decide) ?_
  refine k_istore_n C (lv' := [(3, .int (-1)), (0, .ref (ad 0)), (1, .int (nI a)), (2, .int (nI b))]) dX4_faceFrom_1 rfl (by decide) rfl ?_
  refine k_iconst C (v := (nI 0)) dX4_faceFrom_2 (by decide) ?_
  refine k_istore C (lv' := [(4, .int (nI 0)), (3, .int (-1)), (0, .ref (ad 0)), (1, .int (nI a)), (2, .int (nI b))]) dX4_faceFrom_3 (by decide) rfl ?_
  suffices L5 : ∀ (n5 j5 : Nat), j5 ≤ F.1 → F.1 + 1 ≤ j5 + n5 → Kw X 0 0 (wM ad cI cJ thr pts blt bds hld (nI F.1) egs tx ty tz xs ys zs (nA z) (nA o) (nA p) nds lfs rts far hx hy hz9 F.2.1 F.2.2.1 F.2.2.2.1 F.2.2.2.2) 5 [(0, .ref (ad 0)), (1, .int (nI a)), (2, .int (nI b)), (3, .int (lstI (fun k => anyB (z (p k)) (dartB o z (p k) a b)) j5)), (4, .int (nI j5))] [] by
    have e5_0 : (-1) = (lstI (fun k => anyB (z (p k)) (dartB o z (p k) a b)) 0) := rfl
    exact k_lv [2, 3, 4, 1, 0] (by rw [← e5_0]; rfl) (L5 (F.1 + 1) 0 (by omega) (by omega))
  intro n5
  induction n5 with
  | zero => intro j5 a1 a2; exact absurd a2 (by omega)
  | succ n5 ih5 =>
    intro j5 b5 c5
    refine k_iload C 4 dX4_faceFrom_5 rfl ?_
    refine k_aload_n C 0 dX4_faceFrom_7 rfl rfl ?_
    refine k_get C hinX4 0 11 rfl rfl (by decide) lk0 rfl rfl dX4_faceFrom_8 ?_
    refine k_icmp_geN C (by omega) (by omega) 113 dX4_faceFrom_11 (by decide) (fun h_1 => ?_) (fun h_1 => ?_)
    · refine k_iload_n C 3 dX4_faceFrom_113 rfl rfl ?_
      exact hret _ _ _ _ ⟨by rw [show j5 = F.1 by omega]; rfl, rfl⟩ dX4_faceFrom_114
    · have hpk := hp j5
      have hzk := hz (p j5)
      refine k_aload_n C 0 dX4_faceFrom_14 rfl rfl ?_
      refine k_get C hinX4 0 18 rfl rfl (by decide) lk2 rfl rfl dX4_faceFrom_15 ?_
      refine k_iload C 4 dX4_faceFrom_18 rfl ?_
      refine k_ialdN C (j := j5) 13 0 rfl rfl (by omega) (by decide) dX4_faceFrom_20 ?_
      refine k_istore C (lv' := [(5, .int (nI (p j5))), (0, .ref (ad 0)), (1, .int (nI a)), (2, .int (nI b)), (3, .int (lstI (fun k => anyB (z (p k)) (dartB o z (p k) a b)) j5)), (4, .int (nI j5))]) dX4_faceFrom_21 (by decide) rfl ?_
      refine k_iconst C (v := (nI 0)) dX4_faceFrom_23 (by decide) ?_
      refine k_istore C (lv' := [(6, .int (nI 0)), (5, .int (nI (p j5))), (0, .ref (ad 0)), (1, .int (nI a)), (2, .int (nI b)), (3, .int (lstI (fun k => anyB (z (p k)) (dartB o z (p k) a b)) j5)), (4, .int (nI j5))]) dX4_faceFrom_24 (by decide) rfl ?_
      suffices L26 : ∀ (n26 j26 : Nat), j26 ≤ z (p j5) → z (p j5) + 1 ≤ j26 + n26 → Kw X 0 0 (wM ad cI cJ thr pts blt bds hld (nI F.1) egs tx ty tz xs ys zs (nA z) (nA o) (nA p) nds lfs rts far hx hy hz9 F.2.1 F.2.2.1 F.2.2.2.1 F.2.2.2.2) 26 [(0, .ref (ad 0)), (1, .int (nI a)), (2, .int (nI b)), (3, .int (if anyB j26 (dartB o z (p j5) a b) = true then nI j5 else lstI (fun k => anyB (z (p k)) (dartB o z (p k) a b)) j5)), (4, .int (nI j5)), (5, .int (nI (p j5))), (6, .int (nI j26))] [] by
        have e29_0 : (lstI (fun k => anyB (z (p k)) (dartB o z (p k) a b)) j5) = (if anyB 0 (dartB o z (p j5) a b) = true then nI j5 else lstI (fun k => anyB (z (p k)) (dartB o z (p k) a b)) j5) := by simp [anyB]
        exact k_lv [2, 3, 4, 5, 6, 1, 0] (by rw [← e29_0]; rfl) (L26 (z (p j5) + 1) 0 (by omega) (by omega))
      intro n26
      induction n26 with
      | zero => intro j26 a1 a2; exact absurd a2 (by omega)
      | succ n26 ih26 =>
        intro j26 b26 c26
        refine k_iload C 6 dX4_faceFrom_26 rfl ?_
        refine k_aload_n C 0 dX4_faceFrom_28 rfl rfl ?_
        refine k_get C hinX4 0 16 rfl rfl (by decide) lk3 rfl rfl dX4_faceFrom_29 ?_
        refine k_iload C 5 dX4_faceFrom_32 rfl ?_
        refine k_ialdN C (j := (p j5)) 11 0 rfl rfl (by omega) (by decide) dX4_faceFrom_34 ?_
        refine k_icmp_geN C (by omega) (by omega) 107 dX4_faceFrom_35 (by decide) (fun h_2 => ?_) (fun h_2 => ?_)
        · refine k_iinc C (v := (nI (j5 + 1))) (lv' := [(4, .int (nI (j5 + 1))), (0, .ref (ad 0)), (1, .int (nI a)), (2, .int (nI b)), (3, .int (if anyB j26 (dartB o z (p j5) a b) = true then nI j5 else lstI (fun k => anyB (z (p k)) (dartB o z (p k) a b)) j5)), (5, .int (nI (p j5))), (6, .int (nI j26))]) 4 dX4_faceFrom_107 rfl (nI_1 _) (by decide) rfl ?_
          refine k_goto C 5 dX4_faceFrom_110 (by decide) ?_
          have e45_0 : (if anyB j26 (dartB o z (p j5) a b) = true then nI j5 else lstI (fun k => anyB (z (p k)) (dartB o z (p k) a b)) j5) = (lstI (fun k => anyB (z (p k)) (dartB o z (p k) a b)) (j5 + 1)) := by rw [lstI, show z (p j5) = j26 by omega]
          exact k_lv [1, 2, 3, 4, 0] (by rw [← e45_0]; rfl) (ih5 (j5 + 1) (by omega) (by omega))
        · have hmd := Nat.mod_lt (j26 + 1) (show 0 < z (p j5) by omega)
          have ho1 := ho (24 * (p j5) + j26)
          have ho2 := ho (24 * (p j5) + (j26 + 1) % z (p j5))
          refine k_aload_n C 0 dX4_faceFrom_38 rfl rfl ?_
          refine k_get C hinX4 0 17 rfl rfl (by decide) lk4 rfl rfl dX4_faceFrom_39 ?_
          refine k_bipush C (v := (nI 24)) dX4_faceFrom_42 (by decide) ?_
          refine k_iload C 5 dX4_faceFrom_44 rfl ?_
          refine k_imulN C dX4_faceFrom_46 ?_
          refine k_iload C 6 dX4_faceFrom_47 rfl ?_
          refine k_iaddN C dX4_faceFrom_49 ?_
          refine k_ialdN C (j := ((24 * (p j5)) + j26)) 12 0 rfl rfl (by omega) (by decide) dX4_faceFrom_50 ?_
          refine k_iload_n C 1 dX4_faceFrom_51 rfl rfl ?_
          refine k_icmp_neN C (by omega) (by omega) 86 dX4_faceFrom_52 (by decide) (fun h_3 => ?_) (fun h_3 => ?_)
          · refine k_iconst C (v := (nI 0)) dX4_faceFrom_86 (by decide) ?_
            refine k_istore C (lv' := [(7, .int (nI 0)), (0, .ref (ad 0)), (1, .int (nI a)), (2, .int (nI b)), (3, .int (if anyB j26 (dartB o z (p j5) a b) = true then nI j5 else lstI (fun k => anyB (z (p k)) (dartB o z (p k) a b)) j5)), (4, .int (nI j5)), (5, .int (nI (p j5))), (6, .int (nI j26))]) dX4_faceFrom_87 (by decide) rfl ?_
            refine k_iload C 0 dX4_faceFrom_89 rfl ?_
            refine k_if_eqN C (by omega) 99 dX4_faceFrom_91 (by decide) (fun h_4 => ?_) (fun h_4 => absurd h_4 (by decide))
            refine k_iload_n C 4 dX4_faceFrom_99 rfl rfl ?_
            refine k_istore_n C (lv' := [(3, .int (if anyB j26 (dartB o z (p j5) a b) = true then nI j5 else lstI (fun k => anyB (z (p k)) (dartB o z (p k) a b)) j5)), (7, .int (nI 0)), (0, .ref (ad 0)), (1, .int (nI a)), (2, .int (nI b)), (4, .int (nI j5)), (5, .int (nI (p j5))), (6, .int (nI j26))]) dX4_faceFrom_100 rfl (by decide) rfl ?_
            refine k_iinc C (v := (nI (j26 + 1))) (lv' := [(6, .int (nI (j26 + 1))), (3, .int (if anyB j26 (dartB o z (p j5) a b) = true then nI j5 else lstI (fun k => anyB (z (p k)) (dartB o z (p k) a b)) j5)), (7, .int (nI 0)), (0, .ref (ad 0)), (1, .int (nI a)), (2, .int (nI b)), (4, .int (nI j5)), (5, .int (nI (p j5)))]) 7 dX4_faceFrom_101 rfl (nI_1 _) (by decide) rfl ?_
            refine k_goto C 26 dX4_faceFrom_104 (by decide) ?_
            have e69_0 : (if anyB j26 (dartB o z (p j5) a b) = true then nI j5 else lstI (fun k => anyB (z (p k)) (dartB o z (p k) a b)) j5) = (if anyB (j26 + 1) (dartB o z (p j5) a b) = true then nI j5 else lstI (fun k => anyB (z (p k)) (dartB o z (p k) a b)) j5) := by simp [anyB, dartB, h_2, h_3]
            exact k_lv [3, 4, 5, 1, 6, 7, 0] (by rw [← e69_0]; rfl) (ih26 (j26 + 1) (by omega) (by omega))
          · refine k_aload_n C 0 dX4_faceFrom_55 rfl rfl ?_
            refine k_get C hinX4 0 17 rfl rfl (by decide) lk4 rfl rfl dX4_faceFrom_56 ?_
            refine k_bipush C (v := (nI 24)) dX4_faceFrom_59 (by decide) ?_
            refine k_iload C 5 dX4_faceFrom_61 rfl ?_
            refine k_imulN C dX4_faceFrom_63 ?_
            refine k_iload C 6 dX4_faceFrom_64 rfl ?_
            refine k_iconst C (v := (nI 1)) dX4_faceFrom_66 (by decide) ?_
            refine k_iaddN C dX4_faceFrom_67 ?_
            refine k_aload_n C 0 dX4_faceFrom_68 rfl rfl ?_
            refine k_get C hinX4 0 16 rfl rfl (by decide) lk3 rfl rfl dX4_faceFrom_69 ?_
            refine k_iload C 5 dX4_faceFrom_72 rfl ?_
            refine k_ialdN C (j := (p j5)) 11 0 rfl rfl (by omega) (by decide) dX4_faceFrom_74 ?_
            refine k_iremN C (by omega) (by omega) (by omega) dX4_faceFrom_75 ?_
            refine k_iaddN C dX4_faceFrom_76 ?_
            refine k_ialdN C (j := ((24 * (p j5)) + ((j26 + 1) % (z (p j5))))) 12 0 rfl rfl (by omega) (by decide) dX4_faceFrom_77 ?_
            refine k_iload_n C 2 dX4_faceFrom_78 rfl rfl ?_
            refine k_icmp_neN C (by omega) (by omega) 86 dX4_faceFrom_79 (by decide) (fun h_5 => ?_) (fun h_5 => ?_)
            · refine k_iconst C (v := (nI 0)) dX4_faceFrom_86 (by decide) ?_
              refine k_istore C (lv' := [(7, .int (nI 0)), (0, .ref (ad 0)), (1, .int (nI a)), (2, .int (nI b)), (3, .int (if anyB j26 (dartB o z (p j5) a b) = true then nI j5 else lstI (fun k => anyB (z (p k)) (dartB o z (p k) a b)) j5)), (4, .int (nI j5)), (5, .int (nI (p j5))), (6, .int (nI j26))]) dX4_faceFrom_87 (by decide) rfl ?_
              refine k_iload C 0 dX4_faceFrom_89 rfl ?_
              refine k_if_eqN C (by omega) 99 dX4_faceFrom_91 (by decide) (fun h_6 => ?_) (fun h_6 => absurd h_6 (by decide))
              refine k_iload_n C 4 dX4_faceFrom_99 rfl rfl ?_
              refine k_istore_n C (lv' := [(3, .int (if anyB j26 (dartB o z (p j5) a b) = true then nI j5 else lstI (fun k => anyB (z (p k)) (dartB o z (p k) a b)) j5)), (7, .int (nI 0)), (0, .ref (ad 0)), (1, .int (nI a)), (2, .int (nI b)), (4, .int (nI j5)), (5, .int (nI (p j5))), (6, .int (nI j26))]) dX4_faceFrom_100 rfl (by decide) rfl ?_
              refine k_iinc C (v := (nI (j26 + 1))) (lv' := [(6, .int (nI (j26 + 1))), (3, .int (if anyB j26 (dartB o z (p j5) a b) = true then nI j5 else lstI (fun k => anyB (z (p k)) (dartB o z (p k) a b)) j5)), (7, .int (nI 0)), (0, .ref (ad 0)), (1, .int (nI a)), (2, .int (nI b)), (4, .int (nI j5)), (5, .int (nI (p j5)))]) 7 dX4_faceFrom_101 rfl (nI_1 _) (by decide) rfl ?_
              refine k_goto C 26 dX4_faceFrom_104 (by decide) ?_
              have e97_0 : (if anyB j26 (dartB o z (p j5) a b) = true then nI j5 else lstI (fun k => anyB (z (p k)) (dartB o z (p k) a b)) j5) = (if anyB (j26 + 1) (dartB o z (p j5) a b) = true then nI j5 else lstI (fun k => anyB (z (p k)) (dartB o z (p k) a b)) j5) := by simp [anyB, dartB, h_2, h_3, h_5]
              exact k_lv [3, 4, 5, 1, 6, 7, 0] (by rw [← e97_0]; rfl) (ih26 (j26 + 1) (by omega) (by omega))
            · refine k_iconst C (v := (nI 1)) dX4_faceFrom_82 (by decide) ?_
              refine k_goto C 87 dX4_faceFrom_83 (by decide) ?_
              refine k_istore C (lv' := [(7, .int (nI 1)), (0, .ref (ad 0)), (1, .int (nI a)), (2, .int (nI b)), (3, .int (if anyB j26 (dartB o z (p j5) a b) = true then nI j5 else lstI (fun k => anyB (z (p k)) (dartB o z (p k) a b)) j5)), (4, .int (nI j5)), (5, .int (nI (p j5))), (6, .int (nI j26))]) dX4_faceFrom_87 (by decide) rfl ?_
              refine k_iload C 0 dX4_faceFrom_89 rfl ?_
              refine k_if_eqN C (by omega) 99 dX4_faceFrom_91 (by decide) (fun h_7 => absurd h_7 (by decide)) (fun h_7 => ?_)
              refine k_iload C 5 dX4_faceFrom_94 rfl ?_
              refine k_goto C 100 dX4_faceFrom_96 (by decide) ?_
              refine k_istore_n C (lv' := [(3, .int (nI j5)), (7, .int (nI 1)), (0, .ref (ad 0)), (1, .int (nI a)), (2, .int (nI b)), (4, .int (nI j5)), (5, .int (nI (p j5))), (6, .int (nI j26))]) dX4_faceFrom_100 rfl (by decide) rfl ?_
              refine k_iinc C (v := (nI (j26 + 1))) (lv' := [(6, .int (nI (j26 + 1))), (3, .int (nI j5)), (7, .int (nI 1)), (0, .ref (ad 0)), (1, .int (nI a)), (2, .int (nI b)), (4, .int (nI j5)), (5, .int (nI (p j5)))]) 7 dX4_faceFrom_101 rfl (nI_1 _) (by decide) rfl ?_
              refine k_goto C 26 dX4_faceFrom_104 (by decide) ?_
              have e109_0 : (nI j5) = (if anyB (j26 + 1) (dartB o z (p j5) a b) = true then nI j5 else lstI (fun k => anyB (z (p k)) (dartB o z (p k) a b)) j5) := by simp [anyB, dartB, h_2, h_3, h_5]
              exact k_lv [3, 4, 5, 1, 6, 7, 0] (by rw [← e109_0]; rfl) (ih26 (j26 + 1) (by omega) (by omega))
set_option maxHeartbeats 4000000 in
set_option maxRecDepth 100000 in
theorem c4_findEdges (l : Launch) (D : va_G) (cI cJ cF cD : ClassId) {ad : Nat → Nat} {thr pts blt bds egs : Int32} {tx ty tz : Int64} {xs ys zs lfs rts far : Nat → Int32} {hx hy hz9 : Nat → Int64} {F : FT} {nh : Nat} {o z p e9 : Nat → Nat} (hh : nh ≤ 24) (hF : F.1 ≤ 64) (ho : ∀ i, o i < 24) (hz : ∀ i, z i ≤ 24) (hp : ∀ i, p i < 64) (hE : ∀ a k, a < nh → k < nh - (a + 1) → (rowE (frI o z p F.1) a (edgE (frI o z p F.1) nh (0, e9, lfs, rts) a) k).1 < 128) : CtV l D (tyG cI cJ cF cD) yX4_findEdges wsX4_findEdges ({ frames := 1, cells := 0, slots := 0, locals := 27 }) [.ref (ad 0)] (wM ad cI cJ thr pts blt bds (nI nh) (nI F.1) egs tx ty tz xs ys zs (nA z) (nA o) (nA p) (nA e9) lfs rts far hx hy hz9 F.2.1 F.2.2.1 F.2.2.2.1 F.2.2.2.2) (fun w => w = (wM ad cI cJ thr pts blt bds (nI nh) (nI F.1) (nI ((edgE (frI o z p F.1) nh (0, e9, lfs, rts) nh).1)) tx ty tz xs ys zs (nA z) (nA o) (nA p) (nA (edgE (frI o z p F.1) nh (0, e9, lfs, rts) nh).2.1) ((edgE (frI o z p F.1) nh (0, e9, lfs, rts) nh).2.2.1) ((edgE (frI o z p F.1) nh (0, e9, lfs, rts) nh).2.2.2) far hx hy hz9 F.2.1 F.2.2.1 F.2.2.2.1 F.2.2.2.2)) := by
  refine ctV_of (cc := cX4_findEdges) (maxL := 4) (by decide) rfl (Nat.le_of_ble_eq_true rfl) ?_
  intro X hXl hXd C hret
  have lk0 : Cond.fieldLink RX4 132 "HullBuilderModel" "edges" "I" ∈ wsX4_findEdges := by decide +kernel
  have hinX4 : ∀ w ∈ wsX40, w ∈ wsX4_findEdges := by decide +kernel
  have lk2 : Cond.fieldLink RX4 98 "HullBuilderModel" "held" "I" ∈ wsX4_findEdges := by decide +kernel
  have lk3 : Cond.fieldLink RX4 50 "HullBuilderModel" "ends" "[I" ∈ wsX4_findEdges := by decide +kernel
  have lk4 : Cond.fieldLink RX4 53 "HullBuilderModel" "lefts" "[I" ∈ wsX4_findEdges := by decide +kernel
  have lk5 : Cond.fieldLink RX4 56 "HullBuilderModel" "rights" "[I" ∈ wsX4_findEdges := by decide +kernel
  show Kw X 0 0 (wM ad cI cJ thr pts blt bds (nI nh) (nI F.1) egs tx ty tz xs ys zs (nA z) (nA o) (nA p) (nA e9) lfs rts far hx hy hz9 F.2.1 F.2.2.1 F.2.2.2.1 F.2.2.2.2) 0 [(0, .ref (ad 0))] []
  refine k_aload_n C 0 dX4_findEdges_0 rfl rfl ?_
  refine k_iconst C (v := (nI 0)) dX4_findEdges_1 (by decide) ?_
  refine k_put C (ws' := (wM ad cI cJ thr pts blt bds (nI nh) (nI F.1) (nI 0) tx ty tz xs ys zs (nA z) (nA o) (nA p) (nA e9) lfs rts far hx hy hz9 F.2.1 F.2.2.1 F.2.2.2.1 F.2.2.2.2)) hinX4 tyX4 tyX4_ok nmX4 0 19 rfl rfl (by decide) lk0 rfl rfl rfl rfl (Nat.le_of_ble_eq_true rfl) rfl dX4_findEdges_2 ?_
  refine k_iconst C (v := (nI 0)) dX4_findEdges_5 (by decide) ?_
  refine k_istore_n C (lv' := [(1, .int (nI 0)), (0, .ref (ad 0))]) dX4_findEdges_6 rfl (by decide) rfl ?_
  suffices L7 : ∀ (n7 j7 : Nat), j7 ≤ nh → nh + 1 ≤ j7 + n7 → Kw X 0 0 (wM ad cI cJ thr pts blt bds (nI nh) (nI F.1) (nI ((edgE (frI o z p F.1) nh (0, e9, lfs, rts) j7).1)) tx ty tz xs ys zs (nA z) (nA o) (nA p) (nA (edgE (frI o z p F.1) nh (0, e9, lfs, rts) j7).2.1) ((edgE (frI o z p F.1) nh (0, e9, lfs, rts) j7).2.2.1) ((edgE (frI o z p F.1) nh (0, e9, lfs, rts) j7).2.2.2) far hx hy hz9 F.2.1 F.2.2.1 F.2.2.2.1 F.2.2.2.2) 7 [(0, .ref (ad 0)), (1, .int (nI j7))] [] by
    have w6_0 : (nI 0) = (nI ((edgE (frI o z p F.1) nh (0, e9, lfs, rts) 0).1)) := rfl
    have w7_1 : (nA e9) = (nA (edgE (frI o z p F.1) nh (0, e9, lfs, rts) 0).2.1) := rfl
    have w8_2 : lfs = ((edgE (frI o z p F.1) nh (0, e9, lfs, rts) 0).2.2.1) := rfl
    have w9_3 : rts = ((edgE (frI o z p F.1) nh (0, e9, lfs, rts) 0).2.2.2) := rfl
    refine k_ws (ws' := (wM ad cI cJ thr pts blt bds (nI nh) (nI F.1) (nI ((edgE (frI o z p F.1) nh (0, e9, lfs, rts) 0).1)) tx ty tz xs ys zs (nA z) (nA o) (nA p) (nA (edgE (frI o z p F.1) nh (0, e9, lfs, rts) 0).2.1) ((edgE (frI o z p F.1) nh (0, e9, lfs, rts) 0).2.2.1) ((edgE (frI o z p F.1) nh (0, e9, lfs, rts) 0).2.2.2) far hx hy hz9 F.2.1 F.2.2.1 F.2.2.2.1 F.2.2.2.2)) (by rw [← w6_0, ← w7_1, ← w8_2, ← w9_3]) ?_
    exact k_lv [1, 0] rfl (L7 (nh + 1) 0 (by omega) (by omega))
  intro n7
  induction n7 with
  | zero => intro j7 a1 a2; exact absurd a2 (by omega)
  | succ n7 ih7 =>
    intro j7 b7 c7
    refine k_iload_n C 1 dX4_findEdges_7 rfl rfl ?_
    refine k_aload_n C 0 dX4_findEdges_8 rfl rfl ?_
    refine k_get C hinX4 0 7 rfl rfl (by decide) lk2 rfl rfl dX4_findEdges_9 ?_
    refine k_icmp_geN C (by omega) (by omega) 100 dX4_findEdges_12 (by decide) (fun h_1 => ?_) (fun h_1 => ?_)
    · exact hret _ _ _ (by rw [show j7 = nh by omega]) dX4_findEdges_100
    · refine k_iload_n C 1 dX4_findEdges_15 rfl rfl ?_
      refine k_iconst C (v := (nI 1)) dX4_findEdges_16 (by decide) ?_
      refine k_iaddN C dX4_findEdges_17 ?_
      refine k_istore_n C (lv' := [(2, .int (nI (j7 + 1))), (0, .ref (ad 0)), (1, .int (nI j7))]) dX4_findEdges_18 rfl (by decide) rfl ?_
      suffices L19 : ∀ (n19 j19 : Nat), j19 ≤ nh → nh + 1 ≤ j19 + n19 → j7 + 1 ≤ j19 → Kw X 0 0 (wM ad cI cJ thr pts blt bds (nI nh) (nI F.1) (nI ((rowE (frI o z p F.1) j7 (edgE (frI o z p F.1) nh (0, e9, lfs, rts) j7) (j19 - (j7 + 1))).1)) tx ty tz xs ys zs (nA z) (nA o) (nA p) (nA (rowE (frI o z p F.1) j7 (edgE (frI o z p F.1) nh (0, e9, lfs, rts) j7) (j19 - (j7 + 1))).2.1) ((rowE (frI o z p F.1) j7 (edgE (frI o z p F.1) nh (0, e9, lfs, rts) j7) (j19 - (j7 + 1))).2.2.1) ((rowE (frI o z p F.1) j7 (edgE (frI o z p F.1) nh (0, e9, lfs, rts) j7) (j19 - (j7 + 1))).2.2.2) far hx hy hz9 F.2.1 F.2.2.1 F.2.2.2.1 F.2.2.2.2) 19 [(0, .ref (ad 0)), (1, .int (nI j7)), (2, .int (nI j19))] [] by
        have w28_0 : (nI ((edgE (frI o z p F.1) nh (0, e9, lfs, rts) j7).1)) = (nI ((rowE (frI o z p F.1) j7 (edgE (frI o z p F.1) nh (0, e9, lfs, rts) j7) ((j7 + 1) - (j7 + 1))).1)) := by rw [Nat.sub_self]; rfl
        have w29_1 : (nA (edgE (frI o z p F.1) nh (0, e9, lfs, rts) j7).2.1) = (nA (rowE (frI o z p F.1) j7 (edgE (frI o z p F.1) nh (0, e9, lfs, rts) j7) ((j7 + 1) - (j7 + 1))).2.1) := by rw [Nat.sub_self]; rfl
        have w30_2 : ((edgE (frI o z p F.1) nh (0, e9, lfs, rts) j7).2.2.1) = ((rowE (frI o z p F.1) j7 (edgE (frI o z p F.1) nh (0, e9, lfs, rts) j7) ((j7 + 1) - (j7 + 1))).2.2.1) := by rw [Nat.sub_self]; rfl
        have w31_3 : ((edgE (frI o z p F.1) nh (0, e9, lfs, rts) j7).2.2.2) = ((rowE (frI o z p F.1) j7 (edgE (frI o z p F.1) nh (0, e9, lfs, rts) j7) ((j7 + 1) - (j7 + 1))).2.2.2) := by rw [Nat.sub_self]; rfl
        refine k_ws (ws' := (wM ad cI cJ thr pts blt bds (nI nh) (nI F.1) (nI ((rowE (frI o z p F.1) j7 (edgE (frI o z p F.1) nh (0, e9, lfs, rts) j7) ((j7 + 1) - (j7 + 1))).1)) tx ty tz xs ys zs (nA z) (nA o) (nA p) (nA (rowE (frI o z p F.1) j7 (edgE (frI o z p F.1) nh (0, e9, lfs, rts) j7) ((j7 + 1) - (j7 + 1))).2.1) ((rowE (frI o z p F.1) j7 (edgE (frI o z p F.1) nh (0, e9, lfs, rts) j7) ((j7 + 1) - (j7 + 1))).2.2.1) ((rowE (frI o z p F.1) j7 (edgE (frI o z p F.1) nh (0, e9, lfs, rts) j7) ((j7 + 1) - (j7 + 1))).2.2.2) far hx hy hz9 F.2.1 F.2.2.1 F.2.2.2.1 F.2.2.2.2)) (by rw [← w28_0, ← w29_1, ← w30_2, ← w31_3]) ?_
        exact k_lv [1, 2, 0] rfl (L19 (nh + 1) (j7 + 1) (by omega) (by omega) (Nat.le_refl _))
      intro n19
      induction n19 with
      | zero => intro j19 a1 a2; exact absurd a2 (by omega)
      | succ n19 ih19 =>
        intro j19 b19 c19 g19_0
        refine k_iload_n C 2 dX4_findEdges_19 rfl rfl ?_
        refine k_aload_n C 0 dX4_findEdges_20 rfl rfl ?_
        refine k_get C hinX4 0 7 rfl rfl (by decide) lk2 rfl rfl dX4_findEdges_21 ?_
        refine k_icmp_geN C (by omega) (by omega) 94 dX4_findEdges_24 (by decide) (fun h_2 => ?_) (fun h_2 => ?_)
        · refine k_iinc C (v := (nI (j7 + 1))) (lv' := [(1, .int (nI (j7 + 1))), (0, .ref (ad 0)), (2, .int (nI j19))]) 1 dX4_findEdges_94 rfl (nI_1 _) (by decide) rfl ?_
          refine k_goto C 7 dX4_findEdges_97 (by decide) ?_
          have w46_0 : (nI ((rowE (frI o z p F.1) j7 (edgE (frI o z p F.1) nh (0, e9, lfs, rts) j7) (j19 - (j7 + 1))).1)) = (nI ((edgE (frI o z p F.1) nh (0, e9, lfs, rts) (j7 + 1)).1)) := by rw [edgE, show nh - (j7 + 1) = j19 - (j7 + 1) by omega]
          have w47_1 : (nA (rowE (frI o z p F.1) j7 (edgE (frI o z p F.1) nh (0, e9, lfs, rts) j7) (j19 - (j7 + 1))).2.1) = (nA (edgE (frI o z p F.1) nh (0, e9, lfs, rts) (j7 + 1)).2.1) := by rw [edgE, show nh - (j7 + 1) = j19 - (j7 + 1) by omega]
          have w48_2 : ((rowE (frI o z p F.1) j7 (edgE (frI o z p F.1) nh (0, e9, lfs, rts) j7) (j19 - (j7 + 1))).2.2.1) = ((edgE (frI o z p F.1) nh (0, e9, lfs, rts) (j7 + 1)).2.2.1) := by rw [edgE, show nh - (j7 + 1) = j19 - (j7 + 1) by omega]
          have w49_3 : ((rowE (frI o z p F.1) j7 (edgE (frI o z p F.1) nh (0, e9, lfs, rts) j7) (j19 - (j7 + 1))).2.2.2) = ((edgE (frI o z p F.1) nh (0, e9, lfs, rts) (j7 + 1)).2.2.2) := by rw [edgE, show nh - (j7 + 1) = j19 - (j7 + 1) by omega]
          refine k_ws (ws' := (wM ad cI cJ thr pts blt bds (nI nh) (nI F.1) (nI ((edgE (frI o z p F.1) nh (0, e9, lfs, rts) (j7 + 1)).1)) tx ty tz xs ys zs (nA z) (nA o) (nA p) (nA (edgE (frI o z p F.1) nh (0, e9, lfs, rts) (j7 + 1)).2.1) ((edgE (frI o z p F.1) nh (0, e9, lfs, rts) (j7 + 1)).2.2.1) ((edgE (frI o z p F.1) nh (0, e9, lfs, rts) (j7 + 1)).2.2.2) far hx hy hz9 F.2.1 F.2.2.1 F.2.2.2.1 F.2.2.2.2)) (by rw [← w46_0, ← w47_1, ← w48_2, ← w49_3]) ?_
          exact k_lv [1, 0] rfl (ih7 (j7 + 1) (by omega) (by omega))
        · refine k_aload_n C 0 dX4_findEdges_27 rfl rfl ?_
          refine k_iload_n C 1 dX4_findEdges_28 rfl rfl ?_
          refine k_iload_n C 2 dX4_findEdges_29 rfl rfl ?_
          refine k_callVI C (ar := 2) (As := [.int (nI j7), .int (nI j19)]) (rest := []) (c4_faceFrom (kxL X) (kxD X) cI cJ cF cD (by omega) (by omega) (by omega) ho hz hp) gX4_findEdges_X4_faceFrom rfl rfl rfl (by decide +kernel) ⟨Nat.le_of_ble_eq_true rfl, Nat.le_of_ble_eq_true rfl⟩ 0 rfl rfl rfl rfl (Nat.le_of_ble_eq_true rfl) dX4_findEdges_30 (Nat.zero_le _) (Nat.zero_le _) (fun r w hw => ?_)
          obtain ⟨rfl, rfl⟩ := hw
          refine k_istore_n C (lv' := [(3, .int (frI o z p F.1 j7 j19)), (0, .ref (ad 0)), (1, .int (nI j7)), (2, .int (nI j19))]) dX4_findEdges_33 rfl (by decide) rfl ?_
          refine k_iload_n C 0 dX4_findEdges_34 rfl rfl ?_
          refine k_if_lt C 88 dX4_findEdges_35 (by decide) (fun h_3 => ?_) (fun h_3 => ?_)
          · refine k_iinc C (v := (nI (j19 + 1))) (lv' := [(2, .int (nI (j19 + 1))), (3, .int (frI o z p F.1 j7 j19)), (0, .ref (ad 0)), (1, .int (nI j7))]) 3 dX4_findEdges_88 rfl (nI_1 _) (by decide) rfl ?_
            refine k_goto C 19 dX4_findEdges_91 (by decide) ?_
            have w63_0 : (nI ((rowE (frI o z p F.1) j7 (edgE (frI o z p F.1) nh (0, e9, lfs, rts) j7) (j19 - (j7 + 1))).1)) = (nI ((rowE (frI o z p F.1) j7 (edgE (frI o z p F.1) nh (0, e9, lfs, rts) j7) ((j19 + 1) - (j7 + 1))).1)) := by rw [show j19 + 1 - (j7 + 1) = (j19 - (j7 + 1)) + 1 by omega, rowE, adE, show j7 + 1 + (j19 - (j7 + 1)) = j19 by omega]; first | rw [if_pos (by assumption)] | rw [if_neg (by assumption)]
            have w64_1 : (nA (rowE (frI o z p F.1) j7 (edgE (frI o z p F.1) nh (0, e9, lfs, rts) j7) (j19 - (j7 + 1))).2.1) = (nA (rowE (frI o z p F.1) j7 (edgE (frI o z p F.1) nh (0, e9, lfs, rts) j7) ((j19 + 1) - (j7 + 1))).2.1) := by rw [show j19 + 1 - (j7 + 1) = (j19 - (j7 + 1)) + 1 by omega, rowE, adE, show j7 + 1 + (j19 - (j7 + 1)) = j19 by omega]; first | rw [if_pos (by assumption)] | rw [if_neg (by assumption)]
            have w65_2 : ((rowE (frI o z p F.1) j7 (edgE (frI o z p F.1) nh (0, e9, lfs, rts) j7) (j19 - (j7 + 1))).2.2.1) = ((rowE (frI o z p F.1) j7 (edgE (frI o z p F.1) nh (0, e9, lfs, rts) j7) ((j19 + 1) - (j7 + 1))).2.2.1) := by rw [show j19 + 1 - (j7 + 1) = (j19 - (j7 + 1)) + 1 by omega, rowE, adE, show j7 + 1 + (j19 - (j7 + 1)) = j19 by omega]; first | rw [if_pos (by assumption)] | rw [if_neg (by assumption)]
            have w66_3 : ((rowE (frI o z p F.1) j7 (edgE (frI o z p F.1) nh (0, e9, lfs, rts) j7) (j19 - (j7 + 1))).2.2.2) = ((rowE (frI o z p F.1) j7 (edgE (frI o z p F.1) nh (0, e9, lfs, rts) j7) ((j19 + 1) - (j7 + 1))).2.2.2) := by rw [show j19 + 1 - (j7 + 1) = (j19 - (j7 + 1)) + 1 by omega, rowE, adE, show j7 + 1 + (j19 - (j7 + 1)) = j19 by omega]; first | rw [if_pos (by assumption)] | rw [if_neg (by assumption)]
            refine k_ws (ws' := (wM ad cI cJ thr pts blt bds (nI nh) (nI F.1) (nI ((rowE (frI o z p F.1) j7 (edgE (frI o z p F.1) nh (0, e9, lfs, rts) j7) ((j19 + 1) - (j7 + 1))).1)) tx ty tz xs ys zs (nA z) (nA o) (nA p) (nA (rowE (frI o z p F.1) j7 (edgE (frI o z p F.1) nh (0, e9, lfs, rts) j7) ((j19 + 1) - (j7 + 1))).2.1) ((rowE (frI o z p F.1) j7 (edgE (frI o z p F.1) nh (0, e9, lfs, rts) j7) ((j19 + 1) - (j7 + 1))).2.2.1) ((rowE (frI o z p F.1) j7 (edgE (frI o z p F.1) nh (0, e9, lfs, rts) j7) ((j19 + 1) - (j7 + 1))).2.2.2) far hx hy hz9 F.2.1 F.2.2.1 F.2.2.2.1 F.2.2.2.2)) (by rw [← w63_0, ← w64_1, ← w65_2, ← w66_3]) ?_
            exact k_lv [2, 3, 0] rfl (ih19 (j19 + 1) (by omega) (by omega) (by omega))
          · have hE1 := hE j7 (j19 - (j7 + 1)) (by omega) (by omega)
            refine k_aload_n C 1 dX4_findEdges_38 rfl rfl ?_
            refine k_get C hinX4 0 20 rfl rfl (by decide) lk3 rfl rfl dX4_findEdges_39 ?_
            refine k_aload_n C 1 dX4_findEdges_42 rfl rfl ?_
            refine k_get C hinX4 0 19 rfl rfl (by decide) lk0 rfl rfl dX4_findEdges_43 ?_
            refine k_bipush C (v := (nI 32)) dX4_findEdges_46 (by decide) ?_
            refine k_iload_n C 2 dX4_findEdges_48 rfl rfl ?_
            refine k_imulN C dX4_findEdges_49 ?_
            refine k_iload_n C 3 dX4_findEdges_50 rfl rfl ?_
            refine k_iaddN C dX4_findEdges_51 ?_
            refine k_iastN C (ws' := (wM ad cI cJ thr pts blt bds (nI nh) (nI F.1) (nI ((rowE (frI o z p F.1) j7 (edgE (frI o z p F.1) nh (0, e9, lfs, rts) j7) (j19 - (j7 + 1))).1)) tx ty tz xs ys zs (nA z) (nA o) (nA p) (nA (updN (rowE (frI o z p F.1) j7 (edgE (frI o z p F.1) nh (0, e9, lfs, rts) j7) (j19 - (j7 + 1))).2.1 ((rowE (frI o z p F.1) j7 (edgE (frI o z p F.1) nh (0, e9, lfs, rts) j7) (j19 - (j7 + 1))).1) ((32 * j7) + j19))) ((rowE (frI o z p F.1) j7 (edgE (frI o z p F.1) nh (0, e9, lfs, rts) j7) (j19 - (j7 + 1))).2.2.1) ((rowE (frI o z p F.1) j7 (edgE (frI o z p F.1) nh (0, e9, lfs, rts) j7) (j19 - (j7 + 1))).2.2.2) far hx hy hz9 F.2.1 F.2.2.1 F.2.2.2.1 F.2.2.2.2)) (j := ((rowE (frI o z p F.1) j7 (edgE (frI o z p F.1) nh (0, e9, lfs, rts) j7) (j19 - (j7 + 1))).1)) 14 0 rfl rfl (by omega) (by decide) rfl dX4_findEdges_52 ?_
            refine k_aload_n C 1 dX4_findEdges_53 rfl rfl ?_
            refine k_get C hinX4 0 21 rfl rfl (by decide) lk4 rfl rfl dX4_findEdges_54 ?_
            refine k_aload_n C 1 dX4_findEdges_57 rfl rfl ?_
            refine k_get C hinX4 0 19 rfl rfl (by decide) lk0 rfl rfl dX4_findEdges_58 ?_
            refine k_iload_n C 0 dX4_findEdges_61 rfl rfl ?_
            refine k_iast C (ws' := (wM ad cI cJ thr pts blt bds (nI nh) (nI F.1) (nI ((rowE (frI o z p F.1) j7 (edgE (frI o z p F.1) nh (0, e9, lfs, rts) j7) (j19 - (j7 + 1))).1)) tx ty tz xs ys zs (nA z) (nA o) (nA p) (nA (updN (rowE (frI o z p F.1) j7 (edgE (frI o z p F.1) nh (0, e9, lfs, rts) j7) (j19 - (j7 + 1))).2.1 ((rowE (frI o z p F.1) j7 (edgE (frI o z p F.1) nh (0, e9, lfs, rts) j7) (j19 - (j7 + 1))).1) ((32 * j7) + j19))) (upd ((rowE (frI o z p F.1) j7 (edgE (frI o z p F.1) nh (0, e9, lfs, rts) j7) (j19 - (j7 + 1))).2.2.1) ((rowE (frI o z p F.1) j7 (edgE (frI o z p F.1) nh (0, e9, lfs, rts) j7) (j19 - (j7 + 1))).1) (frI o z p F.1 j7 j19)) ((rowE (frI o z p F.1) j7 (edgE (frI o z p F.1) nh (0, e9, lfs, rts) j7) (j19 - (j7 + 1))).2.2.2) far hx hy hz9 F.2.1 F.2.2.1 F.2.2.2.1 F.2.2.2.2)) (j := ((rowE (frI o z p F.1) j7 (edgE (frI o z p F.1) nh (0, e9, lfs, rts) j7) (j19 - (j7 + 1))).1)) 15 0 rfl rfl (by omega) (by decide) rfl dX4_findEdges_62 ?_
            refine k_aload_n C 1 dX4_findEdges_63 rfl rfl ?_
            refine k_get C hinX4 0 22 rfl rfl (by decide) lk5 rfl rfl dX4_findEdges_64 ?_
            refine k_aload_n C 1 dX4_findEdges_67 rfl rfl ?_
            refine k_get C hinX4 0 19 rfl rfl (by decide) lk0 rfl rfl dX4_findEdges_68 ?_
            refine k_aload_n C 1 dX4_findEdges_71 rfl rfl ?_
            refine k_iload_n C 3 dX4_findEdges_72 rfl rfl ?_
            refine k_iload_n C 2 dX4_findEdges_73 rfl rfl ?_
            refine k_callVI C (ar := 2) (As := [.int (nI j19), .int (nI j7)]) (rest := [.int (nI ((rowE (frI o z p F.1) j7 (edgE (frI o z p F.1) nh (0, e9, lfs, rts) j7) (j19 - (j7 + 1))).1)), .ref (ad 22)]) (c4_faceFrom (kxL X) (kxD X) cI cJ cF cD (by omega) (by omega) (by omega) ho hz hp) gX4_findEdges_X4_faceFrom rfl rfl rfl (by decide +kernel) ⟨Nat.le_of_ble_eq_true rfl, Nat.le_of_ble_eq_true rfl⟩ 0 rfl rfl rfl rfl (Nat.le_of_ble_eq_true rfl) dX4_findEdges_74 (Nat.zero_le _) (Nat.zero_le _) (fun r w hw => ?_)
            obtain ⟨rfl, rfl⟩ := hw
            refine k_iast C (ws' := (wM ad cI cJ thr pts blt bds (nI nh) (nI F.1) (nI ((rowE (frI o z p F.1) j7 (edgE (frI o z p F.1) nh (0, e9, lfs, rts) j7) (j19 - (j7 + 1))).1)) tx ty tz xs ys zs (nA z) (nA o) (nA p) (nA (updN (rowE (frI o z p F.1) j7 (edgE (frI o z p F.1) nh (0, e9, lfs, rts) j7) (j19 - (j7 + 1))).2.1 ((rowE (frI o z p F.1) j7 (edgE (frI o z p F.1) nh (0, e9, lfs, rts) j7) (j19 - (j7 + 1))).1) ((32 * j7) + j19))) (upd ((rowE (frI o z p F.1) j7 (edgE (frI o z p F.1) nh (0, e9, lfs, rts) j7) (j19 - (j7 + 1))).2.2.1) ((rowE (frI o z p F.1) j7 (edgE (frI o z p F.1) nh (0, e9, lfs, rts) j7) (j19 - (j7 + 1))).1) (frI o z p F.1 j7 j19)) (upd ((rowE (frI o z p F.1) j7 (edgE (frI o z p F.1) nh (0, e9, lfs, rts) j7) (j19 - (j7 + 1))).2.2.2) ((rowE (frI o z p F.1) j7 (edgE (frI o z p F.1) nh (0, e9, lfs, rts) j7) (j19 - (j7 + 1))).1) (frI o z p F.1 j19 j7)) far hx hy hz9 F.2.1 F.2.2.1 F.2.2.2.1 F.2.2.2.2)) (j := ((rowE (frI o z p F.1) j7 (edgE (frI o z p F.1) nh (0, e9, lfs, rts) j7) (j19 - (j7 + 1))).1)) 16 0 rfl rfl (by omega) (by decide) rfl dX4_findEdges_77 ?_
            refine k_aload_n C 1 dX4_findEdges_78 rfl rfl ?_
            refine k_dup C dX4_findEdges_79 rfl ?_
            refine k_get C hinX4 0 19 rfl rfl (by decide) lk0 rfl rfl dX4_findEdges_80 ?_
            refine k_iconst C (v := (nI 1)) dX4_findEdges_83 (by decide) ?_
            refine k_iaddN C dX4_findEdges_84 ?_
            refine k_put C (ws' := (wM ad cI cJ thr pts blt bds (nI nh) (nI F.1) (nI (((rowE (frI o z p F.1) j7 (edgE (frI o z p F.1) nh (0, e9, lfs, rts) j7) (j19 - (j7 + 1))).1) + 1)) tx ty tz xs ys zs (nA z) (nA o) (nA p) (nA (updN (rowE (frI o z p F.1) j7 (edgE (frI o z p F.1) nh (0, e9, lfs, rts) j7) (j19 - (j7 + 1))).2.1 ((rowE (frI o z p F.1) j7 (edgE (frI o z p F.1) nh (0, e9, lfs, rts) j7) (j19 - (j7 + 1))).1) ((32 * j7) + j19))) (upd ((rowE (frI o z p F.1) j7 (edgE (frI o z p F.1) nh (0, e9, lfs, rts) j7) (j19 - (j7 + 1))).2.2.1) ((rowE (frI o z p F.1) j7 (edgE (frI o z p F.1) nh (0, e9, lfs, rts) j7) (j19 - (j7 + 1))).1) (frI o z p F.1 j7 j19)) (upd ((rowE (frI o z p F.1) j7 (edgE (frI o z p F.1) nh (0, e9, lfs, rts) j7) (j19 - (j7 + 1))).2.2.2) ((rowE (frI o z p F.1) j7 (edgE (frI o z p F.1) nh (0, e9, lfs, rts) j7) (j19 - (j7 + 1))).1) (frI o z p F.1 j19 j7)) far hx hy hz9 F.2.1 F.2.2.1 F.2.2.2.1 F.2.2.2.2)) hinX4 tyX4 tyX4_ok nmX4 0 19 rfl rfl (by decide) lk0 rfl rfl rfl rfl (Nat.le_of_ble_eq_true rfl) rfl dX4_findEdges_85 ?_
            refine k_iinc C (v := (nI (j19 + 1))) (lv' := [(2, .int (nI (j19 + 1))), (3, .int (frI o z p F.1 j7 j19)), (0, .ref (ad 0)), (1, .int (nI j7))]) 3 dX4_findEdges_88 rfl (nI_1 _) (by decide) rfl ?_
            refine k_goto C 19 dX4_findEdges_91 (by decide) ?_
            have w104_0 : (nI (((rowE (frI o z p F.1) j7 (edgE (frI o z p F.1) nh (0, e9, lfs, rts) j7) (j19 - (j7 + 1))).1) + 1)) = (nI ((rowE (frI o z p F.1) j7 (edgE (frI o z p F.1) nh (0, e9, lfs, rts) j7) ((j19 + 1) - (j7 + 1))).1)) := by rw [show j19 + 1 - (j7 + 1) = (j19 - (j7 + 1)) + 1 by omega, rowE, adE, show j7 + 1 + (j19 - (j7 + 1)) = j19 by omega]; first | rw [if_pos (by assumption)] | rw [if_neg (by assumption)]
            have w105_1 : (nA (updN (rowE (frI o z p F.1) j7 (edgE (frI o z p F.1) nh (0, e9, lfs, rts) j7) (j19 - (j7 + 1))).2.1 ((rowE (frI o z p F.1) j7 (edgE (frI o z p F.1) nh (0, e9, lfs, rts) j7) (j19 - (j7 + 1))).1) ((32 * j7) + j19))) = (nA (rowE (frI o z p F.1) j7 (edgE (frI o z p F.1) nh (0, e9, lfs, rts) j7) ((j19 + 1) - (j7 + 1))).2.1) := by rw [show j19 + 1 - (j7 + 1) = (j19 - (j7 + 1)) + 1 by omega, rowE, adE, show j7 + 1 + (j19 - (j7 + 1)) = j19 by omega]; first | rw [if_pos (by assumption)] | rw [if_neg (by assumption)]
            have w106_2 : (upd ((rowE (frI o z p F.1) j7 (edgE (frI o z p F.1) nh (0, e9, lfs, rts) j7) (j19 - (j7 + 1))).2.2.1) ((rowE (frI o z p F.1) j7 (edgE (frI o z p F.1) nh (0, e9, lfs, rts) j7) (j19 - (j7 + 1))).1) (frI o z p F.1 j7 j19)) = ((rowE (frI o z p F.1) j7 (edgE (frI o z p F.1) nh (0, e9, lfs, rts) j7) ((j19 + 1) - (j7 + 1))).2.2.1) := by rw [show j19 + 1 - (j7 + 1) = (j19 - (j7 + 1)) + 1 by omega, rowE, adE, show j7 + 1 + (j19 - (j7 + 1)) = j19 by omega]; first | rw [if_pos (by assumption)] | rw [if_neg (by assumption)]
            have w107_3 : (upd ((rowE (frI o z p F.1) j7 (edgE (frI o z p F.1) nh (0, e9, lfs, rts) j7) (j19 - (j7 + 1))).2.2.2) ((rowE (frI o z p F.1) j7 (edgE (frI o z p F.1) nh (0, e9, lfs, rts) j7) (j19 - (j7 + 1))).1) (frI o z p F.1 j19 j7)) = ((rowE (frI o z p F.1) j7 (edgE (frI o z p F.1) nh (0, e9, lfs, rts) j7) ((j19 + 1) - (j7 + 1))).2.2.2) := by rw [show j19 + 1 - (j7 + 1) = (j19 - (j7 + 1)) + 1 by omega, rowE, adE, show j7 + 1 + (j19 - (j7 + 1)) = j19 by omega]; first | rw [if_pos (by assumption)] | rw [if_neg (by assumption)]
            refine k_ws (ws' := (wM ad cI cJ thr pts blt bds (nI nh) (nI F.1) (nI ((rowE (frI o z p F.1) j7 (edgE (frI o z p F.1) nh (0, e9, lfs, rts) j7) ((j19 + 1) - (j7 + 1))).1)) tx ty tz xs ys zs (nA z) (nA o) (nA p) (nA (rowE (frI o z p F.1) j7 (edgE (frI o z p F.1) nh (0, e9, lfs, rts) j7) ((j19 + 1) - (j7 + 1))).2.1) ((rowE (frI o z p F.1) j7 (edgE (frI o z p F.1) nh (0, e9, lfs, rts) j7) ((j19 + 1) - (j7 + 1))).2.2.1) ((rowE (frI o z p F.1) j7 (edgE (frI o z p F.1) nh (0, e9, lfs, rts) j7) ((j19 + 1) - (j7 + 1))).2.2.2) far hx hy hz9 F.2.1 F.2.2.1 F.2.2.2.1 F.2.2.2.2)) (by rw [← w104_0, ← w105_1, ← w106_2, ← w107_3]) ?_
            exact k_lv [2, 3, 0] rfl (ih19 (j19 + 1) (by omega) (by omega) (by omega))
