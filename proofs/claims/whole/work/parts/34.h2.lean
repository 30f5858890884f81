/-! ===== the class: its contracts ===== -/
set_option maxHeartbeats 4000000 in
set_option maxRecDepth 100000 in
theorem h0_layThrough_p (l : Launch) (D : va_G) (cI cJ cF cD : ClassId) {ba fa ra : Nat → Nat} {hb : Int32} {ps : Int32} {fc : Int32} {co : Int32} {ec : Int32} {asz : Int32} {sx : Int64} {tr : Nat} {pm : Nat → Nat} {xs : Nat → Int32} {ys : Nat → Int32} {zs : Nat → Int32} {ax : Nat → Int32} {ay : Nat → Int32} {az : Nat → Int32} {al : Nat → Int32} {el : Nat → Nat} {eh : Nat → Nat} {mo : Nat → Int64} {nx : Nat → Int64} {ny : Nat → Int64} {nz : Nat → Int64} {dd : Nat → Int64} {hd : Nat → Int32} {sz : Nat → Nat} {rn : Nat → Nat → Nat} {i a b c : Nat} (hi : i < 45) (ha : a < 24) (hb9 : b < 24) (hc : c < 24) : CtI l D (tyG cI cJ cF cD) yX0_layThrough wsX0_layThrough ({ frames := 1, cells := 0, slots := 0, locals := 24 }) [.ref (fa i), .ref (ba 1), .int (nI a), .int (nI b), .int (nI c)] (wB ba fa ra cI cJ cF hb ps fc co ec asz sx tr pm xs ys zs ax ay az al el eh mo nx ny nz dd hd sz rn) (fun r w => r = (b2i (lyB xs ys zs a b c)) ∧ w = (wB ba fa ra cI cJ cF hb ps fc co ec asz sx tr pm xs ys zs ax ay az al el eh mo (vp_updL nx i (acI ys zs a b c)) (vp_updL ny i (acI zs xs a b c)) (vp_updL nz i (acI xs ys a b c)) (vp_updL dd i (lyD xs ys zs a b c)) hd sz rn)) := by
  refine ctZ_of (cc := cX0_layThrough) (maxL := 5) (by decide) rfl (Nat.le_of_ble_eq_true rfl) (fun r w h => h.1 ▸ b2i_01 _) ?_
  intro X hXl hXd C hret
  have lk0 : Cond.fieldLinkNest RX0 15 "HullBuilder$Points" "ys" "[I" "HullBuilder" ∈ kNW := by decide +kernel
  have hinX2 : ∀ w ∈ wsX20, w ∈ wsX0_layThrough := by decide +kernel
  have lk2 : Cond.fieldLinkNest RX0 20 "HullBuilder$Points" "zs" "[I" "HullBuilder" ∈ kNW := by decide +kernel
  have lk3 : Cond.methodLinkNest RX0 23 yX3_across "HullBuilder" ∈ kNW := by decide +kernel
  have lk4 : Cond.initialized RX3 ∈ wsX0_layThrough := by decide +kernel
  have lk5 : Cond.static yX3_across ∈ wsX0_layThrough := by decide +kernel
  have lk6 : Cond.fieldLink RX0 27 "HullBuilder$Face" "nx" "J" ∈ wsX0_layThrough := by decide +kernel
  have hinX0 : ∀ w ∈ wsX00, w ∈ wsX0_layThrough := by decide +kernel
  have lk8 : Cond.fieldLinkNest RX0 31 "HullBuilder$Points" "xs" "[I" "HullBuilder" ∈ kNW := by decide +kernel
  have lk9 : Cond.fieldLink RX0 34 "HullBuilder$Face" "ny" "J" ∈ wsX0_layThrough := by decide +kernel
  have lk10 : Cond.fieldLink RX0 37 "HullBuilder$Face" "nz" "J" ∈ wsX0_layThrough := by decide +kernel
  have lk11 : Cond.fieldLink RX0 40 "HullBuilder$Face" "distance" "J" ∈ wsX0_layThrough := by decide +kernel
  show Kw X 0 0 (wB ba fa ra cI cJ cF hb ps fc co ec asz sx tr pm xs ys zs ax ay az al el eh mo nx ny nz dd hd sz rn) 0 [(0, .ref (fa i)), (1, .ref (ba 1)), (2, .int (nI a)), (3, .int (nI b)), (4, .int (nI c))] []
  refine k_aload_n C 0 dX0_layThrough_0 rfl rfl ?_
  refine k_aload_n C 1 dX0_layThrough_1 rfl rfl ?_
  refine k_getN C hinX2 1 1 rfl rfl (by decide) lk0 rfl rfl dX0_layThrough_2 ?_
  refine k_aload_n C 1 dX0_layThrough_5 rfl rfl ?_
  refine k_getN C hinX2 1 2 rfl rfl (by decide) lk2 rfl rfl dX0_layThrough_6 ?_
  refine k_iload_n C 2 dX0_layThrough_9 rfl rfl ?_
  refine k_iload_n C 3 dX0_layThrough_10 rfl rfl ?_
  refine k_iload C 4 dX0_layThrough_11 rfl ?_
  refine k_callSNL C (ar := 5) (As := [.ref (ba 3), .ref (ba 4), .int (nI a), .int (nI b), .int (nI c)]) (rest := [.ref (fa i)]) (h3_across (kxL X) (kxD X) cI cJ cF cD _ (q1 := 3) (q2 := 4) rfl rfl (by omega) (by omega) (by omega)) ggX0_layThrough_X3_across rfl rfl rfl lk3 lk4 lk5 (by decide +kernel) ⟨Nat.le_of_ble_eq_true rfl, Nat.le_of_ble_eq_true rfl⟩ rfl rfl (Nat.le_of_ble_eq_true rfl) dX0_layThrough_13 (Nat.zero_le _) (Nat.zero_le _) (fun r w hw => ?_)
  obtain ⟨rfl, rfl⟩ := hw
  refine k_put C (ws' := (wB ba fa ra cI cJ cF hb ps fc co ec asz sx tr pm xs ys zs ax ay az al el eh mo (vp_updL nx i (acI ys zs a b c)) ny nz dd hd sz rn)) hinX0 tyX0 tyX0_ok nmX0 (15 + i) 0 (wB_f hi) rfl (by decide) lk6 rfl rfl rfl rfl (Nat.le_of_ble_eq_true rfl) (wB_snx hi _) dX0_layThrough_16 ?_
  refine k_aload_n C 0 dX0_layThrough_19 rfl rfl ?_
  refine k_aload_n C 1 dX0_layThrough_20 rfl rfl ?_
  refine k_getN C hinX2 1 2 rfl rfl (by decide) lk2 rfl rfl dX0_layThrough_21 ?_
  refine k_aload_n C 1 dX0_layThrough_24 rfl rfl ?_
  refine k_getN C hinX2 1 0 rfl rfl (by decide) lk8 rfl rfl dX0_layThrough_25 ?_
  refine k_iload_n C 2 dX0_layThrough_28 rfl rfl ?_
  refine k_iload_n C 3 dX0_layThrough_29 rfl rfl ?_
  refine k_iload C 4 dX0_layThrough_30 rfl ?_
  refine k_callSNL C (ar := 5) (As := [.ref (ba 4), .ref (ba 2), .int (nI a), .int (nI b), .int (nI c)]) (rest := [.ref (fa i)]) (h3_across (kxL X) (kxD X) cI cJ cF cD _ (q1 := 4) (q2 := 2) rfl rfl (by omega) (by omega) (by omega)) ggX0_layThrough_X3_across rfl rfl rfl lk3 lk4 lk5 (by decide +kernel) ⟨Nat.le_of_ble_eq_true rfl, Nat.le_of_ble_eq_true rfl⟩ rfl rfl (Nat.le_of_ble_eq_true rfl) dX0_layThrough_32 (Nat.zero_le _) (Nat.zero_le _) (fun r w hw => ?_)
  obtain ⟨rfl, rfl⟩ := hw
  refine k_put C (ws' := (wB ba fa ra cI cJ cF hb ps fc co ec asz sx tr pm xs ys zs ax ay az al el eh mo (vp_updL nx i (acI ys zs a b c)) (vp_updL ny i (acI zs xs a b c)) nz dd hd sz rn)) hinX0 tyX0 tyX0_ok nmX0 (15 + i) 1 (wB_f hi) rfl (by decide) lk9 rfl rfl rfl rfl (Nat.le_of_ble_eq_true rfl) (wB_sny hi _) dX0_layThrough_35 ?_
  refine k_aload_n C 0 dX0_layThrough_38 rfl rfl ?_
  refine k_aload_n C 1 dX0_layThrough_39 rfl rfl ?_
  refine k_getN C hinX2 1 0 rfl rfl (by decide) lk8 rfl rfl dX0_layThrough_40 ?_
  refine k_aload_n C 1 dX0_layThrough_43 rfl rfl ?_
  refine k_getN C hinX2 1 1 rfl rfl (by decide) lk0 rfl rfl dX0_layThrough_44 ?_
  refine k_iload_n C 2 dX0_layThrough_47 rfl rfl ?_
  refine k_iload_n C 3 dX0_layThrough_48 rfl rfl ?_
  refine k_iload C 4 dX0_layThrough_49 rfl ?_
  refine k_callSNL C (ar := 5) (As := [.ref (ba 2), .ref (ba 3), .int (nI a), .int (nI b), .int (nI c)]) (rest := [.ref (fa i)]) (h3_across (kxL X) (kxD X) cI cJ cF cD _ (q1 := 2) (q2 := 3) rfl rfl (by omega) (by omega) (by omega)) ggX0_layThrough_X3_across rfl rfl rfl lk3 lk4 lk5 (by decide +kernel) ⟨Nat.le_of_ble_eq_true rfl, Nat.le_of_ble_eq_true rfl⟩ rfl rfl (Nat.le_of_ble_eq_true rfl) dX0_layThrough_51 (Nat.zero_le _) (Nat.zero_le _) (fun r w hw => ?_)
  obtain ⟨rfl, rfl⟩ := hw
  refine k_put C (ws' := (wB ba fa ra cI cJ cF hb ps fc co ec asz sx tr pm xs ys zs ax ay az al el eh mo (vp_updL nx i (acI ys zs a b c)) (vp_updL ny i (acI zs xs a b c)) (vp_updL nz i (acI xs ys a b c)) dd hd sz rn)) hinX0 tyX0 tyX0_ok nmX0 (15 + i) 2 (wB_f hi) rfl (by decide) lk10 rfl rfl rfl rfl (Nat.le_of_ble_eq_true rfl) (wB_snz hi _) dX0_layThrough_54 ?_
  refine k_aload_n C 0 dX0_layThrough_57 rfl rfl ?_
  refine k_aload_n C 0 dX0_layThrough_58 rfl rfl ?_
  refine k_get C hinX0 (15 + i) 0 (wB_f hi) rfl (by decide) lk6 rfl rfl dX0_layThrough_59 ?_
  refine k_topl (acI ys zs a b c) (by simp [vp_updL, upd, updN]) ?_
  refine k_aload_n C 1 dX0_layThrough_62 rfl rfl ?_
  refine k_getN C hinX2 1 0 rfl rfl (by decide) lk8 rfl rfl dX0_layThrough_63 ?_
  refine k_iload_n C 2 dX0_layThrough_66 rfl rfl ?_
  refine k_iald C (j := a) 2 0 rfl rfl (by omega) (by decide) dX0_layThrough_67 ?_
  refine k_i2l C dX0_layThrough_68 ?_
  refine k_lmul C dX0_layThrough_69 ?_
  refine k_aload_n C 0 dX0_layThrough_70 rfl rfl ?_
  refine k_get C hinX0 (15 + i) 1 (wB_f hi) rfl (by decide) lk9 rfl rfl dX0_layThrough_71 ?_
  refine k_topl (acI zs xs a b c) (by simp [vp_updL, upd, updN]) ?_
  refine k_aload_n C 1 dX0_layThrough_74 rfl rfl ?_
  refine k_getN C hinX2 1 1 rfl rfl (by decide) lk0 rfl rfl dX0_layThrough_75 ?_
  refine k_iload_n C 2 dX0_layThrough_78 rfl rfl ?_
  refine k_iald C (j := a) 3 0 rfl rfl (by omega) (by decide) dX0_layThrough_79 ?_
  refine k_i2l C dX0_layThrough_80 ?_
  refine k_lmul C dX0_layThrough_81 ?_
  refine k_ladd C dX0_layThrough_82 ?_
  refine k_aload_n C 0 dX0_layThrough_83 rfl rfl ?_
  refine k_get C hinX0 (15 + i) 2 (wB_f hi) rfl (by decide) lk10 rfl rfl dX0_layThrough_84 ?_
  refine k_topl (acI xs ys a b c) (by simp [vp_updL, upd, updN]) ?_
  refine k_aload_n C 1 dX0_layThrough_87 rfl rfl ?_
  refine k_getN C hinX2 1 2 rfl rfl (by decide) lk2 rfl rfl dX0_layThrough_88 ?_
  refine k_iload_n C 2 dX0_layThrough_91 rfl rfl ?_
  refine k_iald C (j := a) 4 0 rfl rfl (by omega) (by decide) dX0_layThrough_92 ?_
  refine k_i2l C dX0_layThrough_93 ?_
  refine k_lmul C dX0_layThrough_94 ?_
  refine k_ladd C dX0_layThrough_95 ?_
  refine k_put C (ws' := (wB ba fa ra cI cJ cF hb ps fc co ec asz sx tr pm xs ys zs ax ay az al el eh mo (vp_updL nx i (acI ys zs a b c)) (vp_updL ny i (acI zs xs a b c)) (vp_updL nz i (acI xs ys a b c)) (vp_updL dd i ((((acI ys zs a b c) * ((xs a).toInt64)) + ((acI zs xs a b c) * ((ys a).toInt64))) + ((acI xs ys a b c) * ((zs a).toInt64)))) hd sz rn)) hinX0 tyX0 tyX0_ok nmX0 (15 + i) 3 (wB_f hi) rfl (by decide) lk11 rfl rfl rfl rfl (Nat.le_of_ble_eq_true rfl) (wB_sdd hi _) dX0_layThrough_96 ?_
  refine k_aload_n C 0 dX0_layThrough_99 rfl rfl ?_
  refine k_get C hinX0 (15 + i) 0 (wB_f hi) rfl (by decide) lk6 rfl rfl dX0_layThrough_100 ?_
  refine k_topl (acI ys zs a b c) (by simp [vp_updL, upd, updN]) ?_
  refine k_lconst C (v := 0) dX0_layThrough_103 (by decide) ?_
  refine k_lc_ne C 126 dX0_layThrough_104 dX0_layThrough_105 (by decide) (fun h_1 => ?_) (fun h_1 => ?_)
  · refine k_iconst C (v := (nI 1)) dX0_layThrough_126 (by decide) ?_
    refine k_goto C 131 dX0_layThrough_127 (by decide) ?_
    exact hret _ _ _ _ ⟨by simp [lyB, b2i, nI0, nI1, h_1], rfl⟩ dX0_layThrough_131
  · refine k_aload_n C 0 dX0_layThrough_108 rfl rfl ?_
    refine k_get C hinX0 (15 + i) 1 (wB_f hi) rfl (by decide) lk9 rfl rfl dX0_layThrough_109 ?_
    refine k_topl (acI zs xs a b c) (by simp [vp_updL, upd, updN]) ?_
    refine k_lconst C (v := 0) dX0_layThrough_112 (by decide) ?_
    refine k_lc_ne C 126 dX0_layThrough_113 dX0_layThrough_114 (by decide) (fun h_2 => ?_) (fun h_2 => ?_)
    · refine k_iconst C (v := (nI 1)) dX0_layThrough_126 (by decide) ?_
      refine k_goto C 131 dX0_layThrough_127 (by decide) ?_
      exact hret _ _ _ _ ⟨by simp [lyB, b2i, nI0, nI1, h_1, h_2], rfl⟩ dX0_layThrough_131
    · refine k_aload_n C 0 dX0_layThrough_117 rfl rfl ?_
      refine k_get C hinX0 (15 + i) 2 (wB_f hi) rfl (by decide) lk10 rfl rfl dX0_layThrough_118 ?_
      refine k_topl (acI xs ys a b c) (by simp [vp_updL, upd, updN]) ?_
      refine k_lconst C (v := 0) dX0_layThrough_121 (by decide) ?_
      refine k_lc_eq C 130 dX0_layThrough_122 dX0_layThrough_123 (by decide) (fun h_3 => ?_) (fun h_3 => ?_)
      · refine k_iconst C (v := (nI 0)) dX0_layThrough_130 (by decide) ?_
        exact hret _ _ _ _ ⟨by simp [lyB, b2i, nI0, nI1, h_1, h_2, h_3], rfl⟩ dX0_layThrough_131
      · refine k_iconst C (v := (nI 1)) dX0_layThrough_126 (by decide) ?_
        refine k_goto C 131 dX0_layThrough_127 (by decide) ?_
        exact hret _ _ _ _ ⟨by simp [lyB, b2i, nI0, nI1, h_1, h_2, h_3], rfl⟩ dX0_layThrough_131
set_option maxHeartbeats 4000000 in
set_option maxRecDepth 100000 in
theorem h0_layThrough_a (l : Launch) (D : va_G) (cI cJ cF cD : ClassId) {ba fa ra : Nat → Nat} {hb : Int32} {ps : Int32} {fc : Int32} {co : Int32} {ec : Int32} {asz : Int32} {sx : Int64} {tr : Nat} {pm : Nat → Nat} {xs : Nat → Int32} {ys : Nat → Int32} {zs : Nat → Int32} {ax : Nat → Int32} {ay : Nat → Int32} {az : Nat → Int32} {al : Nat → Int32} {el : Nat → Nat} {eh : Nat → Nat} {mo : Nat → Int64} {nx : Nat → Int64} {ny : Nat → Int64} {nz : Nat → Int64} {dd : Nat → Int64} {hd : Nat → Int32} {sz : Nat → Nat} {rn : Nat → Nat → Nat} {i a b c : Nat} (hi : i < 45) (ha : a < 24) (hb9 : b < 24) (hc : c < 24) : CtI l D (tyG cI cJ cF cD) yX0_layThrough wsX0_layThrough ({ frames := 1, cells := 0, slots := 0, locals := 24 }) [.ref (fa i), .ref (ba 6), .int (nI a), .int (nI b), .int (nI c)] (wB ba fa ra cI cJ cF hb ps fc co ec asz sx tr pm xs ys zs ax ay az al el eh mo nx ny nz dd hd sz rn) (fun r w => r = (b2i (lyB ax ay az a b c)) ∧ w = (wB ba fa ra cI cJ cF hb ps fc co ec asz sx tr pm xs ys zs ax ay az al el eh mo (vp_updL nx i (acI ay az a b c)) (vp_updL ny i (acI az ax a b c)) (vp_updL nz i (acI ax ay a b c)) (vp_updL dd i (lyD ax ay az a b c)) hd sz rn)) := by
  refine ctZ_of (cc := cX0_layThrough) (maxL := 5) (by decide) rfl (Nat.le_of_ble_eq_true rfl) (fun r w h => h.1 ▸ b2i_01 _) ?_
  intro X hXl hXd C hret
  have lk0 : Cond.fieldLinkNest RX0 15 "HullBuilder$Points" "ys" "[I" "HullBuilder" ∈ kNW := by decide +kernel
  have hinX2 : ∀ w ∈ wsX20, w ∈ wsX0_layThrough := by decide +kernel
  have lk2 : Cond.fieldLinkNest RX0 20 "HullBuilder$Points" "zs" "[I" "HullBuilder" ∈ kNW := by decide +kernel
  have lk3 : Cond.methodLinkNest RX0 23 yX3_across "HullBuilder" ∈ kNW := by decide +kernel
  have lk4 : Cond.initialized RX3 ∈ wsX0_layThrough := by decide +kernel
  have lk5 : Cond.static yX3_across ∈ wsX0_layThrough := by decide +kernel
  have lk6 : Cond.fieldLink RX0 27 "HullBuilder$Face" "nx" "J" ∈ wsX0_layThrough := by decide +kernel
  have hinX0 : ∀ w ∈ wsX00, w ∈ wsX0_layThrough := by decide +kernel
  have lk8 : Cond.fieldLinkNest RX0 31 "HullBuilder$Points" "xs" "[I" "HullBuilder" ∈ kNW := by decide +kernel
  have lk9 : Cond.fieldLink RX0 34 "HullBuilder$Face" "ny" "J" ∈ wsX0_layThrough := by decide +kernel
  have lk10 : Cond.fieldLink RX0 37 "HullBuilder$Face" "nz" "J" ∈ wsX0_layThrough := by decide +kernel
  have lk11 : Cond.fieldLink RX0 40 "HullBuilder$Face" "distance" "J" ∈ wsX0_layThrough := by decide +kernel
  show Kw X 0 0 (wB ba fa ra cI cJ cF hb ps fc co ec asz sx tr pm xs ys zs ax ay az al el eh mo nx ny nz dd hd sz rn) 0 [(0, .ref (fa i)), (1, .ref (ba 6)), (2, .int (nI a)), (3, .int (nI b)), (4, .int (nI c))] []
  refine k_aload_n C 0 dX0_layThrough_0 rfl rfl ?_
  refine k_aload_n C 1 dX0_layThrough_1 rfl rfl ?_
  refine k_getN C hinX2 6 1 rfl rfl (by decide) lk0 rfl rfl dX0_layThrough_2 ?_
  refine k_aload_n C 1 dX0_layThrough_5 rfl rfl ?_
  refine k_getN C hinX2 6 2 rfl rfl (by decide) lk2 rfl rfl dX0_layThrough_6 ?_
  refine k_iload_n C 2 dX0_layThrough_9 rfl rfl ?_
  refine k_iload_n C 3 dX0_layThrough_10 rfl rfl ?_
  refine k_iload C 4 dX0_layThrough_11 rfl ?_
  refine k_callSNL C (ar := 5) (As := [.ref (ba 8), .ref (ba 9), .int (nI a), .int (nI b), .int (nI c)]) (rest := [.ref (fa i)]) (h3_across (kxL X) (kxD X) cI cJ cF cD _ (q1 := 8) (q2 := 9) rfl rfl (by omega) (by omega) (by omega)) ggX0_layThrough_X3_across rfl rfl rfl lk3 lk4 lk5 (by decide +kernel) ⟨Nat.le_of_ble_eq_true rfl, Nat.le_of_ble_eq_true rfl⟩ rfl rfl (Nat.le_of_ble_eq_true rfl) dX0_layThrough_13 (Nat.zero_le _) (Nat.zero_le _) (fun r w hw => ?_)
  obtain ⟨rfl, rfl⟩ := hw
  refine k_put C (ws' := (wB ba fa ra cI cJ cF hb ps fc co ec asz sx tr pm xs ys zs ax ay az al el eh mo (vp_updL nx i (acI ay az a b c)) ny nz dd hd sz rn)) hinX0 tyX0 tyX0_ok nmX0 (15 + i) 0 (wB_f hi) rfl (by decide) lk6 rfl rfl rfl rfl (Nat.le_of_ble_eq_true rfl) (wB_snx hi _) dX0_layThrough_16 ?_
  refine k_aload_n C 0 dX0_layThrough_19 rfl rfl ?_
  refine k_aload_n C 1 dX0_layThrough_20 rfl rfl ?_
  refine k_getN C hinX2 6 2 rfl rfl (by decide) lk2 rfl rfl dX0_layThrough_21 ?_
  refine k_aload_n C 1 dX0_layThrough_24 rfl rfl ?_
  refine k_getN C hinX2 6 0 rfl rfl (by decide) lk8 rfl rfl dX0_layThrough_25 ?_
  refine k_iload_n C 2 dX0_layThrough_28 rfl rfl ?_
  refine k_iload_n C 3 dX0_layThrough_29 rfl rfl ?_
  refine k_iload C 4 dX0_layThrough_30 rfl ?_
  refine k_callSNL C (ar := 5) (As := [.ref (ba 9), .ref (ba 7), .int (nI a), .int (nI b), .int (nI c)]) (rest := [.ref (fa i)]) (h3_across (kxL X) (kxD X) cI cJ cF cD _ (q1 := 9) (q2 := 7) rfl rfl (by omega) (by omega) (by omega)) ggX0_layThrough_X3_across rfl rfl rfl lk3 lk4 lk5 (by decide +kernel) ⟨Nat.le_of_ble_eq_true rfl, Nat.le_of_ble_eq_true rfl⟩ rfl rfl (Nat.le_of_ble_eq_true rfl) dX0_layThrough_32 (Nat.zero_le _) (Nat.zero_le _) (fun r w hw => ?_)
  obtain ⟨rfl, rfl⟩ := hw
  refine k_put C (ws' := (wB ba fa ra cI cJ cF hb ps fc co ec asz sx tr pm xs ys zs ax ay az al el eh mo (vp_updL nx i (acI ay az a b c)) (vp_updL ny i (acI az ax a b c)) nz dd hd sz rn)) hinX0 tyX0 tyX0_ok nmX0 (15 + i) 1 (wB_f hi) rfl (by decide) lk9 rfl rfl rfl rfl (Nat.le_of_ble_eq_true rfl) (wB_sny hi _) dX0_layThrough_35 ?_
  refine k_aload_n C 0 dX0_layThrough_38 rfl rfl ?_
  refine k_aload_n C 1 dX0_layThrough_39 rfl rfl ?_
  refine k_getN C hinX2 6 0 rfl rfl (by decide) lk8 rfl rfl dX0_layThrough_40 ?_
  refine k_aload_n C 1 dX0_layThrough_43 rfl rfl ?_
  refine k_getN C hinX2 6 1 rfl rfl (by decide) lk0 rfl rfl dX0_layThrough_44 ?_
  refine k_iload_n C 2 dX0_layThrough_47 rfl rfl ?_
  refine k_iload_n C 3 dX0_layThrough_48 rfl rfl ?_
  refine k_iload C 4 dX0_layThrough_49 rfl ?_
  refine k_callSNL C (ar := 5) (As := [.ref (ba 7), .ref (ba 8), .int (nI a), .int (nI b), .int (nI c)]) (rest := [.ref (fa i)]) (h3_across (kxL X) (kxD X) cI cJ cF cD _ (q1 := 7) (q2 := 8) rfl rfl (by omega) (by omega) (by omega)) ggX0_layThrough_X3_across rfl rfl rfl lk3 lk4 lk5 (by decide +kernel) ⟨Nat.le_of_ble_eq_true rfl, Nat.le_of_ble_eq_true rfl⟩ rfl rfl (Nat.le_of_ble_eq_true rfl) dX0_layThrough_51 (Nat.zero_le _) (Nat.zero_le _) (fun r w hw => ?_)
  obtain ⟨rfl, rfl⟩ := hw
  refine k_put C (ws' := (wB ba fa ra cI cJ cF hb ps fc co ec asz sx tr pm xs ys zs ax ay az al el eh mo (vp_updL nx i (acI ay az a b c)) (vp_updL ny i (acI az ax a b c)) (vp_updL nz i (acI ax ay a b c)) dd hd sz rn)) hinX0 tyX0 tyX0_ok nmX0 (15 + i) 2 (wB_f hi) rfl (by decide) lk10 rfl rfl rfl rfl (Nat.le_of_ble_eq_true rfl) (wB_snz hi _) dX0_layThrough_54 ?_
  refine k_aload_n C 0 dX0_layThrough_57 rfl rfl ?_
  refine k_aload_n C 0 dX0_layThrough_58 rfl rfl ?_
  refine k_get C hinX0 (15 + i) 0 (wB_f hi) rfl (by decide) lk6 rfl rfl dX0_layThrough_59 ?_
  refine k_topl (acI ay az a b c) (by simp [vp_updL, upd, updN]) ?_
  refine k_aload_n C 1 dX0_layThrough_62 rfl rfl ?_
  refine k_getN C hinX2 6 0 rfl rfl (by decide) lk8 rfl rfl dX0_layThrough_63 ?_
  refine k_iload_n C 2 dX0_layThrough_66 rfl rfl ?_
  refine k_iald C (j := a) 7 0 rfl rfl (by omega) (by decide) dX0_layThrough_67 ?_
  refine k_i2l C dX0_layThrough_68 ?_
  refine k_lmul C dX0_layThrough_69 ?_
  refine k_aload_n C 0 dX0_layThrough_70 rfl rfl ?_
  refine k_get C hinX0 (15 + i) 1 (wB_f hi) rfl (by decide) lk9 rfl rfl dX0_layThrough_71 ?_
  refine k_topl (acI az ax a b c) (by simp [vp_updL, upd, updN]) ?_
  refine k_aload_n C 1 dX0_layThrough_74 rfl rfl ?_
  refine k_getN C hinX2 6 1 rfl rfl (by decide) lk0 rfl rfl dX0_layThrough_75 ?_
  refine k_iload_n C 2 dX0_layThrough_78 rfl rfl ?_
  refine k_iald C (j := a) 8 0 rfl rfl (by omega) (by decide) dX0_layThrough_79 ?_
  refine k_i2l C dX0_layThrough_80 ?_
  refine k_lmul C dX0_layThrough_81 ?_
  refine k_ladd C dX0_layThrough_82 ?_
  refine k_aload_n C 0 dX0_layThrough_83 rfl rfl ?_
  refine k_get C hinX0 (15 + i) 2 (wB_f hi) rfl (by decide) lk10 rfl rfl dX0_layThrough_84 ?_
  refine k_topl (acI ax ay a b c) (by simp [vp_updL, upd, updN]) ?_
  refine k_aload_n C 1 dX0_layThrough_87 rfl rfl ?_
  refine k_getN C hinX2 6 2 rfl rfl (by decide) lk2 rfl rfl dX0_layThrough_88 ?_
  refine k_iload_n C 2 dX0_layThrough_91 rfl rfl ?_
  refine k_iald C (j := a) 9 0 rfl rfl (by omega) (by decide) dX0_layThrough_92 ?_
  refine k_i2l C dX0_layThrough_93 ?_
  refine k_lmul C dX0_layThrough_94 ?_
  refine k_ladd C dX0_layThrough_95 ?_
  refine k_put C (ws' := (wB ba fa ra cI cJ cF hb ps fc co ec asz sx tr pm xs ys zs ax ay az al el eh mo (vp_updL nx i (acI ay az a b c)) (vp_updL ny i (acI az ax a b c)) (vp_updL nz i (acI ax ay a b c)) (vp_updL dd i ((((acI ay az a b c) * ((ax a).toInt64)) + ((acI az ax a b c) * ((ay a).toInt64))) + ((acI ax ay a b c) * ((az a).toInt64)))) hd sz rn)) hinX0 tyX0 tyX0_ok nmX0 (15 + i) 3 (wB_f hi) rfl (by decide) lk11 rfl rfl rfl rfl (Nat.le_of_ble_eq_true rfl) (wB_sdd hi _) dX0_layThrough_96 ?_
  refine k_aload_n C 0 dX0_layThrough_99 rfl rfl ?_
  refine k_get C hinX0 (15 + i) 0 (wB_f hi) rfl (by decide) lk6 rfl rfl dX0_layThrough_100 ?_
  refine k_topl (acI ay az a b c) (by simp [vp_updL, upd, updN]) ?_
  refine k_lconst C (v := 0) dX0_layThrough_103 (by decide) ?_
  refine k_lc_ne C 126 dX0_layThrough_104 dX0_layThrough_105 (by decide) (fun h_1 => ?_) (fun h_1 => ?_)
  · refine k_iconst C (v := (nI 1)) dX0_layThrough_126 (by decide) ?_
    refine k_goto C 131 dX0_layThrough_127 (by decide) ?_
    exact hret _ _ _ _ ⟨by simp [lyB, b2i, nI0, nI1, h_1], rfl⟩ dX0_layThrough_131
  · refine k_aload_n C 0 dX0_layThrough_108 rfl rfl ?_
    refine k_get C hinX0 (15 + i) 1 (wB_f hi) rfl (by decide) lk9 rfl rfl dX0_layThrough_109 ?_
    refine k_topl (acI az ax a b c) (by simp [vp_updL, upd, updN]) ?_
    refine k_lconst C (v := 0) dX0_layThrough_112 (by decide) ?_
    refine k_lc_ne C 126 dX0_layThrough_113 dX0_layThrough_114 (by decide) (fun h_2 => ?_) (fun h_2 => ?_)
    · refine k_iconst C (v := (nI 1)) dX0_layThrough_126 (by decide) ?_
      refine k_goto C 131 dX0_layThrough_127 (by decide) ?_
      exact hret _ _ _ _ ⟨by simp [lyB, b2i, nI0, nI1, h_1, h_2], rfl⟩ dX0_layThrough_131
    · refine k_aload_n C 0 dX0_layThrough_117 rfl rfl ?_
      refine k_get C hinX0 (15 + i) 2 (wB_f hi) rfl (by decide) lk10 rfl rfl dX0_layThrough_118 ?_
      refine k_topl (acI ax ay a b c) (by simp [vp_updL, upd, updN]) ?_
      refine k_lconst C (v := 0) dX0_layThrough_121 (by decide) ?_
      refine k_lc_eq C 130 dX0_layThrough_122 dX0_layThrough_123 (by decide) (fun h_3 => ?_) (fun h_3 => ?_)
      · refine k_iconst C (v := (nI 0)) dX0_layThrough_130 (by decide) ?_
        exact hret _ _ _ _ ⟨by simp [lyB, b2i, nI0, nI1, h_1, h_2, h_3], rfl⟩ dX0_layThrough_131
      · refine k_iconst C (v := (nI 1)) dX0_layThrough_126 (by decide) ?_
        refine k_goto C 131 dX0_layThrough_127 (by decide) ?_
        exact hret _ _ _ _ ⟨by simp [lyB, b2i, nI0, nI1, h_1, h_2, h_3], rfl⟩ dX0_layThrough_131
set_option maxHeartbeats 4000000 in
set_option maxRecDepth 100000 in
theorem h0_heightOf (l : Launch) (D : va_G) (cI cJ cF cD : ClassId) {ba fa ra : Nat → Nat} {hb : Int32} {ps : Int32} {fc : Int32} {co : Int32} {ec : Int32} {asz : Int32} {sx : Int64} {tr : Nat} {pm : Nat → Nat} {xs : Nat → Int32} {ys : Nat → Int32} {zs : Nat → Int32} {ax : Nat → Int32} {ay : Nat → Int32} {az : Nat → Int32} {al : Nat → Int32} {el : Nat → Nat} {eh : Nat → Nat} {mo : Nat → Int64} {nx : Nat → Int64} {ny : Nat → Int64} {nz : Nat → Int64} {dd : Nat → Int64} {hd : Nat → Int32} {sz : Nat → Nat} {rn : Nat → Nat → Nat} {i : Nat} (x y z : Int64) (hi : i < 45) : CtL l D (tyG cI cJ cF cD) yX0_heightOf wsX0_heightOf ({ frames := 0, cells := 0, slots := 0, locals := 0 }) [.ref (fa i), .long x, .long y, .long z] (wB ba fa ra cI cJ cF hb ps fc co ec asz sx tr pm xs ys zs ax ay az al el eh mo nx ny nz dd hd sz rn) (fun r w => r = (htL (nx i) (ny i) (nz i) (dd i) x y z) ∧ w = (wB ba fa ra cI cJ cF hb ps fc co ec asz sx tr pm xs ys zs ax ay az al el eh mo nx ny nz dd hd sz rn)) := by
  refine ctL_of (cc := cX0_heightOf) (maxL := 7) (by decide) rfl (Nat.le_of_ble_eq_true rfl) ?_
  intro X hXl hXd C hret
  have lk0 : Cond.fieldLink RX0 27 "HullBuilder$Face" "nx" "J" ∈ wsX0_heightOf := by decide +kernel
  have hinX0 : ∀ w ∈ wsX00, w ∈ wsX0_heightOf := by decide +kernel
  have lk2 : Cond.fieldLink RX0 34 "HullBuilder$Face" "ny" "J" ∈ wsX0_heightOf := by decide +kernel
  have lk3 : Cond.fieldLink RX0 37 "HullBuilder$Face" "nz" "J" ∈ wsX0_heightOf := by decide +kernel
  have lk4 : Cond.fieldLink RX0 40 "HullBuilder$Face" "distance" "J" ∈ wsX0_heightOf := by decide +kernel
  show Kw X 0 0 (wB ba fa ra cI cJ cF hb ps fc co ec asz sx tr pm xs ys zs ax ay az al el eh mo nx ny nz dd hd sz rn) 0 [(0, .ref (fa i)), (1, .long x), (3, .long y), (5, .long z)] []
  refine k_aload_n C 0 dX0_heightOf_0 rfl rfl ?_
  refine k_get C hinX0 (15 + i) 0 (wB_f hi) rfl (by decide) lk0 rfl rfl dX0_heightOf_1 ?_
  refine k_lload_n C 1 dX0_heightOf_4 rfl rfl ?_
  refine k_lmul C dX0_heightOf_5 ?_
  refine k_aload_n C 0 dX0_heightOf_6 rfl rfl ?_
  refine k_get C hinX0 (15 + i) 1 (wB_f hi) rfl (by decide) lk2 rfl rfl dX0_heightOf_7 ?_
  refine k_lload_n C 2 dX0_heightOf_10 rfl rfl ?_
  refine k_lmul C dX0_heightOf_11 ?_
  refine k_ladd C dX0_heightOf_12 ?_
  refine k_aload_n C 0 dX0_heightOf_13 rfl rfl ?_
  refine k_get C hinX0 (15 + i) 2 (wB_f hi) rfl (by decide) lk3 rfl rfl dX0_heightOf_14 ?_
  refine k_lload C 3 dX0_heightOf_17 rfl ?_
  refine k_lmul C dX0_heightOf_19 ?_
  refine k_ladd C dX0_heightOf_20 ?_
  refine k_aload_n C 0 dX0_heightOf_21 rfl rfl ?_
  refine k_get C hinX0 (15 + i) 3 (wB_f hi) rfl (by decide) lk4 rfl rfl dX0_heightOf_22 ?_
  refine k_lsub C dX0_heightOf_25 ?_
  exact hret _ _ _ _ ⟨rfl, rfl⟩ dX0_heightOf_26
set_option maxHeartbeats 4000000 in
set_option maxRecDepth 100000 in
theorem h0_holdsAll (l : Launch) (D : va_G) (cI cJ cF cD : ClassId) {ba fa ra : Nat → Nat} {hb : Int32} {fc : Int32} {co : Int32} {ec : Int32} {asz : Int32} {sx : Int64} {tr : Nat} {pm : Nat → Nat} {xs : Nat → Int32} {ys : Nat → Int32} {zs : Nat → Int32} {ax : Nat → Int32} {ay : Nat → Int32} {az : Nat → Int32} {al : Nat → Int32} {el : Nat → Nat} {eh : Nat → Nat} {mo : Nat → Int64} {nx : Nat → Int64} {ny : Nat → Int64} {nz : Nat → Int64} {dd : Nat → Int64} {hd : Nat → Int32} {sz : Nat → Nat} {rn : Nat → Nat → Nat} {i np : Nat} (hi : i < 45) (hnp : np ≤ 24) : CtI l D (tyG cI cJ cF cD) yX0_holdsAll wsX0_holdsAll ({ frames := 1, cells := 0, slots := 0, locals := 26 }) [.ref (fa i), .ref (ba 1)] (wB ba fa ra cI cJ cF hb (nI np) fc co ec asz sx tr pm xs ys zs ax ay az al el eh mo nx ny nz dd hd sz rn) (fun r w => r = (b2i (allB np (fun k => (tH nx ny nz dd i xs ys zs) k == 0))) ∧ w = (wB ba fa ra cI cJ cF hb (nI np) fc co ec asz sx tr pm xs ys zs ax ay az al el eh mo nx ny nz dd hd sz rn)) := by
  refine ctZ_of (cc := cX0_holdsAll) (maxL := 3) (by decide) rfl (Nat.le_of_ble_eq_true rfl) (fun r w h => h.1 ▸ b2i_01 _) ?_
  intro X hXl hXd C hret
  have lk0 : Cond.fieldLinkNest RX0 43 "HullBuilder$Points" "size" "I" "HullBuilder" ∈ kNW := by decide +kernel
  have hinX2 : ∀ w ∈ wsX20, w ∈ wsX0_holdsAll := by decide +kernel
  have lk2 : Cond.fieldLinkNest RX0 31 "HullBuilder$Points" "xs" "[I" "HullBuilder" ∈ kNW := by decide +kernel
  have lk3 : Cond.fieldLinkNest RX0 15 "HullBuilder$Points" "ys" "[I" "HullBuilder" ∈ kNW := by decide +kernel
  have lk4 : Cond.fieldLinkNest RX0 20 "HullBuilder$Points" "zs" "[I" "HullBuilder" ∈ kNW := by decide +kernel
  show Kw X 0 0 (wB ba fa ra cI cJ cF hb (nI np) fc co ec asz sx tr pm xs ys zs ax ay az al el eh mo nx ny nz dd hd sz rn) 0 [(0, .ref (fa i)), (1, .ref (ba 1))] []
  refine k_iconst C (v := (nI 0)) dX0_holdsAll_0 (by decide) ?_
  refine k_istore_n C (lv' := [(2, .int (nI 0)), (0, .ref (fa i)), (1, .ref (ba 1))]) dX0_holdsAll_1 rfl (by decide) rfl ?_
  suffices L2 : ∀ (n2 j2 : Nat), j2 ≤ np → np + 1 ≤ j2 + n2 → allB j2 (fun k => (tH nx ny nz dd i xs ys zs) k == 0) = true → Kw X 0 0 (wB ba fa ra cI cJ cF hb (nI np) fc co ec asz sx tr pm xs ys zs ax ay az al el eh mo nx ny nz dd hd sz rn) 2 [(0, .ref (fa i)), (1, .ref (ba 1)), (2, .int (nI j2))] [] by
    exact k_lv [1, 2, 0] rfl (L2 (np + 1) 0 (by omega) (by omega) rfl)
  intro n2
  induction n2 with
  | zero => intro j2 a1 a2; exact absurd a2 (by omega)
  | succ n2 ih2 =>
    intro j2 b2 c2 g2_0
    refine k_iload_n C 2 dX0_holdsAll_2 rfl rfl ?_
    refine k_aload_n C 1 dX0_holdsAll_3 rfl rfl ?_
    refine k_getN C hinX2 1 3 rfl rfl (by decide) lk0 rfl rfl dX0_holdsAll_4 ?_
    refine k_icmp_geN C (by omega) (by omega) 48 dX0_holdsAll_7 (by decide) (fun h_1 => ?_) (fun h_1 => ?_)
    · refine k_iconst C (v := (nI 1)) dX0_holdsAll_48 (by decide) ?_
      exact hret _ _ _ _ ⟨by rw [← show j2 = np by omega, g2_0]; rfl, rfl⟩ dX0_holdsAll_49
    · refine k_aload_n C 0 dX0_holdsAll_10 rfl rfl ?_
      refine k_aload_n C 1 dX0_holdsAll_11 rfl rfl ?_
      refine k_getN C hinX2 1 0 rfl rfl (by decide) lk2 rfl rfl dX0_holdsAll_12 ?_
      refine k_iload_n C 2 dX0_holdsAll_15 rfl rfl ?_
      refine k_iald C (j := j2) 2 0 rfl rfl (by omega) (by decide) dX0_holdsAll_16 ?_
      refine k_i2l C dX0_holdsAll_17 ?_
      refine k_aload_n C 1 dX0_holdsAll_18 rfl rfl ?_
      refine k_getN C hinX2 1 1 rfl rfl (by decide) lk3 rfl rfl dX0_holdsAll_19 ?_
      refine k_iload_n C 2 dX0_holdsAll_22 rfl rfl ?_
      refine k_iald C (j := j2) 3 0 rfl rfl (by omega) (by decide) dX0_holdsAll_23 ?_
      refine k_i2l C dX0_holdsAll_24 ?_
      refine k_aload_n C 1 dX0_holdsAll_25 rfl rfl ?_
      refine k_getN C hinX2 1 2 rfl rfl (by decide) lk4 rfl rfl dX0_holdsAll_26 ?_
      refine k_iload_n C 2 dX0_holdsAll_29 rfl rfl ?_
      refine k_iald C (j := j2) 4 0 rfl rfl (by omega) (by decide) dX0_holdsAll_30 ?_
      refine k_i2l C dX0_holdsAll_31 ?_
      refine k_callVL C (ar := 3) (As := [.long ((xs j2).toInt64), .long ((ys j2).toInt64), .long ((zs j2).toInt64)]) (rest := []) (h0_heightOf (kxL X) (kxD X) cI cJ cF cD ((xs j2).toInt64) ((ys j2).toInt64) ((zs j2).toInt64) hi) gX0_holdsAll_X0_heightOf rfl rfl rfl (by decide +kernel) ⟨Nat.le_of_ble_eq_true rfl, Nat.le_of_ble_eq_true rfl⟩ (15 + i) (wB_f hi) rfl rfl rfl (Nat.le_of_ble_eq_true rfl) dX0_holdsAll_32 (Nat.zero_le _) (Nat.zero_le _) (fun r w hw => ?_)
      obtain ⟨rfl, rfl⟩ := hw
      refine k_lconst C (v := 0) dX0_holdsAll_35 (by decide) ?_
      refine k_lc_eq C 42 dX0_holdsAll_36 dX0_holdsAll_37 (by decide) (fun h_2 => ?_) (fun h_2 => ?_)
      · refine k_iinc C (v := (nI (j2 + 1))) (lv' := [(2, .int (nI (j2 + 1))), (0, .ref (fa i)), (1, .ref (ba 1))]) 2 dX0_holdsAll_42 rfl (nI_1 _) (by decide) rfl ?_
        refine k_goto C 2 dX0_holdsAll_45 (by decide) ?_
        exact k_lv [1, 2, 0] rfl (ih2 (j2 + 1) (by omega) (by omega) (by rw [allB, g2_0]; simpa [tH] using h_2))
      · refine k_iconst C (v := (nI 0)) dX0_holdsAll_40 (by decide) ?_
        exact hret _ _ _ _ ⟨by rw [show allB np (fun k => (tH nx ny nz dd i xs ys zs) k == 0) = false from allB_false (j := j2 + 1) (by rw [allB, g2_0]; simpa [tH] using h_2) (by omega)]; rfl, rfl⟩ dX0_holdsAll_41
set_option maxHeartbeats 4000000 in
set_option maxRecDepth 100000 in
theorem h0_turnOutside (l : Launch) (D : va_G) (cI cJ cF cD : ClassId) {ba fa ra : Nat → Nat} {hb : Int32} {ps : Int32} {fc : Int32} {co : Int32} {ec : Int32} {sx : Int64} {tr : Nat} {pm : Nat → Nat} {xs : Nat → Int32} {ys : Nat → Int32} {zs : Nat → Int32} {ax : Nat → Int32} {ay : Nat → Int32} {az : Nat → Int32} {al : Nat → Int32} {el : Nat → Nat} {eh : Nat → Nat} {mo : Nat → Int64} {nx : Nat → Int64} {ny : Nat → Int64} {nz : Nat → Int64} {dd : Nat → Int64} {hd : Nat → Int32} {sz : Nat → Nat} {rn : Nat → Nat → Nat} {i nh : Nat} (hi : i < 45) (hh : nh ≤ 24) : CtI l D (tyG cI cJ cF cD) yX0_turnOutside wsX0_turnOutside ({ frames := 1, cells := 0, slots := 0, locals := 26 }) [.ref (fa i), .ref (ba 6)] (wB ba fa ra cI cJ cF hb ps fc co ec (nI nh) sx tr pm xs ys zs ax ay az al el eh mo nx ny nz dd hd sz rn) (fun r w => ((upB (tH nx ny nz dd i ax ay az) nh && dnB (tH nx ny nz dd i ax ay az) nh) = true ∧ r = b2i false ∧ ∃ h9 : Int32, w = (wB ba fa ra cI cJ cF hb ps fc co ec (nI nh) sx tr pm xs ys zs ax ay az al el eh mo nx ny nz dd (upd hd i h9) sz rn)) ∨ ((upB (tH nx ny nz dd i ax ay az) nh && dnB (tH nx ny nz dd i ax ay az) nh) = false ∧ r = b2i true ∧ w = (wB ba fa ra cI cJ cF hb ps fc co ec (nI nh) sx tr pm xs ys zs ax ay az al el eh mo (ngI (upB (tH nx ny nz dd i ax ay az) nh) nx i) (ngI (upB (tH nx ny nz dd i ax ay az) nh) ny i) (ngI (upB (tH nx ny nz dd i ax ay az) nh) nz i) (ngI (upB (tH nx ny nz dd i ax ay az) nh) dd i) (upd hd i (btI (tH nx ny nz dd i ax ay az) nh)) sz rn))) := by
  refine ctZ_of (cc := cX0_turnOutside) (maxL := 7) (by decide) rfl (Nat.le_of_ble_eq_true rfl) (fun r w h => by rcases h with ⟨_, h, _⟩ | ⟨_, h, _⟩ <;> rw [h] <;> exact b2i_01 _) ?_
  intro X hXl hXd C hret
  have lk0 : Cond.fieldLink RX0 51 "HullBuilder$Face" "held" "I" ∈ wsX0_turnOutside := by decide +kernel
  have hinX0 : ∀ w ∈ wsX00, w ∈ wsX0_turnOutside := by decide +kernel
  have lk2 : Cond.fieldLinkNest RX0 43 "HullBuilder$Points" "size" "I" "HullBuilder" ∈ kNW := by decide +kernel
  have hinX2 : ∀ w ∈ wsX20, w ∈ wsX0_turnOutside := by decide +kernel
  have lk4 : Cond.fieldLink RX0 27 "HullBuilder$Face" "nx" "J" ∈ wsX0_turnOutside := by decide +kernel
  have lk5 : Cond.fieldLink RX0 34 "HullBuilder$Face" "ny" "J" ∈ wsX0_turnOutside := by decide +kernel
  have lk6 : Cond.fieldLink RX0 37 "HullBuilder$Face" "nz" "J" ∈ wsX0_turnOutside := by decide +kernel
  have lk7 : Cond.fieldLink RX0 40 "HullBuilder$Face" "distance" "J" ∈ wsX0_turnOutside := by decide +kernel
  have lk8 : Cond.fieldLinkNest RX0 31 "HullBuilder$Points" "xs" "[I" "HullBuilder" ∈ kNW := by decide +kernel
  have lk9 : Cond.fieldLinkNest RX0 15 "HullBuilder$Points" "ys" "[I" "HullBuilder" ∈ kNW := by decide +kernel
  have lk10 : Cond.fieldLinkNest RX0 20 "HullBuilder$Points" "zs" "[I" "HullBuilder" ∈ kNW := by decide +kernel
  show Kw X 0 0 (wB ba fa ra cI cJ cF hb ps fc co ec (nI nh) sx tr pm xs ys zs ax ay az al el eh mo nx ny nz dd hd sz rn) 0 [(0, .ref (fa i)), (1, .ref (ba 6))] []
  refine k_iconst C (v := (nI 0)) dX0_turnOutside_0 (by decide) ?_
  refine k_istore_n C (lv' := [(2, .int (nI 0)), (0, .ref (fa i)), (1, .ref (ba 6))]) dX0_turnOutside_1 rfl (by decide) rfl ?_
  refine k_iconst C (v := (nI 0)) dX0_turnOutside_2 (by decide) ?_
  refine k_istore_n C (lv' := [(3, .int (nI 0)), (2, .int (nI 0)), (0, .ref (fa i)), (1, .ref (ba 6))]) dX0_turnOutside_3 rfl (by decide) rfl ?_
  refine k_aload_n C 2 dX0_turnOutside_4 rfl rfl ?_
  refine k_iconst C (v := (nI 0)) dX0_turnOutside_5 (by decide) ?_
  refine k_put C (ws' := (wB ba fa ra cI cJ cF hb ps fc co ec (nI nh) sx tr pm xs ys zs ax ay az al el eh mo nx ny nz dd (upd hd i (nI 0)) sz rn)) hinX0 tyX0 tyX0_ok nmX0 (15 + i) 4 (wB_f hi) rfl (by decide) lk0 rfl rfl rfl rfl (Nat.le_of_ble_eq_true rfl) (wB_shd hi _) dX0_turnOutside_6 ?_
  refine k_iconst C (v := (nI 0)) dX0_turnOutside_9 (by decide) ?_
  refine k_istore C (lv' := [(4, .int (nI 0)), (3, .int (nI 0)), (2, .int (nI 0)), (0, .ref (fa i)), (1, .ref (ba 6))]) dX0_turnOutside_10 (by decide) rfl ?_
  suffices L12 : ∀ (n12 j12 : Nat), j12 ≤ nh → nh + 1 ≤ j12 + n12 → (upB (tH nx ny nz dd i ax ay az) j12 && dnB (tH nx ny nz dd i ax ay az) j12) = false → Kw X 0 0 (wB ba fa ra cI cJ cF hb ps fc co ec (nI nh) sx tr pm xs ys zs ax ay az al el eh mo nx ny nz dd (upd hd i (btI (tH nx ny nz dd i ax ay az) j12)) sz rn) 12 [(0, .ref (fa i)), (1, .ref (ba 6)), (2, .int (b2i (upB (tH nx ny nz dd i ax ay az) j12))), (3, .int (b2i (dnB (tH nx ny nz dd i ax ay az) j12))), (4, .int (nI j12))] [] by
    have e10_0 : (nI 0) = (b2i (upB (tH nx ny nz dd i ax ay az) 0)) := rfl
    have e11_1 : (nI 0) = (b2i (dnB (tH nx ny nz dd i ax ay az) 0)) := rfl
    have w12_0 : (upd hd i (nI 0)) = (upd hd i (btI (tH nx ny nz dd i ax ay az) 0)) := rfl
    refine k_ws (ws' := (wB ba fa ra cI cJ cF hb ps fc co ec (nI nh) sx tr pm xs ys zs ax ay az al el eh mo nx ny nz dd (upd hd i (btI (tH nx ny nz dd i ax ay az) 0)) sz rn)) (by rw [← w12_0]) ?_
    exact k_lv [3, 4, 2, 1, 0] (by rw [← e10_0, ← e11_1]; rfl) (L12 (nh + 1) 0 (by omega) (by omega) rfl)
  intro n12
  induction n12 with
  | zero => intro j12 a1 a2; exact absurd a2 (by omega)
  | succ n12 ih12 =>
    intro j12 b12 c12 g12_0
    refine k_iload C 4 dX0_turnOutside_12 rfl ?_
    refine k_aload_n C 1 dX0_turnOutside_14 rfl rfl ?_
    refine k_getN C hinX2 6 3 rfl rfl (by decide) lk2 rfl rfl dX0_turnOutside_15 ?_
    refine k_icmp_geN C (by omega) (by omega) 104 dX0_turnOutside_18 (by decide) (fun h_1 => ?_) (fun h_1 => ?_)
    · have ej : nh = j12 := by omega
      subst ej
      refine k_ws (ws' := (wB ba fa ra cI cJ cF hb ps fc co ec (nI nh) sx tr pm xs ys zs ax ay az al el eh mo nx ny nz dd (upd hd i (btI (tH nx ny nz dd i ax ay az) nh)) sz rn)) rfl ?_
      refine k_lv (lv' := [(0, .ref (fa i)), (1, .ref (ba 6)), (2, .int (b2i (upB (tH nx ny nz dd i ax ay az) nh))), (3, .int (b2i (dnB (tH nx ny nz dd i ax ay az) nh))), (4, .int (nI nh))]) [0, 1, 2, 3, 4] rfl ?_
      refine k_iload_n C 2 dX0_turnOutside_104 rfl rfl ?_
      refine k_if_eqB C 144 dX0_turnOutside_105 (by decide) (fun h_2 => ?_) (fun h_2 => ?_)
      · refine k_iconst C (v := (nI 1)) dX0_turnOutside_144 (by decide) ?_
        exact hret _ _ _ _ (Or.inr ⟨g12_0, rfl, by simp only [ngI, h_2]; rfl⟩) dX0_turnOutside_145
      · refine k_aload_n C 0 dX0_turnOutside_108 rfl rfl ?_
        refine k_aload_n C 0 dX0_turnOutside_109 rfl rfl ?_
        refine k_get C hinX0 (15 + i) 0 (wB_f hi) rfl (by decide) lk4 rfl rfl dX0_turnOutside_110 ?_
        refine k_lneg C dX0_turnOutside_113 ?_
        refine k_put C (ws' := (wB ba fa ra cI cJ cF hb ps fc co ec (nI nh) sx tr pm xs ys zs ax ay az al el eh mo (vp_updL nx i (-(nx i))) ny nz dd (upd hd i (btI (tH nx ny nz dd i ax ay az) nh)) sz rn)) hinX0 tyX0 tyX0_ok nmX0 (15 + i) 0 (wB_f hi) rfl (by decide) lk4 rfl rfl rfl rfl (Nat.le_of_ble_eq_true rfl) (wB_snx hi _) dX0_turnOutside_114 ?_
        refine k_aload_n C 0 dX0_turnOutside_117 rfl rfl ?_
        refine k_aload_n C 0 dX0_turnOutside_118 rfl rfl ?_
        refine k_get C hinX0 (15 + i) 1 (wB_f hi) rfl (by decide) lk5 rfl rfl dX0_turnOutside_119 ?_
        refine k_lneg C dX0_turnOutside_122 ?_
        refine k_put C (ws' := (wB ba fa ra cI cJ cF hb ps fc co ec (nI nh) sx tr pm xs ys zs ax ay az al el eh mo (vp_updL nx i (-(nx i))) (vp_updL ny i (-(ny i))) nz dd (upd hd i (btI (tH nx ny nz dd i ax ay az) nh)) sz rn)) hinX0 tyX0 tyX0_ok nmX0 (15 + i) 1 (wB_f hi) rfl (by decide) lk5 rfl rfl rfl rfl (Nat.le_of_ble_eq_true rfl) (wB_sny hi _) dX0_turnOutside_123 ?_
        refine k_aload_n C 0 dX0_turnOutside_126 rfl rfl ?_
        refine k_aload_n C 0 dX0_turnOutside_127 rfl rfl ?_
        refine k_get C hinX0 (15 + i) 2 (wB_f hi) rfl (by decide) lk6 rfl rfl dX0_turnOutside_128 ?_
        refine k_lneg C dX0_turnOutside_131 ?_
        refine k_put C (ws' := (wB ba fa ra cI cJ cF hb ps fc co ec (nI nh) sx tr pm xs ys zs ax ay az al el eh mo (vp_updL nx i (-(nx i))) (vp_updL ny i (-(ny i))) (vp_updL nz i (-(nz i))) dd (upd hd i (btI (tH nx ny nz dd i ax ay az) nh)) sz rn)) hinX0 tyX0 tyX0_ok nmX0 (15 + i) 2 (wB_f hi) rfl (by decide) lk6 rfl rfl rfl rfl (Nat.le_of_ble_eq_true rfl) (wB_snz hi _) dX0_turnOutside_132 ?_
        refine k_aload_n C 0 dX0_turnOutside_135 rfl rfl ?_
        refine k_aload_n C 0 dX0_turnOutside_136 rfl rfl ?_
        refine k_get C hinX0 (15 + i) 3 (wB_f hi) rfl (by decide) lk7 rfl rfl dX0_turnOutside_137 ?_
        refine k_lneg C dX0_turnOutside_140 ?_
        refine k_put C (ws' := (wB ba fa ra cI cJ cF hb ps fc co ec (nI nh) sx tr pm xs ys zs ax ay az al el eh mo (vp_updL nx i (-(nx i))) (vp_updL ny i (-(ny i))) (vp_updL nz i (-(nz i))) (vp_updL dd i (-(dd i))) (upd hd i (btI (tH nx ny nz dd i ax ay az) nh)) sz rn)) hinX0 tyX0 tyX0_ok nmX0 (15 + i) 3 (wB_f hi) rfl (by decide) lk7 rfl rfl rfl rfl (Nat.le_of_ble_eq_true rfl) (wB_sdd hi _) dX0_turnOutside_141 ?_
        refine k_iconst C (v := (nI 1)) dX0_turnOutside_144 (by decide) ?_
        exact hret _ _ _ _ (Or.inr ⟨g12_0, rfl, by simp only [ngI, h_2]; rfl⟩) dX0_turnOutside_145
    · refine k_aload_n C 0 dX0_turnOutside_21 rfl rfl ?_
      refine k_aload_n C 1 dX0_turnOutside_22 rfl rfl ?_
      refine k_getN C hinX2 6 0 rfl rfl (by decide) lk8 rfl rfl dX0_turnOutside_23 ?_
      refine k_iload C 4 dX0_turnOutside_26 rfl ?_
      refine k_iald C (j := j12) 7 0 rfl rfl (by omega) (by decide) dX0_turnOutside_28 ?_
      refine k_i2l C dX0_turnOutside_29 ?_
      refine k_aload_n C 1 dX0_turnOutside_30 rfl rfl ?_
      refine k_getN C hinX2 6 1 rfl rfl (by decide) lk9 rfl rfl dX0_turnOutside_31 ?_
      refine k_iload C 4 dX0_turnOutside_34 rfl ?_
      refine k_iald C (j := j12) 8 0 rfl rfl (by omega) (by decide) dX0_turnOutside_36 ?_
      refine k_i2l C dX0_turnOutside_37 ?_
      refine k_aload_n C 1 dX0_turnOutside_38 rfl rfl ?_
      refine k_getN C hinX2 6 2 rfl rfl (by decide) lk10 rfl rfl dX0_turnOutside_39 ?_
      refine k_iload C 4 dX0_turnOutside_42 rfl ?_
      refine k_iald C (j := j12) 9 0 rfl rfl (by omega) (by decide) dX0_turnOutside_44 ?_
      refine k_i2l C dX0_turnOutside_45 ?_
      refine k_callVL C (ar := 3) (As := [.long ((ax j12).toInt64), .long ((ay j12).toInt64), .long ((az j12).toInt64)]) (rest := []) (h0_heightOf (kxL X) (kxD X) cI cJ cF cD ((ax j12).toInt64) ((ay j12).toInt64) ((az j12).toInt64) hi) gX0_turnOutside_X0_heightOf rfl rfl rfl (by decide +kernel) ⟨Nat.le_of_ble_eq_true rfl, Nat.le_of_ble_eq_true rfl⟩ (15 + i) (wB_f hi) rfl rfl rfl (Nat.le_of_ble_eq_true rfl) dX0_turnOutside_46 (Nat.zero_le _) (Nat.zero_le _) (fun r w hw => ?_)
      obtain ⟨rfl, rfl⟩ := hw
      refine k_topl ((tH nx ny nz dd i ax ay az) j12) rfl ?_
      refine k_lstore C (lv' := [(5, .long ((tH nx ny nz dd i ax ay az) j12)), (0, .ref (fa i)), (1, .ref (ba 6)), (2, .int (b2i (upB (tH nx ny nz dd i ax ay az) j12))), (3, .int (b2i (dnB (tH nx ny nz dd i ax ay az) j12))), (4, .int (nI j12))]) dX0_turnOutside_49 (by decide) rfl ?_
      have J88 : Kw X 0 0 (wB ba fa ra cI cJ cF hb ps fc co ec (nI nh) sx tr pm xs ys zs ax ay az al el eh mo nx ny nz dd (upd hd i (btI (tH nx ny nz dd i ax ay az) (j12 + 1))) sz rn) 88 [(0, .ref (fa i)), (1, .ref (ba 6)), (2, .int (b2i (upB (tH nx ny nz dd i ax ay az) (j12 + 1)))), (3, .int (b2i (dnB (tH nx ny nz dd i ax ay az) (j12 + 1)))), (4, .int (nI j12))] [] := by
        refine k_iload_n C 2 dX0_turnOutside_88 rfl rfl ?_
        refine k_if_eqB C 98 dX0_turnOutside_89 (by decide) (fun h_3 => ?_) (fun h_3 => ?_)
        · have hno : (upB (tH nx ny nz dd i ax ay az) (j12 + 1) && dnB (tH nx ny nz dd i ax ay az) (j12 + 1)) = false := by simp [h_3]
          refine k_iinc C (v := (nI (j12 + 1))) (lv' := [(4, .int (nI (j12 + 1))), (0, .ref (fa i)), (1, .ref (ba 6)), (2, .int (b2i (upB (tH nx ny nz dd i ax ay az) (j12 + 1)))), (3, .int (b2i (dnB (tH nx ny nz dd i ax ay az) (j12 + 1))))]) 4 dX0_turnOutside_98 rfl (nI_1 _) (by decide) rfl ?_
          refine k_goto C 12 dX0_turnOutside_101 (by decide) ?_
          exact k_lv [1, 2, 3, 4, 0] rfl (ih12 (j12 + 1) (by omega) (by omega) hno)
        · refine k_iload_n C 3 dX0_turnOutside_92 rfl rfl ?_
          refine k_if_eqB C 98 dX0_turnOutside_93 (by decide) (fun h_4 => ?_) (fun h_4 => ?_)
          · have hno : (upB (tH nx ny nz dd i ax ay az) (j12 + 1) && dnB (tH nx ny nz dd i ax ay az) (j12 + 1)) = false := by simp [h_4]
            refine k_iinc C (v := (nI (j12 + 1))) (lv' := [(4, .int (nI (j12 + 1))), (0, .ref (fa i)), (1, .ref (ba 6)), (2, .int (b2i (upB (tH nx ny nz dd i ax ay az) (j12 + 1)))), (3, .int (b2i (dnB (tH nx ny nz dd i ax ay az) (j12 + 1))))]) 4 dX0_turnOutside_98 rfl (nI_1 _) (by decide) rfl ?_
            refine k_goto C 12 dX0_turnOutside_101 (by decide) ?_
            exact k_lv [1, 2, 3, 4, 0] rfl (ih12 (j12 + 1) (by omega) (by omega) hno)
          · refine k_iconst C (v := (nI 0)) dX0_turnOutside_96 (by decide) ?_
            exact hret _ _ _ _ (Or.inl ⟨by rw [show upB (tH nx ny nz dd i ax ay az) nh = true from anyB_mono (j := j12 + 1) h_3 (by omega), show dnB (tH nx ny nz dd i ax ay az) nh = true from anyB_mono (j := j12 + 1) h_4 (by omega)]; rfl, rfl, _, rfl⟩) dX0_turnOutside_97
      refine k_lload C 0 dX0_turnOutside_51 rfl ?_
      refine k_lconst C (v := 0) dX0_turnOutside_53 (by decide) ?_
      refine k_lc_le C 63 dX0_turnOutside_54 dX0_turnOutside_55 (by decide) (fun h_5 => ?_) (fun h_5 => ?_)
      · refine k_lload C 0 dX0_turnOutside_63 rfl ?_
        refine k_lconst C (v := 0) dX0_turnOutside_65 (by decide) ?_
        refine k_lc_ge C 75 dX0_turnOutside_66 dX0_turnOutside_67 (by decide) (fun h_6 => ?_) (fun h_6 => ?_)
        · have hq1 : ¬ 0 < (tH nx ny nz dd i ax ay az) j12 := h_5
          have hq2 : ¬ (tH nx ny nz dd i ax ay az) j12 < 0 := h_6
          have hz9 : (tH nx ny nz dd i ax ay az) j12 = 0 := i64_zero h_5 h_6
          refine k_aload_n C 1 dX0_turnOutside_75 rfl rfl ?_
          refine k_dup C dX0_turnOutside_76 rfl ?_
          refine k_get C hinX0 (15 + i) 4 (wB_f hi) rfl (by decide) lk0 rfl rfl dX0_turnOutside_77 ?_
          refine k_topi (btI (tH nx ny nz dd i ax ay az) j12) (by simp [vp_updL, upd, updN]) ?_
          refine k_iconst C (v := (nI 1)) dX0_turnOutside_80 (by decide) ?_
          refine k_iload C 5 dX0_turnOutside_81 rfl ?_
          refine k_ishl C dX0_turnOutside_83 ?_
          refine k_ior C dX0_turnOutside_84 ?_
          refine k_put C (ws' := (wB ba fa ra cI cJ cF hb ps fc co ec (nI nh) sx tr pm xs ys zs ax ay az al el eh mo nx ny nz dd (upd (upd hd i (btI (tH nx ny nz dd i ax ay az) j12)) i ((btI (tH nx ny nz dd i ax ay az) j12) ||| ((nI 1) <<< ((nI j12) &&& 31)))) sz rn)) hinX0 tyX0 tyX0_ok nmX0 (15 + i) 4 (wB_f hi) rfl (by decide) lk0 rfl rfl rfl rfl (Nat.le_of_ble_eq_true rfl) (wB_shd hi _) dX0_turnOutside_85 ?_
          have e110_0 : (b2i (upB (tH nx ny nz dd i ax ay az) j12)) = (b2i (upB (tH nx ny nz dd i ax ay az) (j12 + 1))) := by rw [upB_s]; simp [b2i, nI0, nI1, hq1, hq2]
          have e111_1 : (b2i (dnB (tH nx ny nz dd i ax ay az) j12)) = (b2i (dnB (tH nx ny nz dd i ax ay az) (j12 + 1))) := by rw [dnB_s]; simp [b2i, nI0, nI1, hq1, hq2]
          have w112_0 : (upd (upd hd i (btI (tH nx ny nz dd i ax ay az) j12)) i ((btI (tH nx ny nz dd i ax ay az) j12) ||| ((nI 1) <<< ((nI j12) &&& 31)))) = (upd hd i (btI (tH nx ny nz dd i ax ay az) (j12 + 1))) := by rw [btI, if_pos hz9, upd_uu]
          refine k_ws (ws' := (wB ba fa ra cI cJ cF hb ps fc co ec (nI nh) sx tr pm xs ys zs ax ay az al el eh mo nx ny nz dd (upd hd i (btI (tH nx ny nz dd i ax ay az) (j12 + 1))) sz rn)) (by rw [← w112_0]) ?_
          exact k_lv [1, 2, 3, 4, 5] (by rw [← e110_0, ← e111_1]; rfl) (J88)
        · have hq1 : ¬ 0 < (tH nx ny nz dd i ax ay az) j12 := h_5
          have hq2 : (tH nx ny nz dd i ax ay az) j12 < 0 := h_6
          have hz9 : ¬ (tH nx ny nz dd i ax ay az) j12 = 0 := fun e => by rw [e] at h_6; exact absurd h_6 (by decide)
          refine k_iconst C (v := (nI 1)) dX0_turnOutside_70 (by decide) ?_
          refine k_istore_n C (lv' := [(3, .int (nI 1)), (5, .long ((tH nx ny nz dd i ax ay az) j12)), (0, .ref (fa i)), (1, .ref (ba 6)), (2, .int (b2i (upB (tH nx ny nz dd i ax ay az) j12))), (4, .int (nI j12))]) dX0_turnOutside_71 rfl (by decide) rfl ?_
          refine k_goto C 88 dX0_turnOutside_72 (by decide) ?_
          have e121_0 : (b2i (upB (tH nx ny nz dd i ax ay az) j12)) = (b2i (upB (tH nx ny nz dd i ax ay az) (j12 + 1))) := by rw [upB_s]; simp [b2i, nI0, nI1, hq1, hq2]
          have e122_1 : (nI 1) = (b2i (dnB (tH nx ny nz dd i ax ay az) (j12 + 1))) := by rw [dnB_s]; simp [b2i, nI0, nI1, hq1, hq2]
          have w123_0 : (upd hd i (btI (tH nx ny nz dd i ax ay az) j12)) = (upd hd i (btI (tH nx ny nz dd i ax ay az) (j12 + 1))) := by rw [btI, if_neg hz9]
          refine k_ws (ws' := (wB ba fa ra cI cJ cF hb ps fc co ec (nI nh) sx tr pm xs ys zs ax ay az al el eh mo nx ny nz dd (upd hd i (btI (tH nx ny nz dd i ax ay az) (j12 + 1))) sz rn)) (by rw [← w123_0]) ?_
          exact k_lv [2, 3, 4, 0, 5] (by rw [← e121_0, ← e122_1]; rfl) (J88)
      · have hq1 : 0 < (tH nx ny nz dd i ax ay az) j12 := h_5
        have hq2 : ¬ (tH nx ny nz dd i ax ay az) j12 < 0 := Int64.lt_asymm h_5
        have hz9 : ¬ (tH nx ny nz dd i ax ay az) j12 = 0 := fun e => by rw [e] at h_5; exact absurd h_5 (by decide)
        refine k_iconst C (v := (nI 1)) dX0_turnOutside_58 (by decide) ?_
        refine k_istore_n C (lv' := [(2, .int (nI 1)), (5, .long ((tH nx ny nz dd i ax ay az) j12)), (0, .ref (fa i)), (1, .ref (ba 6)), (3, .int (b2i (dnB (tH nx ny nz dd i ax ay az) j12))), (4, .int (nI j12))]) dX0_turnOutside_59 rfl (by decide) rfl ?_
        refine k_goto C 88 dX0_turnOutside_60 (by decide) ?_
        have e131_0 : (nI 1) = (b2i (upB (tH nx ny nz dd i ax ay az) (j12 + 1))) := by rw [upB_s]; simp [b2i, nI0, nI1, hq1, hq2]
        have e132_1 : (b2i (dnB (tH nx ny nz dd i ax ay az) j12)) = (b2i (dnB (tH nx ny nz dd i ax ay az) (j12 + 1))) := by rw [dnB_s]; simp [b2i, nI0, nI1, hq1, hq2]
        have w133_0 : (upd hd i (btI (tH nx ny nz dd i ax ay az) j12)) = (upd hd i (btI (tH nx ny nz dd i ax ay az) (j12 + 1))) := by rw [btI, if_neg hz9]
        refine k_ws (ws' := (wB ba fa ra cI cJ cF hb ps fc co ec (nI nh) sx tr pm xs ys zs ax ay az al el eh mo nx ny nz dd (upd hd i (btI (tH nx ny nz dd i ax ay az) (j12 + 1))) sz rn)) (by rw [← w133_0]) ?_
        exact k_lv [2, 3, 0, 4, 5] (by rw [← e131_0, ← e132_1]; rfl) (J88)
set_option maxHeartbeats 4000000 in
set_option maxRecDepth 100000 in
theorem h0_shortenNormal (l : Launch) (D : va_G) (cI cJ cF cD : ClassId) {ba fa ra : Nat → Nat} {hb : Int32} {ps : Int32} {fc : Int32} {co : Int32} {ec : Int32} {asz : Int32} {sx : Int64} {tr : Nat} {pm : Nat → Nat} {xs : Nat → Int32} {ys : Nat → Int32} {zs : Nat → Int32} {ax : Nat → Int32} {ay : Nat → Int32} {az : Nat → Int32} {al : Nat → Int32} {el : Nat → Nat} {eh : Nat → Nat} {mo : Nat → Int64} {nx : Nat → Int64} {ny : Nat → Int64} {nz : Nat → Int64} {dd : Nat → Int64} {hd : Nat → Int32} {sz : Nat → Nat} {rn : Nat → Nat → Nat} {i : Nat} (hi : i < 45) : CtV l D (tyG cI cJ cF cD) yX0_shortenNormal wsX0_shortenNormal ({ frames := 1, cells := 0, slots := 0, locals := 26 }) [.ref (fa i)] (wB ba fa ra cI cJ cF hb ps fc co ec asz sx tr pm xs ys zs ax ay az al el eh mo nx ny nz dd hd sz rn) (fun w => w = (wB ba fa ra cI cJ cF hb ps fc co ec asz sx tr pm xs ys zs ax ay az al el eh mo (shI (cfA (cfA (nx i) (ny i)) (nz i)) nx i) (shI (cfA (cfA (nx i) (ny i)) (nz i)) ny i) (shI (cfA (cfA (nx i) (ny i)) (nz i)) nz i) (shI (cfA (cfA (nx i) (ny i)) (nz i)) dd i) hd sz rn)) := by
  refine ctV_of (cc := cX0_shortenNormal) (maxL := 3) (by decide) rfl (Nat.le_of_ble_eq_true rfl) ?_
  intro X hXl hXd C hret
  have lk0 : Cond.fieldLink RX0 27 "HullBuilder$Face" "nx" "J" ∈ wsX0_shortenNormal := by decide +kernel
  have hinX0 : ∀ w ∈ wsX00, w ∈ wsX0_shortenNormal := by decide +kernel
  have lk2 : Cond.fieldLink RX0 34 "HullBuilder$Face" "ny" "J" ∈ wsX0_shortenNormal := by decide +kernel
  have lk3 : Cond.methodLinkNest RX0 54 yX3_commonFactor "HullBuilder" ∈ kNW := by decide +kernel
  have lk4 : Cond.initialized RX3 ∈ wsX0_shortenNormal := by decide +kernel
  have lk5 : Cond.static yX3_commonFactor ∈ wsX0_shortenNormal := by decide +kernel
  have lk6 : Cond.fieldLink RX0 37 "HullBuilder$Face" "nz" "J" ∈ wsX0_shortenNormal := by decide +kernel
  have lk7 : Cond.fieldLink RX0 40 "HullBuilder$Face" "distance" "J" ∈ wsX0_shortenNormal := by decide +kernel
  show Kw X 0 0 (wB ba fa ra cI cJ cF hb ps fc co ec asz sx tr pm xs ys zs ax ay az al el eh mo nx ny nz dd hd sz rn) 0 [(0, .ref (fa i))] []
  refine k_aload_n C 0 dX0_shortenNormal_0 rfl rfl ?_
  refine k_get C hinX0 (15 + i) 0 (wB_f hi) rfl (by decide) lk0 rfl rfl dX0_shortenNormal_1 ?_
  refine k_aload_n C 0 dX0_shortenNormal_4 rfl rfl ?_
  refine k_get C hinX0 (15 + i) 1 (wB_f hi) rfl (by decide) lk2 rfl rfl dX0_shortenNormal_5 ?_
  refine k_callSNL C (ar := 2) (As := [.long (nx i), .long (ny i)]) (rest := []) (h3_commonFactor (kxL X) (kxD X) cI cJ cF cD _ (nx i) (ny i)) ggX0_shortenNormal_X3_commonFactor rfl rfl rfl lk3 lk4 lk5 (by decide +kernel) ⟨Nat.le_of_ble_eq_true rfl, Nat.le_of_ble_eq_true rfl⟩ rfl rfl (Nat.le_of_ble_eq_true rfl) dX0_shortenNormal_8 (Nat.zero_le _) (Nat.zero_le _) (fun r w hw => ?_)
  obtain ⟨rfl, rfl⟩ := hw
  refine k_aload_n C 0 dX0_shortenNormal_11 rfl rfl ?_
  refine k_get C hinX0 (15 + i) 2 (wB_f hi) rfl (by decide) lk6 rfl rfl dX0_shortenNormal_12 ?_
  refine k_callSNL C (ar := 2) (As := [.long (cfA (nx i) (ny i)), .long (nz i)]) (rest := []) (h3_commonFactor (kxL X) (kxD X) cI cJ cF cD _ (cfA (nx i) (ny i)) (nz i)) ggX0_shortenNormal_X3_commonFactor rfl rfl rfl lk3 lk4 lk5 (by decide +kernel) ⟨Nat.le_of_ble_eq_true rfl, Nat.le_of_ble_eq_true rfl⟩ rfl rfl (Nat.le_of_ble_eq_true rfl) dX0_shortenNormal_15 (Nat.zero_le _) (Nat.zero_le _) (fun r w hw => ?_)
  obtain ⟨rfl, rfl⟩ := hw
  refine k_lstore_n C (lv' := [(1, .long (cfA (cfA (nx i) (ny i)) (nz i))), (0, .ref (fa i))]) dX0_shortenNormal_18 rfl (by decide) rfl ?_
  refine k_lload_n C 0 dX0_shortenNormal_19 rfl rfl ?_
  refine k_lconst C (v := 1) dX0_shortenNormal_20 (by decide) ?_
  refine k_lc_le C 65 dX0_shortenNormal_21 dX0_shortenNormal_22 (by decide) (fun h_1 => ?_) (fun h_1 => ?_)
  · exact hret _ _ _ (by simp only [shI]; first | simp only [if_pos h_1] | simp only [if_neg h_1]) dX0_shortenNormal_65
  · refine k_aload_n C 1 dX0_shortenNormal_25 rfl rfl ?_
    refine k_dup C dX0_shortenNormal_26 rfl ?_
    refine k_get C hinX0 (15 + i) 0 (wB_f hi) rfl (by decide) lk0 rfl rfl dX0_shortenNormal_27 ?_
    refine k_lload_n C 0 dX0_shortenNormal_30 rfl rfl ?_
    refine k_ldiv C dX0_shortenNormal_31 (by intro e; rw [e] at h_1; exact absurd h_1 (by decide)) ?_
    refine k_put C (ws' := (wB ba fa ra cI cJ cF hb ps fc co ec asz sx tr pm xs ys zs ax ay az al el eh mo (vp_updL nx i ((nx i) / (cfA (cfA (nx i) (ny i)) (nz i)))) ny nz dd hd sz rn)) hinX0 tyX0 tyX0_ok nmX0 (15 + i) 0 (wB_f hi) rfl (by decide) lk0 rfl rfl rfl rfl (Nat.le_of_ble_eq_true rfl) (wB_snx hi _) dX0_shortenNormal_32 ?_
    refine k_aload_n C 1 dX0_shortenNormal_35 rfl rfl ?_
    refine k_dup C dX0_shortenNormal_36 rfl ?_
    refine k_get C hinX0 (15 + i) 1 (wB_f hi) rfl (by decide) lk2 rfl rfl dX0_shortenNormal_37 ?_
    refine k_lload_n C 0 dX0_shortenNormal_40 rfl rfl ?_
    refine k_ldiv C dX0_shortenNormal_41 (by intro e; rw [e] at h_1; exact absurd h_1 (by decide)) ?_
    refine k_put C (ws' := (wB ba fa ra cI cJ cF hb ps fc co ec asz sx tr pm xs ys zs ax ay az al el eh mo (vp_updL nx i ((nx i) / (cfA (cfA (nx i) (ny i)) (nz i)))) (vp_updL ny i ((ny i) / (cfA (cfA (nx i) (ny i)) (nz i)))) nz dd hd sz rn)) hinX0 tyX0 tyX0_ok nmX0 (15 + i) 1 (wB_f hi) rfl (by decide) lk2 rfl rfl rfl rfl (Nat.le_of_ble_eq_true rfl) (wB_sny hi _) dX0_shortenNormal_42 ?_
    refine k_aload_n C 1 dX0_shortenNormal_45 rfl rfl ?_
    refine k_dup C dX0_shortenNormal_46 rfl ?_
    refine k_get C hinX0 (15 + i) 2 (wB_f hi) rfl (by decide) lk6 rfl rfl dX0_shortenNormal_47 ?_
    refine k_lload_n C 0 dX0_shortenNormal_50 rfl rfl ?_
    refine k_ldiv C dX0_shortenNormal_51 (by intro e; rw [e] at h_1; exact absurd h_1 (by decide)) ?_
    refine k_put C (ws' := (wB ba fa ra cI cJ cF hb ps fc co ec asz sx tr pm xs ys zs ax ay az al el eh mo (vp_updL nx i ((nx i) / (cfA (cfA (nx i) (ny i)) (nz i)))) (vp_updL ny i ((ny i) / (cfA (cfA (nx i) (ny i)) (nz i)))) (vp_updL nz i ((nz i) / (cfA (cfA (nx i) (ny i)) (nz i)))) dd hd sz rn)) hinX0 tyX0 tyX0_ok nmX0 (15 + i) 2 (wB_f hi) rfl (by decide) lk6 rfl rfl rfl rfl (Nat.le_of_ble_eq_true rfl) (wB_snz hi _) dX0_shortenNormal_52 ?_
    refine k_aload_n C 1 dX0_shortenNormal_55 rfl rfl ?_
    refine k_dup C dX0_shortenNormal_56 rfl ?_
    refine k_get C hinX0 (15 + i) 3 (wB_f hi) rfl (by decide) lk7 rfl rfl dX0_shortenNormal_57 ?_
    refine k_lload_n C 0 dX0_shortenNormal_60 rfl rfl ?_
    refine k_ldiv C dX0_shortenNormal_61 (by intro e; rw [e] at h_1; exact absurd h_1 (by decide)) ?_
    refine k_put C (ws' := (wB ba fa ra cI cJ cF hb ps fc co ec asz sx tr pm xs ys zs ax ay az al el eh mo (vp_updL nx i ((nx i) / (cfA (cfA (nx i) (ny i)) (nz i)))) (vp_updL ny i ((ny i) / (cfA (cfA (nx i) (ny i)) (nz i)))) (vp_updL nz i ((nz i) / (cfA (cfA (nx i) (ny i)) (nz i)))) (vp_updL dd i ((dd i) / (cfA (cfA (nx i) (ny i)) (nz i)))) hd sz rn)) hinX0 tyX0 tyX0_ok nmX0 (15 + i) 3 (wB_f hi) rfl (by decide) lk7 rfl rfl rfl rfl (Nat.le_of_ble_eq_true rfl) (wB_sdd hi _) dX0_shortenNormal_62 ?_
    exact hret _ _ _ (by simp only [shI]; first | simp only [if_pos h_1] | simp only [if_neg h_1]) dX0_shortenNormal_65
set_option maxHeartbeats 4000000 in
set_option maxRecDepth 100000 in
theorem h0_isRight (l : Launch) (D : va_G) (cI cJ cF cD : ClassId) {ba fa ra : Nat → Nat} {hb : Int32} {ps : Int32} {fc : Int32} {co : Int32} {ec : Int32} {asz : Int32} {sx : Int64} {tr : Nat} {pm : Nat → Nat} {xs : Nat → Int32} {ys : Nat → Int32} {zs : Nat → Int32} {ax : Nat → Int32} {ay : Nat → Int32} {az : Nat → Int32} {al : Nat → Int32} {el : Nat → Nat} {eh : Nat → Nat} {mo : Nat → Int64} {nx : Nat → Int64} {ny : Nat → Int64} {nz : Nat → Int64} {dd : Nat → Int64} {hd : Nat → Int32} {sz : Nat → Nat} {rn : Nat → Nat → Nat} {i a b c : Nat} (hi : i < 45) (ha : a < 24) (hb9 : b < 24) (hc : c < 24) : CtI l D (tyG cI cJ cF cD) yX0_isRight wsX0_isRight ({ frames := 1, cells := 0, slots := 0, locals := 24 }) [.ref (fa i), .ref (ba 6), .int (nI a), .int (nI b), .int (nI c)] (wB ba fa ra cI cJ cF hb ps fc co ec asz sx tr pm xs ys zs ax ay az al el eh mo nx ny nz dd hd sz rn) (fun r w => r = (b2i (rgtB (nx i) (ny i) (nz i) ax ay az a b c)) ∧ w = (wB ba fa ra cI cJ cF hb ps fc co ec asz sx tr pm xs ys zs ax ay az al el eh mo nx ny nz dd hd sz rn)) := by
  refine ctZ_of (cc := cX0_isRight) (maxL := 5) (by decide) rfl (Nat.le_of_ble_eq_true rfl) (fun r w h => h.1 ▸ b2i_01 _) ?_
  intro X hXl hXd C hret
  have lk0 : Cond.fieldLink RX0 27 "HullBuilder$Face" "nx" "J" ∈ wsX0_isRight := by decide +kernel
  have hinX0 : ∀ w ∈ wsX00, w ∈ wsX0_isRight := by decide +kernel
  have lk2 : Cond.fieldLinkNest RX0 15 "HullBuilder$Points" "ys" "[I" "HullBuilder" ∈ kNW := by decide +kernel
  have hinX2 : ∀ w ∈ wsX20, w ∈ wsX0_isRight := by decide +kernel
  have lk4 : Cond.fieldLinkNest RX0 20 "HullBuilder$Points" "zs" "[I" "HullBuilder" ∈ kNW := by decide +kernel
  have lk5 : Cond.methodLinkNest RX0 23 yX3_across "HullBuilder" ∈ kNW := by decide +kernel
  have lk6 : Cond.initialized RX3 ∈ wsX0_isRight := by decide +kernel
  have lk7 : Cond.static yX3_across ∈ wsX0_isRight := by decide +kernel
  have lk8 : Cond.fieldLink RX0 34 "HullBuilder$Face" "ny" "J" ∈ wsX0_isRight := by decide +kernel
  have lk9 : Cond.fieldLinkNest RX0 31 "HullBuilder$Points" "xs" "[I" "HullBuilder" ∈ kNW := by decide +kernel
  have lk10 : Cond.fieldLink RX0 37 "HullBuilder$Face" "nz" "J" ∈ wsX0_isRight := by decide +kernel
  show Kw X 0 0 (wB ba fa ra cI cJ cF hb ps fc co ec asz sx tr pm xs ys zs ax ay az al el eh mo nx ny nz dd hd sz rn) 0 [(0, .ref (fa i)), (1, .ref (ba 6)), (2, .int (nI a)), (3, .int (nI b)), (4, .int (nI c))] []
  refine k_aload_n C 0 dX0_isRight_0 rfl rfl ?_
  refine k_get C hinX0 (15 + i) 0 (wB_f hi) rfl (by decide) lk0 rfl rfl dX0_isRight_1 ?_
  refine k_aload_n C 1 dX0_isRight_4 rfl rfl ?_
  refine k_getN C hinX2 6 1 rfl rfl (by decide) lk2 rfl rfl dX0_isRight_5 ?_
  refine k_aload_n C 1 dX0_isRight_8 rfl rfl ?_
  refine k_getN C hinX2 6 2 rfl rfl (by decide) lk4 rfl rfl dX0_isRight_9 ?_
  refine k_iload_n C 2 dX0_isRight_12 rfl rfl ?_
  refine k_iload_n C 3 dX0_isRight_13 rfl rfl ?_
  refine k_iload C 4 dX0_isRight_14 rfl ?_
  refine k_callSNL C (ar := 5) (As := [.ref (ba 8), .ref (ba 9), .int (nI a), .int (nI b), .int (nI c)]) (rest := [.long (nx i)]) (h3_across (kxL X) (kxD X) cI cJ cF cD _ (q1 := 8) (q2 := 9) rfl rfl (by omega) (by omega) (by omega)) ggX0_isRight_X3_across rfl rfl rfl lk5 lk6 lk7 (by decide +kernel) ⟨Nat.le_of_ble_eq_true rfl, Nat.le_of_ble_eq_true rfl⟩ rfl rfl (Nat.le_of_ble_eq_true rfl) dX0_isRight_16 (Nat.zero_le _) (Nat.zero_le _) (fun r w hw => ?_)
  obtain ⟨rfl, rfl⟩ := hw
  refine k_lmul C dX0_isRight_19 ?_
  refine k_aload_n C 0 dX0_isRight_20 rfl rfl ?_
  refine k_get C hinX0 (15 + i) 1 (wB_f hi) rfl (by decide) lk8 rfl rfl dX0_isRight_21 ?_
  refine k_aload_n C 1 dX0_isRight_24 rfl rfl ?_
  refine k_getN C hinX2 6 2 rfl rfl (by decide) lk4 rfl rfl dX0_isRight_25 ?_
  refine k_aload_n C 1 dX0_isRight_28 rfl rfl ?_
  refine k_getN C hinX2 6 0 rfl rfl (by decide) lk9 rfl rfl dX0_isRight_29 ?_
  refine k_iload_n C 2 dX0_isRight_32 rfl rfl ?_
  refine k_iload_n C 3 dX0_isRight_33 rfl rfl ?_
  refine k_iload C 4 dX0_isRight_34 rfl ?_
  refine k_callSNL C (ar := 5) (As := [.ref (ba 9), .ref (ba 7), .int (nI a), .int (nI b), .int (nI c)]) (rest := [.long (ny i), .long ((nx i) * (acI ay az a b c))]) (h3_across (kxL X) (kxD X) cI cJ cF cD _ (q1 := 9) (q2 := 7) rfl rfl (by omega) (by omega) (by omega)) ggX0_isRight_X3_across rfl rfl rfl lk5 lk6 lk7 (by decide +kernel) ⟨Nat.le_of_ble_eq_true rfl, Nat.le_of_ble_eq_true rfl⟩ rfl rfl (Nat.le_of_ble_eq_true rfl) dX0_isRight_36 (Nat.zero_le _) (Nat.zero_le _) (fun r w hw => ?_)
  obtain ⟨rfl, rfl⟩ := hw
  refine k_lmul C dX0_isRight_39 ?_
  refine k_ladd C dX0_isRight_40 ?_
  refine k_aload_n C 0 dX0_isRight_41 rfl rfl ?_
  refine k_get C hinX0 (15 + i) 2 (wB_f hi) rfl (by decide) lk10 rfl rfl dX0_isRight_42 ?_
  refine k_aload_n C 1 dX0_isRight_45 rfl rfl ?_
  refine k_getN C hinX2 6 0 rfl rfl (by decide) lk9 rfl rfl dX0_isRight_46 ?_
  refine k_aload_n C 1 dX0_isRight_49 rfl rfl ?_
  refine k_getN C hinX2 6 1 rfl rfl (by decide) lk2 rfl rfl dX0_isRight_50 ?_
  refine k_iload_n C 2 dX0_isRight_53 rfl rfl ?_
  refine k_iload_n C 3 dX0_isRight_54 rfl rfl ?_
  refine k_iload C 4 dX0_isRight_55 rfl ?_
  refine k_callSNL C (ar := 5) (As := [.ref (ba 7), .ref (ba 8), .int (nI a), .int (nI b), .int (nI c)]) (rest := [.long (nz i), .long (((nx i) * (acI ay az a b c)) + ((ny i) * (acI az ax a b c)))]) (h3_across (kxL X) (kxD X) cI cJ cF cD _ (q1 := 7) (q2 := 8) rfl rfl (by omega) (by omega) (by omega)) ggX0_isRight_X3_across rfl rfl rfl lk5 lk6 lk7 (by decide +kernel) ⟨Nat.le_of_ble_eq_true rfl, Nat.le_of_ble_eq_true rfl⟩ rfl rfl (Nat.le_of_ble_eq_true rfl) dX0_isRight_57 (Nat.zero_le _) (Nat.zero_le _) (fun r w hw => ?_)
  obtain ⟨rfl, rfl⟩ := hw
  refine k_lmul C dX0_isRight_60 ?_
  refine k_ladd C dX0_isRight_61 ?_
  refine k_lconst C (v := 0) dX0_isRight_62 (by decide) ?_
  refine k_lc_ge C 71 dX0_isRight_63 dX0_isRight_64 (by decide) (fun h_1 => ?_) (fun h_1 => ?_)
  · refine k_iconst C (v := (nI 0)) dX0_isRight_71 (by decide) ?_
    exact hret _ _ _ _ ⟨by simp [rgtB, b2i, nI0, nI1, h_1], rfl⟩ dX0_isRight_72
  · refine k_iconst C (v := (nI 1)) dX0_isRight_67 (by decide) ?_
    refine k_goto C 72 dX0_isRight_68 (by decide) ?_
    exact hret _ _ _ _ ⟨by simp [rgtB, b2i, nI0, nI1, h_1], rfl⟩ dX0_isRight_72
set_option maxHeartbeats 4000000 in
set_option maxRecDepth 100000 in
theorem h0_nextRound (l : Launch) (D : va_G) (cI cJ cF cD : ClassId) {ba fa ra : Nat → Nat} {hb : Int32} {ps : Int32} {fc : Int32} {co : Int32} {ec : Int32} {sx : Int64} {tr : Nat} {pm : Nat → Nat} {xs : Nat → Int32} {ys : Nat → Int32} {zs : Nat → Int32} {ax : Nat → Int32} {ay : Nat → Int32} {az : Nat → Int32} {al : Nat → Int32} {el : Nat → Nat} {eh : Nat → Nat} {mo : Nat → Int64} {nx : Nat → Int64} {ny : Nat → Int64} {nz : Nat → Int64} {dd : Nat → Int64} {hd : Nat → Int32} {sz : Nat → Nat} {rn : Nat → Nat → Nat} {i nh he : Nat} (ow : Int32) (hi : i < 45) (hh : nh ≤ 24) (hhe : he < 24) : CtI l D (tyG cI cJ cF cD) yX0_nextRound wsX0_nextRound ({ frames := 2, cells := 0, slots := 0, locals := 48 }) [.ref (fa i), .ref (ba 6), .int ow, .int (nI he)] (wB ba fa ra cI cJ cF hb ps fc co ec (nI nh) sx tr pm xs ys zs ax ay az al el eh mo nx ny nz dd hd sz rn) (fun r w => r = (nI (nrN (rgtB (nx i) (ny i) (nz i) ax ay az) ow he nh)) ∧ w = (wB ba fa ra cI cJ cF hb ps fc co ec (nI nh) sx tr pm xs ys zs ax ay az al el eh mo nx ny nz dd hd sz rn)) := by
  refine ctI_of (cc := cX0_nextRound) (maxL := 6) (by decide) rfl (Nat.le_of_ble_eq_true rfl) ?_
  intro X hXl hXd C hret
  have lk0 : Cond.fieldLinkNest RX0 43 "HullBuilder$Points" "size" "I" "HullBuilder" ∈ kNW := by decide +kernel
  have hinX2 : ∀ w ∈ wsX20, w ∈ wsX0_nextRound := by decide +kernel
  have lk2 : Cond.methodLinkNest RX0 72 yX3_holds "HullBuilder" ∈ kNW := by decide +kernel
  have lk3 : Cond.initialized RX3 ∈ wsX0_nextRound := by decide +kernel
  have lk4 : Cond.static yX3_holds ∈ wsX0_nextRound := by decide +kernel
  show Kw X 0 0 (wB ba fa ra cI cJ cF hb ps fc co ec (nI nh) sx tr pm xs ys zs ax ay az al el eh mo nx ny nz dd hd sz rn) 0 [(0, .ref (fa i)), (1, .ref (ba 6)), (2, .int ow), (3, .int (nI he))] []
  refine k_iload_n C 3 dX0_nextRound_0 rfl rfl ?_
  refine k_istore C (lv' := [(4, .int (nI he)), (0, .ref (fa i)), (1, .ref (ba 6)), (2, .int ow), (3, .int (nI he))]) dX0_nextRound_1 (by decide) rfl ?_
  refine k_iconst C (v := (nI 0)) dX0_nextRound_3 (by decide) ?_
  refine k_istore C (lv' := [(5, .int (nI 0)), (4, .int (nI he)), (0, .ref (fa i)), (1, .ref (ba 6)), (2, .int ow), (3, .int (nI he))]) dX0_nextRound_4 (by decide) rfl ?_
  suffices L6 : ∀ (n6 j6 : Nat), j6 ≤ nh → nh + 1 ≤ j6 + n6 → Kw X 0 0 (wB ba fa ra cI cJ cF hb ps fc co ec (nI nh) sx tr pm xs ys zs ax ay az al el eh mo nx ny nz dd hd sz rn) 6 [(0, .ref (fa i)), (1, .ref (ba 6)), (2, .int ow), (3, .int (nI he)), (4, .int (nI (nrN (rgtB (nx i) (ny i) (nz i) ax ay az) ow he j6))), (5, .int (nI j6))] [] by
    have e5_0 : (nI he) = (nI (nrN (rgtB (nx i) (ny i) (nz i) ax ay az) ow he 0)) := rfl
    exact k_lv [2, 3, 4, 5, 1, 0] (by rw [← e5_0]; rfl) (L6 (nh + 1) 0 (by omega) (by omega))
  intro n6
  induction n6 with
  | zero => intro j6 a1 a2; exact absurd a2 (by omega)
  | succ n6 ih6 =>
    intro j6 b6 c6
    refine k_iload C 5 dX0_nextRound_6 rfl ?_
    refine k_aload_n C 1 dX0_nextRound_8 rfl rfl ?_
    refine k_getN C hinX2 6 3 rfl rfl (by decide) lk0 rfl rfl dX0_nextRound_9 ?_
    refine k_icmp_geN C (by omega) (by omega) 59 dX0_nextRound_12 (by decide) (fun h_1 => ?_) (fun h_1 => ?_)
    · refine k_iload C 4 dX0_nextRound_59 rfl ?_
      exact hret _ _ _ _ ⟨by rw [show j6 = nh by omega], rfl⟩ dX0_nextRound_61
    · have hnl : nrN (rgtB (nx i) (ny i) (nz i) ax ay az) ow he j6 < 24 := nrN_lt hhe j6 (by omega)
      refine k_iload C 5 dX0_nextRound_15 rfl ?_
      refine k_iload_n C 3 dX0_nextRound_17 rfl rfl ?_
      refine k_icmp_eqN C (by omega) (by omega) 53 dX0_nextRound_18 (by decide) (fun h_2 => ?_) (fun h_2 => ?_)
      · refine k_iinc C (v := (nI (j6 + 1))) (lv' := [(5, .int (nI (j6 + 1))), (0, .ref (fa i)), (1, .ref (ba 6)), (2, .int ow), (3, .int (nI he)), (4, .int (nI (nrN (rgtB (nx i) (ny i) (nz i) ax ay az) ow he j6)))]) 5 dX0_nextRound_53 rfl (nI_1 _) (by decide) rfl ?_
        refine k_goto C 6 dX0_nextRound_56 (by decide) ?_
        have e26_0 : (nI (nrN (rgtB (nx i) (ny i) (nz i) ax ay az) ow he j6)) = (nI (nrN (rgtB (nx i) (ny i) (nz i) ax ay az) ow he (j6 + 1))) := by rw [nrN, if_neg (by simp [h_1, h_2])]
        exact k_lv [1, 2, 3, 4, 5, 0] (by rw [← e26_0]; rfl) (ih6 (j6 + 1) (by omega) (by omega))
      · refine k_iload_n C 2 dX0_nextRound_21 rfl rfl ?_
        refine k_iload C 5 dX0_nextRound_22 rfl ?_
        refine k_callSNI C (ar := 2) (As := [.int ow, .int (nI j6)]) (rest := []) (h3_holds (kxL X) (kxD X) cI cJ cF cD _ ow j6) ggX0_nextRound_X3_holds rfl rfl rfl lk2 lk3 lk4 (by decide +kernel) ⟨Nat.le_of_ble_eq_true rfl, Nat.le_of_ble_eq_true rfl⟩ rfl rfl (Nat.le_of_ble_eq_true rfl) dX0_nextRound_24 (Nat.zero_le _) (Nat.zero_le _) (fun r w hw => ?_)
        obtain ⟨rfl, rfl⟩ := hw
        refine k_if_eqB C 53 dX0_nextRound_27 (by decide) (fun h_3 => ?_) (fun h_3 => ?_)
        · refine k_iinc C (v := (nI (j6 + 1))) (lv' := [(5, .int (nI (j6 + 1))), (0, .ref (fa i)), (1, .ref (ba 6)), (2, .int ow), (3, .int (nI he)), (4, .int (nI (nrN (rgtB (nx i) (ny i) (nz i) ax ay az) ow he j6)))]) 5 dX0_nextRound_53 rfl (nI_1 _) (by decide) rfl ?_
          refine k_goto C 6 dX0_nextRound_56 (by decide) ?_
          have e36_0 : (nI (nrN (rgtB (nx i) (ny i) (nz i) ax ay az) ow he j6)) = (nI (nrN (rgtB (nx i) (ny i) (nz i) ax ay az) ow he (j6 + 1))) := by rw [nrN, if_neg (by simp [h_1, h_2, h_3])]
          exact k_lv [1, 2, 3, 4, 5, 0] (by rw [← e36_0]; rfl) (ih6 (j6 + 1) (by omega) (by omega))
        · refine k_iload C 4 dX0_nextRound_30 rfl ?_
          refine k_iload_n C 3 dX0_nextRound_32 rfl rfl ?_
          refine k_icmp_eqN C (by omega) (by omega) 49 dX0_nextRound_33 (by decide) (fun h_4 => ?_) (fun h_4 => ?_)
          · refine k_iload C 5 dX0_nextRound_49 rfl ?_
            refine k_istore C (lv' := [(4, .int (nI j6)), (0, .ref (fa i)), (1, .ref (ba 6)), (2, .int ow), (3, .int (nI he)), (5, .int (nI j6))]) dX0_nextRound_51 (by decide) rfl ?_
            refine k_iinc C (v := (nI (j6 + 1))) (lv' := [(5, .int (nI (j6 + 1))), (4, .int (nI j6)), (0, .ref (fa i)), (1, .ref (ba 6)), (2, .int ow), (3, .int (nI he))]) 5 dX0_nextRound_53 rfl (nI_1 _) (by decide) rfl ?_
            refine k_goto C 6 dX0_nextRound_56 (by decide) ?_
            have e46_0 : (nI j6) = (nI (nrN (rgtB (nx i) (ny i) (nz i) ax ay az) ow he (j6 + 1))) := by rw [nrN, if_pos (by simp [h_1, h_2, h_3, h_4])]
            exact k_lv [2, 3, 4, 5, 1, 0] (by rw [← e46_0]; rfl) (ih6 (j6 + 1) (by omega) (by omega))
          · refine k_aload_n C 0 dX0_nextRound_36 rfl rfl ?_
            refine k_aload_n C 1 dX0_nextRound_37 rfl rfl ?_
            refine k_iload_n C 3 dX0_nextRound_38 rfl rfl ?_
            refine k_iload C 4 dX0_nextRound_39 rfl ?_
            refine k_iload C 5 dX0_nextRound_41 rfl ?_
            refine k_callVI C (ar := 4) (As := [.ref (ba 6), .int (nI he), .int (nI (nrN (rgtB (nx i) (ny i) (nz i) ax ay az) ow he j6)), .int (nI j6)]) (rest := []) (h0_isRight (kxL X) (kxD X) cI cJ cF cD hi (by omega) (by omega) (by omega)) gX0_nextRound_X0_isRight rfl rfl rfl (by decide +kernel) ⟨Nat.le_of_ble_eq_true rfl, Nat.le_of_ble_eq_true rfl⟩ (15 + i) (wB_f hi) rfl rfl rfl (Nat.le_of_ble_eq_true rfl) dX0_nextRound_43 (Nat.zero_le _) (Nat.zero_le _) (fun r w hw => ?_)
            obtain ⟨rfl, rfl⟩ := hw
            refine k_if_eqB C 53 dX0_nextRound_46 (by decide) (fun h_5 => ?_) (fun h_5 => ?_)
            · refine k_iinc C (v := (nI (j6 + 1))) (lv' := [(5, .int (nI (j6 + 1))), (0, .ref (fa i)), (1, .ref (ba 6)), (2, .int ow), (3, .int (nI he)), (4, .int (nI (nrN (rgtB (nx i) (ny i) (nz i) ax ay az) ow he j6)))]) 5 dX0_nextRound_53 rfl (nI_1 _) (by decide) rfl ?_
              refine k_goto C 6 dX0_nextRound_56 (by decide) ?_
              have e59_0 : (nI (nrN (rgtB (nx i) (ny i) (nz i) ax ay az) ow he j6)) = (nI (nrN (rgtB (nx i) (ny i) (nz i) ax ay az) ow he (j6 + 1))) := by rw [nrN, if_neg (by simp [h_1, h_2, h_3, h_4, h_5])]
              exact k_lv [1, 2, 3, 4, 5, 0] (by rw [← e59_0]; rfl) (ih6 (j6 + 1) (by omega) (by omega))
            · refine k_iload C 5 dX0_nextRound_49 rfl ?_
              refine k_istore C (lv' := [(4, .int (nI j6)), (0, .ref (fa i)), (1, .ref (ba 6)), (2, .int ow), (3, .int (nI he)), (5, .int (nI j6))]) dX0_nextRound_51 (by decide) rfl ?_
              refine k_iinc C (v := (nI (j6 + 1))) (lv' := [(5, .int (nI (j6 + 1))), (4, .int (nI j6)), (0, .ref (fa i)), (1, .ref (ba 6)), (2, .int ow), (3, .int (nI he))]) 5 dX0_nextRound_53 rfl (nI_1 _) (by decide) rfl ?_
              refine k_goto C 6 dX0_nextRound_56 (by decide) ?_
              have e65_0 : (nI j6) = (nI (nrN (rgtB (nx i) (ny i) (nz i) ax ay az) ow he (j6 + 1))) := by rw [nrN, if_pos (by simp [h_1, h_2, h_3, h_4, h_5])]
              exact k_lv [2, 3, 4, 5, 1, 0] (by rw [← e65_0]; rfl) (ih6 (j6 + 1) (by omega) (by omega))
set_option maxHeartbeats 4000000 in
set_option maxRecDepth 100000 in
theorem h0_rank (l : Launch) (D : va_G) (cI cJ cF cD : ClassId) {ba fa ra : Nat → Nat} {hb : Int32} {ps : Int32} {fc : Int32} {co : Int32} {ec : Int32} {asz : Int32} {sx : Int64} {tr : Nat} {pm : Nat → Nat} {xs : Nat → Int32} {ys : Nat → Int32} {zs : Nat → Int32} {ax : Nat → Int32} {ay : Nat → Int32} {az : Nat → Int32} {al : Nat → Int32} {el : Nat → Nat} {eh : Nat → Nat} {mo : Nat → Int64} {nx : Nat → Int64} {ny : Nat → Int64} {nz : Nat → Int64} {dd : Nat → Int64} {hd : Nat → Int32} {sz : Nat → Nat} {rn : Nat → Nat → Nat} {i : Nat} (hi : i < 45) : CtI l D (tyG cI cJ cF cD) yX0_rank wsX0_rank ({ frames := 1, cells := 0, slots := 0, locals := 21 }) [.ref (fa i)] (wB ba fa ra cI cJ cF hb ps fc co ec asz sx tr pm xs ys zs ax ay az al el eh mo nx ny nz dd hd sz rn) (fun r w => r = (nI ((rn i 0) * 24 + (rn i 1))) ∧ w = (wB ba fa ra cI cJ cF hb ps fc co ec asz sx tr pm xs ys zs ax ay az al el eh mo nx ny nz dd hd sz rn)) := by
  refine ctI_of (cc := cX0_rank) (maxL := 1) (by decide) rfl (Nat.le_of_ble_eq_true rfl) ?_
  intro X hXl hXd C hret
  have lk0 : Cond.fieldLink RX0 9 "HullBuilder$Face" "ring" "[I" ∈ wsX0_rank := by decide +kernel
  have hinX0 : ∀ w ∈ wsX00, w ∈ wsX0_rank := by decide +kernel
  have lk2 : Cond.methodLinkNest RX0 80 yX3_way "HullBuilder" ∈ kNW := by decide +kernel
  have lk3 : Cond.initialized RX3 ∈ wsX0_rank := by decide +kernel
  have lk4 : Cond.static yX3_way ∈ wsX0_rank := by decide +kernel
  show Kw X 0 0 (wB ba fa ra cI cJ cF hb ps fc co ec asz sx tr pm xs ys zs ax ay az al el eh mo nx ny nz dd hd sz rn) 0 [(0, .ref (fa i))] []
  refine k_aload_n C 0 dX0_rank_0 rfl rfl ?_
  refine k_get C hinX0 (15 + i) 5 (wB_f hi) rfl (by decide) lk0 rfl rfl dX0_rank_1 ?_
  refine k_iconst C (v := (nI 0)) dX0_rank_4 (by decide) ?_
  refine k_ialdN C (j := 0) (60 + i) 0 (wB_r hi) rfl (by omega) (by decide) dX0_rank_5 ?_
  refine k_aload_n C 0 dX0_rank_6 rfl rfl ?_
  refine k_get C hinX0 (15 + i) 5 (wB_f hi) rfl (by decide) lk0 rfl rfl dX0_rank_7 ?_
  refine k_iconst C (v := (nI 1)) dX0_rank_10 (by decide) ?_
  refine k_ialdN C (j := 1) (60 + i) 0 (wB_r hi) rfl (by omega) (by decide) dX0_rank_11 ?_
  refine k_callSNI C (ar := 2) (As := [.int (nI ((rn i) 0)), .int (nI ((rn i) 1))]) (rest := []) (h3_way (kxL X) (kxD X) cI cJ cF cD _ ((rn i) 0) ((rn i) 1)) ggX0_rank_X3_way rfl rfl rfl lk2 lk3 lk4 (by decide +kernel) ⟨Nat.le_of_ble_eq_true rfl, Nat.le_of_ble_eq_true rfl⟩ rfl rfl (Nat.le_of_ble_eq_true rfl) dX0_rank_12 (Nat.zero_le _) (Nat.zero_le _) (fun r w hw => ?_)
  obtain ⟨rfl, rfl⟩ := hw
  exact hret _ _ _ _ ⟨rfl, rfl⟩ dX0_rank_15
set_option maxHeartbeats 4000000 in
set_option maxRecDepth 100000 in
theorem h6_bitCount_0f7a4 (l : Launch) (D : va_G) (cI cJ cF cD : ClassId) (ws9 : va_W)  (x : Int32)  : CtI l D (tyG cI cJ cF cD) yJ6_bitCount_0f7a4 wsJ6_bitCount_0f7a4 ({ frames := 0, cells := 0, slots := 0, locals := 0 }) [.int x] ws9 (fun r w => r = (bcF x) ∧ w = ws9) := by
  refine ctI_of (cc := cJ6_bitCount_0f7a4) (maxL := 1) (by decide) rfl (Nat.le_of_ble_eq_true rfl) ?_
  intro X hXl hXd C hret
  have lk0 : Cond.constant RJ6 265 (1431655765) ∈ wsJ6_bitCount_0f7a4 := by decide +kernel
  have lk1 : Cond.constant RJ6 266 (858993459) ∈ wsJ6_bitCount_0f7a4 := by decide +kernel
  have lk2 : Cond.constant RJ6 267 (252645135) ∈ wsJ6_bitCount_0f7a4 := by decide +kernel
  show Kw X 0 0 ws9 0 [(0, .int x)] []
  refine k_iload_n C 0 dJ6_bitCount_0f7a4_0 rfl rfl ?_
  refine k_iload_n C 0 dJ6_bitCount_0f7a4_1 rfl rfl ?_
  refine k_iconst C (v := (nI 1)) dJ6_bitCount_0f7a4_2 (by decide) ?_
  refine k_iushr C dJ6_bitCount_0f7a4_3 ?_
  refine k_ldcw C (v := (nI 1431655765)) dJ6_bitCount_0f7a4_4 lk0 ?_
  refine k_iand C dJ6_bitCount_0f7a4_7 ?_
  refine k_isub C dJ6_bitCount_0f7a4_8 ?_
  refine k_istore_n C (lv' := [(0, .int (x - (((x.toUInt32 >>> ((nI 1).toUInt32 &&& Int32.toUInt32 31)).toInt32) &&& (nI 1431655765))))]) dJ6_bitCount_0f7a4_9 rfl (by decide) rfl ?_
  refine k_iload_n C 0 dJ6_bitCount_0f7a4_10 rfl rfl ?_
  refine k_ldcw C (v := (nI 858993459)) dJ6_bitCount_0f7a4_11 lk1 ?_
  refine k_iand C dJ6_bitCount_0f7a4_14 ?_
  refine k_iload_n C 0 dJ6_bitCount_0f7a4_15 rfl rfl ?_
  refine k_iconst C (v := (nI 2)) dJ6_bitCount_0f7a4_16 (by decide) ?_
  refine k_iushr C dJ6_bitCount_0f7a4_17 ?_
  refine k_ldcw C (v := (nI 858993459)) dJ6_bitCount_0f7a4_18 lk1 ?_
  refine k_iand C dJ6_bitCount_0f7a4_21 ?_
  refine k_iadd C dJ6_bitCount_0f7a4_22 ?_
  refine k_istore_n C (lv' := [(0, .int (((x - (((x.toUInt32 >>> ((nI 1).toUInt32 &&& Int32.toUInt32 31)).toInt32) &&& (nI 1431655765))) &&& (nI 858993459)) + ((((x - (((x.toUInt32 >>> ((nI 1).toUInt32 &&& Int32.toUInt32 31)).toInt32) &&& (nI 1431655765))).toUInt32 >>> ((nI 2).toUInt32 &&& Int32.toUInt32 31)).toInt32) &&& (nI 858993459))))]) dJ6_bitCount_0f7a4_23 rfl (by decide) rfl ?_
  refine k_iload_n C 0 dJ6_bitCount_0f7a4_24 rfl rfl ?_
  refine k_iload_n C 0 dJ6_bitCount_0f7a4_25 rfl rfl ?_
  refine k_iconst C (v := (nI 4)) dJ6_bitCount_0f7a4_26 (by decide) ?_
  refine k_iushr C dJ6_bitCount_0f7a4_27 ?_
  refine k_iadd C dJ6_bitCount_0f7a4_28 ?_
  refine k_ldcw C (v := (nI 252645135)) dJ6_bitCount_0f7a4_29 lk2 ?_
  refine k_iand C dJ6_bitCount_0f7a4_32 ?_
  refine k_istore_n C (lv' := [(0, .int (((((x - (((x.toUInt32 >>> ((nI 1).toUInt32 &&& Int32.toUInt32 31)).toInt32) &&& (nI 1431655765))) &&& (nI 858993459)) + ((((x - (((x.toUInt32 >>> ((nI 1).toUInt32 &&& Int32.toUInt32 31)).toInt32) &&& (nI 1431655765))).toUInt32 >>> ((nI 2).toUInt32 &&& Int32.toUInt32 31)).toInt32) &&& (nI 858993459))) + (((((x - (((x.toUInt32 >>> ((nI 1).toUInt32 &&& Int32.toUInt32 31)).toInt32) &&& (nI 1431655765))) &&& (nI 858993459)) + ((((x - (((x.toUInt32 >>> ((nI 1).toUInt32 &&& Int32.toUInt32 31)).toInt32) &&& (nI 1431655765))).toUInt32 >>> ((nI 2).toUInt32 &&& Int32.toUInt32 31)).toInt32) &&& (nI 858993459))).toUInt32 >>> ((nI 4).toUInt32 &&& Int32.toUInt32 31)).toInt32)) &&& (nI 252645135)))]) dJ6_bitCount_0f7a4_33 rfl (by decide) rfl ?_
  refine k_iload_n C 0 dJ6_bitCount_0f7a4_34 rfl rfl ?_
  refine k_iload_n C 0 dJ6_bitCount_0f7a4_35 rfl rfl ?_
  refine k_bipush C (v := (nI 8)) dJ6_bitCount_0f7a4_36 (by decide) ?_
  refine k_iushr C dJ6_bitCount_0f7a4_38 ?_
  refine k_iadd C dJ6_bitCount_0f7a4_39 ?_
  refine k_istore_n C (lv' := [(0, .int ((((((x - (((x.toUInt32 >>> ((nI 1).toUInt32 &&& Int32.toUInt32 31)).toInt32) &&& (nI 1431655765))) &&& (nI 858993459)) + ((((x - (((x.toUInt32 >>> ((nI 1).toUInt32 &&& Int32.toUInt32 31)).toInt32) &&& (nI 1431655765))).toUInt32 >>> ((nI 2).toUInt32 &&& Int32.toUInt32 31)).toInt32) &&& (nI 858993459))) + (((((x - (((x.toUInt32 >>> ((nI 1).toUInt32 &&& Int32.toUInt32 31)).toInt32) &&& (nI 1431655765))) &&& (nI 858993459)) + ((((x - (((x.toUInt32 >>> ((nI 1).toUInt32 &&& Int32.toUInt32 31)).toInt32) &&& (nI 1431655765))).toUInt32 >>> ((nI 2).toUInt32 &&& Int32.toUInt32 31)).toInt32) &&& (nI 858993459))).toUInt32 >>> ((nI 4).toUInt32 &&& Int32.toUInt32 31)).toInt32)) &&& (nI 252645135)) + (((((((x - (((x.toUInt32 >>> ((nI 1).toUInt32 &&& Int32.toUInt32 31)).toInt32) &&& (nI 1431655765))) &&& (nI 858993459)) + ((((x - (((x.toUInt32 >>> ((nI 1).toUInt32 &&& Int32.toUInt32 31)).toInt32) &&& (nI 1431655765))).toUInt32 >>> ((nI 2).toUInt32 &&& Int32.toUInt32 31)).toInt32) &&& (nI 858993459))) + (((((x - (((x.toUInt32 >>> ((nI 1).toUInt32 &&& Int32.toUInt32 31)).toInt32) &&& (nI 1431655765))) &&& (nI 858993459)) + ((((x - (((x.toUInt32 >>> ((nI 1).toUInt32 &&& Int32.toUInt32 31)).toInt32) &&& (nI 1431655765))).toUInt32 >>> ((nI 2).toUInt32 &&& Int32.toUInt32 31)).toInt32) &&& (nI 858993459))).toUInt32 >>> ((nI 4).toUInt32 &&& Int32.toUInt32 31)).toInt32)) &&& (nI 252645135)).toUInt32 >>> ((nI 8).toUInt32 &&& Int32.toUInt32 31)).toInt32)))]) dJ6_bitCount_0f7a4_40 rfl (by decide) rfl ?_
  refine k_iload_n C 0 dJ6_bitCount_0f7a4_41 rfl rfl ?_
  refine k_iload_n C 0 dJ6_bitCount_0f7a4_42 rfl rfl ?_
  refine k_bipush C (v := (nI 16)) dJ6_bitCount_0f7a4_43 (by decide) ?_
  refine k_iushr C dJ6_bitCount_0f7a4_45 ?_
  refine k_iadd C dJ6_bitCount_0f7a4_46 ?_
  refine k_istore_n C (lv' := [(0, .int (((((((x - (((x.toUInt32 >>> ((nI 1).toUInt32 &&& Int32.toUInt32 31)).toInt32) &&& (nI 1431655765))) &&& (nI 858993459)) + ((((x - (((x.toUInt32 >>> ((nI 1).toUInt32 &&& Int32.toUInt32 31)).toInt32) &&& (nI 1431655765))).toUInt32 >>> ((nI 2).toUInt32 &&& Int32.toUInt32 31)).toInt32) &&& (nI 858993459))) + (((((x - (((x.toUInt32 >>> ((nI 1).toUInt32 &&& Int32.toUInt32 31)).toInt32) &&& (nI 1431655765))) &&& (nI 858993459)) + ((((x - (((x.toUInt32 >>> ((nI 1).toUInt32 &&& Int32.toUInt32 31)).toInt32) &&& (nI 1431655765))).toUInt32 >>> ((nI 2).toUInt32 &&& Int32.toUInt32 31)).toInt32) &&& (nI 858993459))).toUInt32 >>> ((nI 4).toUInt32 &&& Int32.toUInt32 31)).toInt32)) &&& (nI 252645135)) + (((((((x - (((x.toUInt32 >>> ((nI 1).toUInt32 &&& Int32.toUInt32 31)).toInt32) &&& (nI 1431655765))) &&& (nI 858993459)) + ((((x - (((x.toUInt32 >>> ((nI 1).toUInt32 &&& Int32.toUInt32 31)).toInt32) &&& (nI 1431655765))).toUInt32 >>> ((nI 2).toUInt32 &&& Int32.toUInt32 31)).toInt32) &&& (nI 858993459))) + (((((x - (((x.toUInt32 >>> ((nI 1).toUInt32 &&& Int32.toUInt32 31)).toInt32) &&& (nI 1431655765))) &&& (nI 858993459)) + ((((x - (((x.toUInt32 >>> ((nI 1).toUInt32 &&& Int32.toUInt32 31)).toInt32) &&& (nI 1431655765))).toUInt32 >>> ((nI 2).toUInt32 &&& Int32.toUInt32 31)).toInt32) &&& (nI 858993459))).toUInt32 >>> ((nI 4).toUInt32 &&& Int32.toUInt32 31)).toInt32)) &&& (nI 252645135)).toUInt32 >>> ((nI 8).toUInt32 &&& Int32.toUInt32 31)).toInt32)) + ((((((((x - (((x.toUInt32 >>> ((nI 1).toUInt32 &&& Int32.toUInt32 31)).toInt32) &&& (nI 1431655765))) &&& (nI 858993459)) + ((((x - (((x.toUInt32 >>> ((nI 1).toUInt32 &&& Int32.toUInt32 31)).toInt32) &&& (nI 1431655765))).toUInt32 >>> ((nI 2).toUInt32 &&& Int32.toUInt32 31)).toInt32) &&& (nI 858993459))) + (((((x - (((x.toUInt32 >>> ((nI 1).toUInt32 &&& Int32.toUInt32 31)).toInt32) &&& (nI 1431655765))) &&& (nI 858993459)) + ((((x - (((x.toUInt32 >>> ((nI 1).toUInt32 &&& Int32.toUInt32 31)).toInt32) &&& (nI 1431655765))).toUInt32 >>> ((nI 2).toUInt32 &&& Int32.toUInt32 31)).toInt32) &&& (nI 858993459))).toUInt32 >>> ((nI 4).toUInt32 &&& Int32.toUInt32 31)).toInt32)) &&& (nI 252645135)) + (((((((x - (((x.toUInt32 >>> ((nI 1).toUInt32 &&& Int32.toUInt32 31)).toInt32) &&& (nI 1431655765))) &&& (nI 858993459)) + ((((x - (((x.toUInt32 >>> ((nI 1).toUInt32 &&& Int32.toUInt32 31)).toInt32) &&& (nI 1431655765))).toUInt32 >>> ((nI 2).toUInt32 &&& Int32.toUInt32 31)).toInt32) &&& (nI 858993459))) + (((((x - (((x.toUInt32 >>> ((nI 1).toUInt32 &&& Int32.toUInt32 31)).toInt32) &&& (nI 1431655765))) &&& (nI 858993459)) + ((((x - (((x.toUInt32 >>> ((nI 1).toUInt32 &&& Int32.toUInt32 31)).toInt32) &&& (nI 1431655765))).toUInt32 >>> ((nI 2).toUInt32 &&& Int32.toUInt32 31)).toInt32) &&& (nI 858993459))).toUInt32 >>> ((nI 4).toUInt32 &&& Int32.toUInt32 31)).toInt32)) &&& (nI 252645135)).toUInt32 >>> ((nI 8).toUInt32 &&& Int32.toUInt32 31)).toInt32)).toUInt32 >>> ((nI 16).toUInt32 &&& Int32.toUInt32 31)).toInt32)))]) dJ6_bitCount_0f7a4_47 rfl (by decide) rfl ?_
  refine k_iload_n C 0 dJ6_bitCount_0f7a4_48 rfl rfl ?_
  refine k_bipush C (v := (nI 63)) dJ6_bitCount_0f7a4_49 (by decide) ?_
  refine k_iand C dJ6_bitCount_0f7a4_51 ?_
  exact hret _ _ _ _ ⟨rfl, rfl⟩ dJ6_bitCount_0f7a4_52
set_option maxHeartbeats 4000000 in
set_option maxRecDepth 100000 in
theorem h6_numberOfTrailingZeros_0f7a4 (l : Launch) (D : va_G) (cI cJ cF cD : ClassId) (ws9 : va_W)  (x : Int32)  : CtI l D (tyG cI cJ cF cD) yJ6_numberOfTrailingZeros_0f7a4 wsJ6_numberOfTrailingZeros_0f7a4 ({ frames := 0, cells := 0, slots := 0, locals := 0 }) [.int x] ws9 (fun r w => r = (ntF x) ∧ w = ws9) := by
  refine ctI_of (cc := cJ6_numberOfTrailingZeros_0f7a4) (maxL := 2) (by decide) rfl (Nat.le_of_ble_eq_true rfl) ?_
  intro X hXl hXd C hret
  have lk0 : Cond.constant RJ6 264 (65536) ∈ wsJ6_numberOfTrailingZeros_0f7a4 := by decide +kernel
  show Kw X 0 0 ws9 0 [(0, .int x)] []
  refine k_iload_n C 0 dJ6_numberOfTrailingZeros_0f7a4_0 rfl rfl ?_
  refine k_iconst C (v := (-1)) dJ6_numberOfTrailingZeros_0f7a4_1 (by decide) ?_
  refine k_ixor C dJ6_numberOfTrailingZeros_0f7a4_2 ?_
  refine k_iload_n C 0 dJ6_numberOfTrailingZeros_0f7a4_3 rfl rfl ?_
  refine k_iconst C (v := (nI 1)) dJ6_numberOfTrailingZeros_0f7a4_4 (by decide) ?_
  refine k_isub C dJ6_numberOfTrailingZeros_0f7a4_5 ?_
  refine k_iand C dJ6_numberOfTrailingZeros_0f7a4_6 ?_
  refine k_istore_n C (lv' := [(0, .int ((x ^^^ (-1)) &&& (x - (nI 1))))]) dJ6_numberOfTrailingZeros_0f7a4_7 rfl (by decide) rfl ?_
  refine k_iload_n C 0 dJ6_numberOfTrailingZeros_0f7a4_8 rfl rfl ?_
  refine k_if_gt C 17 dJ6_numberOfTrailingZeros_0f7a4_9 (by decide) (fun h_1 => ?_) (fun h_1 => ?_)
  · refine k_iconst C (v := (nI 1)) dJ6_numberOfTrailingZeros_0f7a4_17 (by decide) ?_
    refine k_istore_n C (lv' := [(1, .int (nI 1)), (0, .int ((x ^^^ (-1)) &&& (x - (nI 1))))]) dJ6_numberOfTrailingZeros_0f7a4_18 rfl (by decide) rfl ?_
    refine k_iload_n C 1 dJ6_numberOfTrailingZeros_0f7a4_19 rfl rfl ?_
    refine k_ldcw C (v := (nI 65536)) dJ6_numberOfTrailingZeros_0f7a4_20 lk0 ?_
    refine k_icmp_le C 34 dJ6_numberOfTrailingZeros_0f7a4_23 (by decide) (fun h_2 => ?_) (fun h_2 => ?_)
    · refine k_iload_n C 1 dJ6_numberOfTrailingZeros_0f7a4_34 rfl rfl ?_
      refine k_sipush C (v := (nI 256)) dJ6_numberOfTrailingZeros_0f7a4_35 (by decide) ?_
      refine k_icmp_le C 49 dJ6_numberOfTrailingZeros_0f7a4_38 (by decide) (fun h_3 => ?_) (fun h_3 => ?_)
      · refine k_iload_n C 1 dJ6_numberOfTrailingZeros_0f7a4_49 rfl rfl ?_
        refine k_bipush C (v := (nI 16)) dJ6_numberOfTrailingZeros_0f7a4_50 (by decide) ?_
        refine k_icmp_le C 62 dJ6_numberOfTrailingZeros_0f7a4_52 (by decide) (fun h_4 => ?_) (fun h_4 => ?_)
        · refine k_iload_n C 1 dJ6_numberOfTrailingZeros_0f7a4_62 rfl rfl ?_
          refine k_iconst C (v := (nI 4)) dJ6_numberOfTrailingZeros_0f7a4_63 (by decide) ?_
          refine k_icmp_le C 74 dJ6_numberOfTrailingZeros_0f7a4_64 (by decide) (fun h_5 => ?_) (fun h_5 => ?_)
          · refine k_iload_n C 0 dJ6_numberOfTrailingZeros_0f7a4_74 rfl rfl ?_
            refine k_iload_n C 1 dJ6_numberOfTrailingZeros_0f7a4_75 rfl rfl ?_
            refine k_iconst C (v := (nI 1)) dJ6_numberOfTrailingZeros_0f7a4_76 (by decide) ?_
            refine k_iushr C dJ6_numberOfTrailingZeros_0f7a4_77 ?_
            refine k_iadd C dJ6_numberOfTrailingZeros_0f7a4_78 ?_
            exact hret _ _ _ _ ⟨((((((ntif_p (c := 0 < ntY x) h_1)).trans (by first | exact ntif_p h_2 | exact ntif_n h_2)).trans (by first | exact ntif_p h_3 | exact ntif_n h_3)).trans (by first | exact ntif_p h_4 | exact ntif_n h_4)).trans (by first | exact ntif_p h_5 | exact ntif_n h_5)).symm, rfl⟩ dJ6_numberOfTrailingZeros_0f7a4_79
          · refine k_iinc C (v := (nI (1 + 2))) (lv' := [(1, .int (nI (1 + 2))), (0, .int ((x ^^^ (-1)) &&& (x - (nI 1))))]) 0 dJ6_numberOfTrailingZeros_0f7a4_67 rfl (nI_add _ 2) (by decide) rfl ?_
            refine k_iload_n C 1 dJ6_numberOfTrailingZeros_0f7a4_70 rfl rfl ?_
            refine k_iconst C (v := (nI 2)) dJ6_numberOfTrailingZeros_0f7a4_71 (by decide) ?_
            refine k_iushr C dJ6_numberOfTrailingZeros_0f7a4_72 ?_
            refine k_istore_n C (lv' := [(0, .int ((((x ^^^ (-1)) &&& (x - (nI 1))).toUInt32 >>> ((nI 2).toUInt32 &&& Int32.toUInt32 31)).toInt32)), (1, .int (nI (1 + 2)))]) dJ6_numberOfTrailingZeros_0f7a4_73 rfl (by decide) rfl ?_
            refine k_iload_n C 1 dJ6_numberOfTrailingZeros_0f7a4_74 rfl rfl ?_
            refine k_iload_n C 0 dJ6_numberOfTrailingZeros_0f7a4_75 rfl rfl ?_
            refine k_iconst C (v := (nI 1)) dJ6_numberOfTrailingZeros_0f7a4_76 (by decide) ?_
            refine k_iushr C dJ6_numberOfTrailingZeros_0f7a4_77 ?_
            refine k_iadd C dJ6_numberOfTrailingZeros_0f7a4_78 ?_
            exact hret _ _ _ _ ⟨((((((ntif_p (c := 0 < ntY x) h_1)).trans (by first | exact ntif_p h_2 | exact ntif_n h_2)).trans (by first | exact ntif_p h_3 | exact ntif_n h_3)).trans (by first | exact ntif_p h_4 | exact ntif_n h_4)).trans (by first | exact ntif_p h_5 | exact ntif_n h_5)).symm, rfl⟩ dJ6_numberOfTrailingZeros_0f7a4_79
        · refine k_iinc C (v := (nI (1 + 4))) (lv' := [(1, .int (nI (1 + 4))), (0, .int ((x ^^^ (-1)) &&& (x - (nI 1))))]) 0 dJ6_numberOfTrailingZeros_0f7a4_55 rfl (nI_add _ 4) (by decide) rfl ?_
          refine k_iload_n C 1 dJ6_numberOfTrailingZeros_0f7a4_58 rfl rfl ?_
          refine k_iconst C (v := (nI 4)) dJ6_numberOfTrailingZeros_0f7a4_59 (by decide) ?_
          refine k_iushr C dJ6_numberOfTrailingZeros_0f7a4_60 ?_
          refine k_istore_n C (lv' := [(0, .int ((((x ^^^ (-1)) &&& (x - (nI 1))).toUInt32 >>> ((nI 4).toUInt32 &&& Int32.toUInt32 31)).toInt32)), (1, .int (nI (1 + 4)))]) dJ6_numberOfTrailingZeros_0f7a4_61 rfl (by decide) rfl ?_
          refine k_iload_n C 0 dJ6_numberOfTrailingZeros_0f7a4_62 rfl rfl ?_
          refine k_iconst C (v := (nI 4)) dJ6_numberOfTrailingZeros_0f7a4_63 (by decide) ?_
          refine k_icmp_le C 74 dJ6_numberOfTrailingZeros_0f7a4_64 (by decide) (fun h_6 => ?_) (fun h_6 => ?_)
          · refine k_iload_n C 1 dJ6_numberOfTrailingZeros_0f7a4_74 rfl rfl ?_
            refine k_iload_n C 0 dJ6_numberOfTrailingZeros_0f7a4_75 rfl rfl ?_
            refine k_iconst C (v := (nI 1)) dJ6_numberOfTrailingZeros_0f7a4_76 (by decide) ?_
            refine k_iushr C dJ6_numberOfTrailingZeros_0f7a4_77 ?_
            refine k_iadd C dJ6_numberOfTrailingZeros_0f7a4_78 ?_
            exact hret _ _ _ _ ⟨((((((ntif_p (c := 0 < ntY x) h_1)).trans (by first | exact ntif_p h_2 | exact ntif_n h_2)).trans (by first | exact ntif_p h_3 | exact ntif_n h_3)).trans (by first | exact ntif_p h_4 | exact ntif_n h_4)).trans (by first | exact ntif_p h_6 | exact ntif_n h_6)).symm, rfl⟩ dJ6_numberOfTrailingZeros_0f7a4_79
          · refine k_iinc C (v := (nI ((1 + 4) + 2))) (lv' := [(1, .int (nI ((1 + 4) + 2))), (0, .int ((((x ^^^ (-1)) &&& (x - (nI 1))).toUInt32 >>> ((nI 4).toUInt32 &&& Int32.toUInt32 31)).toInt32))]) 1 dJ6_numberOfTrailingZeros_0f7a4_67 rfl (nI_add _ 2) (by decide) rfl ?_
            refine k_iload_n C 1 dJ6_numberOfTrailingZeros_0f7a4_70 rfl rfl ?_
            refine k_iconst C (v := (nI 2)) dJ6_numberOfTrailingZeros_0f7a4_71 (by decide) ?_
            refine k_iushr C dJ6_numberOfTrailingZeros_0f7a4_72 ?_
            refine k_istore_n C (lv' := [(0, .int ((((((x ^^^ (-1)) &&& (x - (nI 1))).toUInt32 >>> ((nI 4).toUInt32 &&& Int32.toUInt32 31)).toInt32).toUInt32 >>> ((nI 2).toUInt32 &&& Int32.toUInt32 31)).toInt32)), (1, .int (nI ((1 + 4) + 2)))]) dJ6_numberOfTrailingZeros_0f7a4_73 rfl (by decide) rfl ?_
            refine k_iload_n C 1 dJ6_numberOfTrailingZeros_0f7a4_74 rfl rfl ?_
            refine k_iload_n C 0 dJ6_numberOfTrailingZeros_0f7a4_75 rfl rfl ?_
            refine k_iconst C (v := (nI 1)) dJ6_numberOfTrailingZeros_0f7a4_76 (by decide) ?_
            refine k_iushr C dJ6_numberOfTrailingZeros_0f7a4_77 ?_
            refine k_iadd C dJ6_numberOfTrailingZeros_0f7a4_78 ?_
            exact hret _ _ _ _ ⟨((((((ntif_p (c := 0 < ntY x) h_1)).trans (by first | exact ntif_p h_2 | exact ntif_n h_2)).trans (by first | exact ntif_p h_3 | exact ntif_n h_3)).trans (by first | exact ntif_p h_4 | exact ntif_n h_4)).trans (by first | exact ntif_p h_6 | exact ntif_n h_6)).symm, rfl⟩ dJ6_numberOfTrailingZeros_0f7a4_79
      · refine k_iinc C (v := (nI (1 + 8))) (lv' := [(1, .int (nI (1 + 8))), (0, .int ((x ^^^ (-1)) &&& (x - (nI 1))))]) 0 dJ6_numberOfTrailingZeros_0f7a4_41 rfl (nI_add _ 8) (by decide) rfl ?_
        refine k_iload_n C 1 dJ6_numberOfTrailingZeros_0f7a4_44 rfl rfl ?_
        refine k_bipush C (v := (nI 8)) dJ6_numberOfTrailingZeros_0f7a4_45 (by decide) ?_
        refine k_iushr C dJ6_numberOfTrailingZeros_0f7a4_47 ?_
        refine k_istore_n C (lv' := [(0, .int ((((x ^^^ (-1)) &&& (x - (nI 1))).toUInt32 >>> ((nI 8).toUInt32 &&& Int32.toUInt32 31)).toInt32)), (1, .int (nI (1 + 8)))]) dJ6_numberOfTrailingZeros_0f7a4_48 rfl (by decide) rfl ?_
        refine k_iload_n C 0 dJ6_numberOfTrailingZeros_0f7a4_49 rfl rfl ?_
        refine k_bipush C (v := (nI 16)) dJ6_numberOfTrailingZeros_0f7a4_50 (by decide) ?_
        refine k_icmp_le C 62 dJ6_numberOfTrailingZeros_0f7a4_52 (by decide) (fun h_7 => ?_) (fun h_7 => ?_)
        · refine k_iload_n C 0 dJ6_numberOfTrailingZeros_0f7a4_62 rfl rfl ?_
          refine k_iconst C (v := (nI 4)) dJ6_numberOfTrailingZeros_0f7a4_63 (by decide) ?_
          refine k_icmp_le C 74 dJ6_numberOfTrailingZeros_0f7a4_64 (by decide) (fun h_8 => ?_) (fun h_8 => ?_)
          · refine k_iload_n C 1 dJ6_numberOfTrailingZeros_0f7a4_74 rfl rfl ?_
            refine k_iload_n C 0 dJ6_numberOfTrailingZeros_0f7a4_75 rfl rfl ?_
            refine k_iconst C (v := (nI 1)) dJ6_numberOfTrailingZeros_0f7a4_76 (by decide) ?_
            refine k_iushr C dJ6_numberOfTrailingZeros_0f7a4_77 ?_
            refine k_iadd C dJ6_numberOfTrailingZeros_0f7a4_78 ?_
            exact hret _ _ _ _ ⟨((((((ntif_p (c := 0 < ntY x) h_1)).trans (by first | exact ntif_p h_2 | exact ntif_n h_2)).trans (by first | exact ntif_p h_3 | exact ntif_n h_3)).trans (by first | exact ntif_p h_7 | exact ntif_n h_7)).trans (by first | exact ntif_p h_8 | exact ntif_n h_8)).symm, rfl⟩ dJ6_numberOfTrailingZeros_0f7a4_79
          · refine k_iinc C (v := (nI ((1 + 8) + 2))) (lv' := [(1, .int (nI ((1 + 8) + 2))), (0, .int ((((x ^^^ (-1)) &&& (x - (nI 1))).toUInt32 >>> ((nI 8).toUInt32 &&& Int32.toUInt32 31)).toInt32))]) 1 dJ6_numberOfTrailingZeros_0f7a4_67 rfl (nI_add _ 2) (by decide) rfl ?_
            refine k_iload_n C 1 dJ6_numberOfTrailingZeros_0f7a4_70 rfl rfl ?_
            refine k_iconst C (v := (nI 2)) dJ6_numberOfTrailingZeros_0f7a4_71 (by decide) ?_
            refine k_iushr C dJ6_numberOfTrailingZeros_0f7a4_72 ?_
            refine k_istore_n C (lv' := [(0, .int ((((((x ^^^ (-1)) &&& (x - (nI 1))).toUInt32 >>> ((nI 8).toUInt32 &&& Int32.toUInt32 31)).toInt32).toUInt32 >>> ((nI 2).toUInt32 &&& Int32.toUInt32 31)).toInt32)), (1, .int (nI ((1 + 8) + 2)))]) dJ6_numberOfTrailingZeros_0f7a4_73 rfl (by decide) rfl ?_
            refine k_iload_n C 1 dJ6_numberOfTrailingZeros_0f7a4_74 rfl rfl ?_
            refine k_iload_n C 0 dJ6_numberOfTrailingZeros_0f7a4_75 rfl rfl ?_
            refine k_iconst C (v := (nI 1)) dJ6_numberOfTrailingZeros_0f7a4_76 (by decide) ?_
            refine k_iushr C dJ6_numberOfTrailingZeros_0f7a4_77 ?_
            refine k_iadd C dJ6_numberOfTrailingZeros_0f7a4_78 ?_
            exact hret _ _ _ _ ⟨((((((ntif_p (c := 0 < ntY x) h_1)).trans (by first | exact ntif_p h_2 | exact ntif_n h_2)).trans (by first | exact ntif_p h_3 | exact ntif_n h_3)).trans (by first | exact ntif_p h_7 | exact ntif_n h_7)).trans (by first | exact ntif_p h_8 | exact ntif_n h_8)).symm, rfl⟩ dJ6_numberOfTrailingZeros_0f7a4_79
        · refine k_iinc C (v := (nI ((1 + 8) + 4))) (lv' := [(1, .int (nI ((1 + 8) + 4))), (0, .int ((((x ^^^ (-1)) &&& (x - (nI 1))).toUInt32 >>> ((nI 8).toUInt32 &&& Int32.toUInt32 31)).toInt32))]) 1 dJ6_numberOfTrailingZeros_0f7a4_55 rfl (nI_add _ 4) (by decide) rfl ?_
          refine k_iload_n C 1 dJ6_numberOfTrailingZeros_0f7a4_58 rfl rfl ?_
          refine k_iconst C (v := (nI 4)) dJ6_numberOfTrailingZeros_0f7a4_59 (by decide) ?_
          refine k_iushr C dJ6_numberOfTrailingZeros_0f7a4_60 ?_
          refine k_istore_n C (lv' := [(0, .int ((((((x ^^^ (-1)) &&& (x - (nI 1))).toUInt32 >>> ((nI 8).toUInt32 &&& Int32.toUInt32 31)).toInt32).toUInt32 >>> ((nI 4).toUInt32 &&& Int32.toUInt32 31)).toInt32)), (1, .int (nI ((1 + 8) + 4)))]) dJ6_numberOfTrailingZeros_0f7a4_61 rfl (by decide) rfl ?_
          refine k_iload_n C 0 dJ6_numberOfTrailingZeros_0f7a4_62 rfl rfl ?_
          refine k_iconst C (v := (nI 4)) dJ6_numberOfTrailingZeros_0f7a4_63 (by decide) ?_
          refine k_icmp_le C 74 dJ6_numberOfTrailingZeros_0f7a4_64 (by decide) (fun h_9 => ?_) (fun h_9 => ?_)
          · refine k_iload_n C 1 dJ6_numberOfTrailingZeros_0f7a4_74 rfl rfl ?_
            refine k_iload_n C 0 dJ6_numberOfTrailingZeros_0f7a4_75 rfl rfl ?_
            refine k_iconst C (v := (nI 1)) dJ6_numberOfTrailingZeros_0f7a4_76 (by decide) ?_
            refine k_iushr C dJ6_numberOfTrailingZeros_0f7a4_77 ?_
            refine k_iadd C dJ6_numberOfTrailingZeros_0f7a4_78 ?_
            exact hret _ _ _ _ ⟨((((((ntif_p (c := 0 < ntY x) h_1)).trans (by first | exact ntif_p h_2 | exact ntif_n h_2)).trans (by first | exact ntif_p h_3 | exact ntif_n h_3)).trans (by first | exact ntif_p h_7 | exact ntif_n h_7)).trans (by first | exact ntif_p h_9 | exact ntif_n h_9)).symm, rfl⟩ dJ6_numberOfTrailingZeros_0f7a4_79
          · refine k_iinc C (v := (nI (((1 + 8) + 4) + 2))) (lv' := [(1, .int (nI (((1 + 8) + 4) + 2))), (0, .int ((((((x ^^^ (-1)) &&& (x - (nI 1))).toUInt32 >>> ((nI 8).toUInt32 &&& Int32.toUInt32 31)).toInt32).toUInt32 >>> ((nI 4).toUInt32 &&& Int32.toUInt32 31)).toInt32))]) 1 dJ6_numberOfTrailingZeros_0f7a4_67 rfl (nI_add _ 2) (by decide) rfl ?_
            refine k_iload_n C 1 dJ6_numberOfTrailingZeros_0f7a4_70 rfl rfl ?_
            refine k_iconst C (v := (nI 2)) dJ6_numberOfTrailingZeros_0f7a4_71 (by decide) ?_
            refine k_iushr C dJ6_numberOfTrailingZeros_0f7a4_72 ?_
            refine k_istore_n C (lv' := [(0, .int ((((((((x ^^^ (-1)) &&& (x - (nI 1))).toUInt32 >>> ((nI 8).toUInt32 &&& Int32.toUInt32 31)).toInt32).toUInt32 >>> ((nI 4).toUInt32 &&& Int32.toUInt32 31)).toInt32).toUInt32 >>> ((nI 2).toUInt32 &&& Int32.toUInt32 31)).toInt32)), (1, .int (nI (((1 + 8) + 4) + 2)))]) dJ6_numberOfTrailingZeros_0f7a4_73 rfl (by decide) rfl ?_
            refine k_iload_n C 1 dJ6_numberOfTrailingZeros_0f7a4_74 rfl rfl ?_
            refine k_iload_n C 0 dJ6_numberOfTrailingZeros_0f7a4_75 rfl rfl ?_
            refine k_iconst C (v := (nI 1)) dJ6_numberOfTrailingZeros_0f7a4_76 (by decide) ?_
            refine k_iushr C dJ6_numberOfTrailingZeros_0f7a4_77 ?_
            refine k_iadd C dJ6_numberOfTrailingZeros_0f7a4_78 ?_
            exact hret _ _ _ _ ⟨((((((ntif_p (c := 0 < ntY x) h_1)).trans (by first | exact ntif_p h_2 | exact ntif_n h_2)).trans (by first | exact ntif_p h_3 | exact ntif_n h_3)).trans (by first | exact ntif_p h_7 | exact ntif_n h_7)).trans (by first | exact ntif_p h_9 | exact ntif_n h_9)).symm, rfl⟩ dJ6_numberOfTrailingZeros_0f7a4_79
    · refine k_iinc C (v := (nI (1 + 16))) (lv' := [(1, .int (nI (1 + 16))), (0, .int ((x ^^^ (-1)) &&& (x - (nI 1))))]) 0 dJ6_numberOfTrailingZeros_0f7a4_26 rfl (nI_add _ 16) (by decide) rfl ?_
      refine k_iload_n C 1 dJ6_numberOfTrailingZeros_0f7a4_29 rfl rfl ?_
      refine k_bipush C (v := (nI 16)) dJ6_numberOfTrailingZeros_0f7a4_30 (by decide) ?_
      refine k_iushr C dJ6_numberOfTrailingZeros_0f7a4_32 ?_
      refine k_istore_n C (lv' := [(0, .int ((((x ^^^ (-1)) &&& (x - (nI 1))).toUInt32 >>> ((nI 16).toUInt32 &&& Int32.toUInt32 31)).toInt32)), (1, .int (nI (1 + 16)))]) dJ6_numberOfTrailingZeros_0f7a4_33 rfl (by decide) rfl ?_
      refine k_iload_n C 0 dJ6_numberOfTrailingZeros_0f7a4_34 rfl rfl ?_
      refine k_sipush C (v := (nI 256)) dJ6_numberOfTrailingZeros_0f7a4_35 (by decide) ?_
      refine k_icmp_le C 49 dJ6_numberOfTrailingZeros_0f7a4_38 (by decide) (fun h_10 => ?_) (fun h_10 => ?_)
      · refine k_iload_n C 0 dJ6_numberOfTrailingZeros_0f7a4_49 rfl rfl ?_
        refine k_bipush C (v := (nI 16)) dJ6_numberOfTrailingZeros_0f7a4_50 (by decide) ?_
        refine k_icmp_le C 62 dJ6_numberOfTrailingZeros_0f7a4_52 (by decide) (fun h_11 => ?_) (fun h_11 => ?_)
        · refine k_iload_n C 0 dJ6_numberOfTrailingZeros_0f7a4_62 rfl rfl ?_
          refine k_iconst C (v := (nI 4)) dJ6_numberOfTrailingZeros_0f7a4_63 (by decide) ?_
          refine k_icmp_le C 74 dJ6_numberOfTrailingZeros_0f7a4_64 (by decide) (fun h_12 => ?_) (fun h_12 => ?_)
          · refine k_iload_n C 1 dJ6_numberOfTrailingZeros_0f7a4_74 rfl rfl ?_
            refine k_iload_n C 0 dJ6_numberOfTrailingZeros_0f7a4_75 rfl rfl ?_
            refine k_iconst C (v := (nI 1)) dJ6_numberOfTrailingZeros_0f7a4_76 (by decide) ?_
            refine k_iushr C dJ6_numberOfTrailingZeros_0f7a4_77 ?_
            refine k_iadd C dJ6_numberOfTrailingZeros_0f7a4_78 ?_
            exact hret _ _ _ _ ⟨((((((ntif_p (c := 0 < ntY x) h_1)).trans (by first | exact ntif_p h_2 | exact ntif_n h_2)).trans (by first | exact ntif_p h_10 | exact ntif_n h_10)).trans (by first | exact ntif_p h_11 | exact ntif_n h_11)).trans (by first | exact ntif_p h_12 | exact ntif_n h_12)).symm, rfl⟩ dJ6_numberOfTrailingZeros_0f7a4_79
          · refine k_iinc C (v := (nI ((1 + 16) + 2))) (lv' := [(1, .int (nI ((1 + 16) + 2))), (0, .int ((((x ^^^ (-1)) &&& (x - (nI 1))).toUInt32 >>> ((nI 16).toUInt32 &&& Int32.toUInt32 31)).toInt32))]) 1 dJ6_numberOfTrailingZeros_0f7a4_67 rfl (nI_add _ 2) (by decide) rfl ?_
            refine k_iload_n C 1 dJ6_numberOfTrailingZeros_0f7a4_70 rfl rfl ?_
            refine k_iconst C (v := (nI 2)) dJ6_numberOfTrailingZeros_0f7a4_71 (by decide) ?_
            refine k_iushr C dJ6_numberOfTrailingZeros_0f7a4_72 ?_
            refine k_istore_n C (lv' := [(0, .int ((((((x ^^^ (-1)) &&& (x - (nI 1))).toUInt32 >>> ((nI 16).toUInt32 &&& Int32.toUInt32 31)).toInt32).toUInt32 >>> ((nI 2).toUInt32 &&& Int32.toUInt32 31)).toInt32)), (1, .int (nI ((1 + 16) + 2)))]) dJ6_numberOfTrailingZeros_0f7a4_73 rfl (by decide) rfl ?_
            refine k_iload_n C 1 dJ6_numberOfTrailingZeros_0f7a4_74 rfl rfl ?_
            refine k_iload_n C 0 dJ6_numberOfTrailingZeros_0f7a4_75 rfl rfl ?_
            refine k_iconst C (v := (nI 1)) dJ6_numberOfTrailingZeros_0f7a4_76 (by decide) ?_
            refine k_iushr C dJ6_numberOfTrailingZeros_0f7a4_77 ?_
            refine k_iadd C dJ6_numberOfTrailingZeros_0f7a4_78 ?_
            exact hret _ _ _ _ ⟨((((((ntif_p (c := 0 < ntY x) h_1)).trans (by first | exact ntif_p h_2 | exact ntif_n h_2)).trans (by first | exact ntif_p h_10 | exact ntif_n h_10)).trans (by first | exact ntif_p h_11 | exact ntif_n h_11)).trans (by first | exact ntif_p h_12 | exact ntif_n h_12)).symm, rfl⟩ dJ6_numberOfTrailingZeros_0f7a4_79
        · refine k_iinc C (v := (nI ((1 + 16) + 4))) (lv' := [(1, .int (nI ((1 + 16) + 4))), (0, .int ((((x ^^^ (-1)) &&& (x - (nI 1))).toUInt32 >>> ((nI 16).toUInt32 &&& Int32.toUInt32 31)).toInt32))]) 1 dJ6_numberOfTrailingZeros_0f7a4_55 rfl (nI_add _ 4) (by decide) rfl ?_
          refine k_iload_n C 1 dJ6_numberOfTrailingZeros_0f7a4_58 rfl rfl ?_
          refine k_iconst C (v := (nI 4)) dJ6_numberOfTrailingZeros_0f7a4_59 (by decide) ?_
          refine k_iushr C dJ6_numberOfTrailingZeros_0f7a4_60 ?_
          refine k_istore_n C (lv' := [(0, .int ((((((x ^^^ (-1)) &&& (x - (nI 1))).toUInt32 >>> ((nI 16).toUInt32 &&& Int32.toUInt32 31)).toInt32).toUInt32 >>> ((nI 4).toUInt32 &&& Int32.toUInt32 31)).toInt32)), (1, .int (nI ((1 + 16) + 4)))]) dJ6_numberOfTrailingZeros_0f7a4_61 rfl (by decide) rfl ?_
          refine k_iload_n C 0 dJ6_numberOfTrailingZeros_0f7a4_62 rfl rfl ?_
          refine k_iconst C (v := (nI 4)) dJ6_numberOfTrailingZeros_0f7a4_63 (by decide) ?_
          refine k_icmp_le C 74 dJ6_numberOfTrailingZeros_0f7a4_64 (by decide) (fun h_13 => ?_) (fun h_13 => ?_)
          · refine k_iload_n C 1 dJ6_numberOfTrailingZeros_0f7a4_74 rfl rfl ?_
            refine k_iload_n C 0 dJ6_numberOfTrailingZeros_0f7a4_75 rfl rfl ?_
            refine k_iconst C (v := (nI 1)) dJ6_numberOfTrailingZeros_0f7a4_76 (by decide) ?_
            refine k_iushr C dJ6_numberOfTrailingZeros_0f7a4_77 ?_
            refine k_iadd C dJ6_numberOfTrailingZeros_0f7a4_78 ?_
            exact hret _ _ _ _ ⟨((((((ntif_p (c := 0 < ntY x) h_1)).trans (by first | exact ntif_p h_2 | exact ntif_n h_2)).trans (by first | exact ntif_p h_10 | exact ntif_n h_10)).trans (by first | exact ntif_p h_11 | exact ntif_n h_11)).trans (by first | exact ntif_p h_13 | exact ntif_n h_13)).symm, rfl⟩ dJ6_numberOfTrailingZeros_0f7a4_79
          · refine k_iinc C (v := (nI (((1 + 16) + 4) + 2))) (lv' := [(1, .int (nI (((1 + 16) + 4) + 2))), (0, .int ((((((x ^^^ (-1)) &&& (x - (nI 1))).toUInt32 >>> ((nI 16).toUInt32 &&& Int32.toUInt32 31)).toInt32).toUInt32 >>> ((nI 4).toUInt32 &&& Int32.toUInt32 31)).toInt32))]) 1 dJ6_numberOfTrailingZeros_0f7a4_67 rfl (nI_add _ 2) (by decide) rfl ?_
            refine k_iload_n C 1 dJ6_numberOfTrailingZeros_0f7a4_70 rfl rfl ?_
            refine k_iconst C (v := (nI 2)) dJ6_numberOfTrailingZeros_0f7a4_71 (by decide) ?_
            refine k_iushr C dJ6_numberOfTrailingZeros_0f7a4_72 ?_
            refine k_istore_n C (lv' := [(0, .int ((((((((x ^^^ (-1)) &&& (x - (nI 1))).toUInt32 >>> ((nI 16).toUInt32 &&& Int32.toUInt32 31)).toInt32).toUInt32 >>> ((nI 4).toUInt32 &&& Int32.toUInt32 31)).toInt32).toUInt32 >>> ((nI 2).toUInt32 &&& Int32.toUInt32 31)).toInt32)), (1, .int (nI (((1 + 16) + 4) + 2)))]) dJ6_numberOfTrailingZeros_0f7a4_73 rfl (by decide) rfl ?_
            refine k_iload_n C 1 dJ6_numberOfTrailingZeros_0f7a4_74 rfl rfl ?_
            refine k_iload_n C 0 dJ6_numberOfTrailingZeros_0f7a4_75 rfl rfl ?_
            refine k_iconst C (v := (nI 1)) dJ6_numberOfTrailingZeros_0f7a4_76 (by decide) ?_
            refine k_iushr C dJ6_numberOfTrailingZeros_0f7a4_77 ?_
            refine k_iadd C dJ6_numberOfTrailingZeros_0f7a4_78 ?_
            exact hret _ _ _ _ ⟨((((((ntif_p (c := 0 < ntY x) h_1)).trans (by first | exact ntif_p h_2 | exact ntif_n h_2)).trans (by first | exact ntif_p h_10 | exact ntif_n h_10)).trans (by first | exact ntif_p h_11 | exact ntif_n h_11)).trans (by first | exact ntif_p h_13 | exact ntif_n h_13)).symm, rfl⟩ dJ6_numberOfTrailingZeros_0f7a4_79
      · refine k_iinc C (v := (nI ((1 + 16) + 8))) (lv' := [(1, .int (nI ((1 + 16) + 8))), (0, .int ((((x ^^^ (-1)) &&& (x - (nI 1))).toUInt32 >>> ((nI 16).toUInt32 &&& Int32.toUInt32 31)).toInt32))]) 1 dJ6_numberOfTrailingZeros_0f7a4_41 rfl (nI_add _ 8) (by decide) rfl ?_
        refine k_iload_n C 1 dJ6_numberOfTrailingZeros_0f7a4_44 rfl rfl ?_
        refine k_bipush C (v := (nI 8)) dJ6_numberOfTrailingZeros_0f7a4_45 (by decide) ?_
        refine k_iushr C dJ6_numberOfTrailingZeros_0f7a4_47 ?_
        refine k_istore_n C (lv' := [(0, .int ((((((x ^^^ (-1)) &&& (x - (nI 1))).toUInt32 >>> ((nI 16).toUInt32 &&& Int32.toUInt32 31)).toInt32).toUInt32 >>> ((nI 8).toUInt32 &&& Int32.toUInt32 31)).toInt32)), (1, .int (nI ((1 + 16) + 8)))]) dJ6_numberOfTrailingZeros_0f7a4_48 rfl (by decide) rfl ?_
        refine k_iload_n C 0 dJ6_numberOfTrailingZeros_0f7a4_49 rfl rfl ?_
        refine k_bipush C (v := (nI 16)) dJ6_numberOfTrailingZeros_0f7a4_50 (by decide) ?_
        refine k_icmp_le C 62 dJ6_numberOfTrailingZeros_0f7a4_52 (by decide) (fun h_14 => ?_) (fun h_14 => ?_)
        · refine k_iload_n C 0 dJ6_numberOfTrailingZeros_0f7a4_62 rfl rfl ?_
          refine k_iconst C (v := (nI 4)) dJ6_numberOfTrailingZeros_0f7a4_63 (by decide) ?_
          refine k_icmp_le C 74 dJ6_numberOfTrailingZeros_0f7a4_64 (by decide) (fun h_15 => ?_) (fun h_15 => ?_)
          · refine k_iload_n C 1 dJ6_numberOfTrailingZeros_0f7a4_74 rfl rfl ?_
            refine k_iload_n C 0 dJ6_numberOfTrailingZeros_0f7a4_75 rfl rfl ?_
            refine k_iconst C (v := (nI 1)) dJ6_numberOfTrailingZeros_0f7a4_76 (by decide) ?_
            refine k_iushr C dJ6_numberOfTrailingZeros_0f7a4_77 ?_
            refine k_iadd C dJ6_numberOfTrailingZeros_0f7a4_78 ?_
            exact hret _ _ _ _ ⟨((((((ntif_p (c := 0 < ntY x) h_1)).trans (by first | exact ntif_p h_2 | exact ntif_n h_2)).trans (by first | exact ntif_p h_10 | exact ntif_n h_10)).trans (by first | exact ntif_p h_14 | exact ntif_n h_14)).trans (by first | exact ntif_p h_15 | exact ntif_n h_15)).symm, rfl⟩ dJ6_numberOfTrailingZeros_0f7a4_79
          · refine k_iinc C (v := (nI (((1 + 16) + 8) + 2))) (lv' := [(1, .int (nI (((1 + 16) + 8) + 2))), (0, .int ((((((x ^^^ (-1)) &&& (x - (nI 1))).toUInt32 >>> ((nI 16).toUInt32 &&& Int32.toUInt32 31)).toInt32).toUInt32 >>> ((nI 8).toUInt32 &&& Int32.toUInt32 31)).toInt32))]) 1 dJ6_numberOfTrailingZeros_0f7a4_67 rfl (nI_add _ 2) (by decide) rfl ?_
            refine k_iload_n C 1 dJ6_numberOfTrailingZeros_0f7a4_70 rfl rfl ?_
            refine k_iconst C (v := (nI 2)) dJ6_numberOfTrailingZeros_0f7a4_71 (by decide) ?_
            refine k_iushr C dJ6_numberOfTrailingZeros_0f7a4_72 ?_
            refine k_istore_n C (lv' := [(0, .int ((((((((x ^^^ (-1)) &&& (x - (nI 1))).toUInt32 >>> ((nI 16).toUInt32 &&& Int32.toUInt32 31)).toInt32).toUInt32 >>> ((nI 8).toUInt32 &&& Int32.toUInt32 31)).toInt32).toUInt32 >>> ((nI 2).toUInt32 &&& Int32.toUInt32 31)).toInt32)), (1, .int (nI (((1 + 16) + 8) + 2)))]) dJ6_numberOfTrailingZeros_0f7a4_73 rfl (by decide) rfl ?_
            refine k_iload_n C 1 dJ6_numberOfTrailingZeros_0f7a4_74 rfl rfl ?_
            refine k_iload_n C 0 dJ6_numberOfTrailingZeros_0f7a4_75 rfl rfl ?_
            refine k_iconst C (v := (nI 1)) dJ6_numberOfTrailingZeros_0f7a4_76 (by decide) ?_
            refine k_iushr C dJ6_numberOfTrailingZeros_0f7a4_77 ?_
            refine k_iadd C dJ6_numberOfTrailingZeros_0f7a4_78 ?_
            exact hret _ _ _ _ ⟨((((((ntif_p (c := 0 < ntY x) h_1)).trans (by first | exact ntif_p h_2 | exact ntif_n h_2)).trans (by first | exact ntif_p h_10 | exact ntif_n h_10)).trans (by first | exact ntif_p h_14 | exact ntif_n h_14)).trans (by first | exact ntif_p h_15 | exact ntif_n h_15)).symm, rfl⟩ dJ6_numberOfTrailingZeros_0f7a4_79
        · refine k_iinc C (v := (nI (((1 + 16) + 8) + 4))) (lv' := [(1, .int (nI (((1 + 16) + 8) + 4))), (0, .int ((((((x ^^^ (-1)) &&& (x - (nI 1))).toUInt32 >>> ((nI 16).toUInt32 &&& Int32.toUInt32 31)).toInt32).toUInt32 >>> ((nI 8).toUInt32 &&& Int32.toUInt32 31)).toInt32))]) 1 dJ6_numberOfTrailingZeros_0f7a4_55 rfl (nI_add _ 4) (by decide) rfl ?_
          refine k_iload_n C 1 dJ6_numberOfTrailingZeros_0f7a4_58 rfl rfl ?_
          refine k_iconst C (v := (nI 4)) dJ6_numberOfTrailingZeros_0f7a4_59 (by decide) ?_
          refine k_iushr C dJ6_numberOfTrailingZeros_0f7a4_60 ?_
          refine k_istore_n C (lv' := [(0, .int ((((((((x ^^^ (-1)) &&& (x - (nI 1))).toUInt32 >>> ((nI 16).toUInt32 &&& Int32.toUInt32 31)).toInt32).toUInt32 >>> ((nI 8).toUInt32 &&& Int32.toUInt32 31)).toInt32).toUInt32 >>> ((nI 4).toUInt32 &&& Int32.toUInt32 31)).toInt32)), (1, .int (nI (((1 + 16) + 8) + 4)))]) dJ6_numberOfTrailingZeros_0f7a4_61 rfl (by decide) rfl ?_
          refine k_iload_n C 0 dJ6_numberOfTrailingZeros_0f7a4_62 rfl rfl ?_
          refine k_iconst C (v := (nI 4)) dJ6_numberOfTrailingZeros_0f7a4_63 (by decide) ?_
          refine k_icmp_le C 74 dJ6_numberOfTrailingZeros_0f7a4_64 (by decide) (fun h_16 => ?_) (fun h_16 => ?_)
          · refine k_iload_n C 1 dJ6_numberOfTrailingZeros_0f7a4_74 rfl rfl ?_
            refine k_iload_n C 0 dJ6_numberOfTrailingZeros_0f7a4_75 rfl rfl ?_
            refine k_iconst C (v := (nI 1)) dJ6_numberOfTrailingZeros_0f7a4_76 (by decide) ?_
            refine k_iushr C dJ6_numberOfTrailingZeros_0f7a4_77 ?_
            refine k_iadd C dJ6_numberOfTrailingZeros_0f7a4_78 ?_
            exact hret _ _ _ _ ⟨((((((ntif_p (c := 0 < ntY x) h_1)).trans (by first | exact ntif_p h_2 | exact ntif_n h_2)).trans (by first | exact ntif_p h_10 | exact ntif_n h_10)).trans (by first | exact ntif_p h_14 | exact ntif_n h_14)).trans (by first | exact ntif_p h_16 | exact ntif_n h_16)).symm, rfl⟩ dJ6_numberOfTrailingZeros_0f7a4_79
          · refine k_iinc C (v := (nI ((((1 + 16) + 8) + 4) + 2))) (lv' := [(1, .int (nI ((((1 + 16) + 8) + 4) + 2))), (0, .int ((((((((x ^^^ (-1)) &&& (x - (nI 1))).toUInt32 >>> ((nI 16).toUInt32 &&& Int32.toUInt32 31)).toInt32).toUInt32 >>> ((nI 8).toUInt32 &&& Int32.toUInt32 31)).toInt32).toUInt32 >>> ((nI 4).toUInt32 &&& Int32.toUInt32 31)).toInt32))]) 1 dJ6_numberOfTrailingZeros_0f7a4_67 rfl (nI_add _ 2) (by decide) rfl ?_
            refine k_iload_n C 1 dJ6_numberOfTrailingZeros_0f7a4_70 rfl rfl ?_
            refine k_iconst C (v := (nI 2)) dJ6_numberOfTrailingZeros_0f7a4_71 (by decide) ?_
            refine k_iushr C dJ6_numberOfTrailingZeros_0f7a4_72 ?_
            refine k_istore_n C (lv' := [(0, .int ((((((((((x ^^^ (-1)) &&& (x - (nI 1))).toUInt32 >>> ((nI 16).toUInt32 &&& Int32.toUInt32 31)).toInt32).toUInt32 >>> ((nI 8).toUInt32 &&& Int32.toUInt32 31)).toInt32).toUInt32 >>> ((nI 4).toUInt32 &&& Int32.toUInt32 31)).toInt32).toUInt32 >>> ((nI 2).toUInt32 &&& Int32.toUInt32 31)).toInt32)), (1, .int (nI ((((1 + 16) + 8) + 4) + 2)))]) dJ6_numberOfTrailingZeros_0f7a4_73 rfl (by decide) rfl ?_
            refine k_iload_n C 1 dJ6_numberOfTrailingZeros_0f7a4_74 rfl rfl ?_
            refine k_iload_n C 0 dJ6_numberOfTrailingZeros_0f7a4_75 rfl rfl ?_
            refine k_iconst C (v := (nI 1)) dJ6_numberOfTrailingZeros_0f7a4_76 (by decide) ?_
            refine k_iushr C dJ6_numberOfTrailingZeros_0f7a4_77 ?_
            refine k_iadd C dJ6_numberOfTrailingZeros_0f7a4_78 ?_
            exact hret _ _ _ _ ⟨((((((ntif_p (c := 0 < ntY x) h_1)).trans (by first | exact ntif_p h_2 | exact ntif_n h_2)).trans (by first | exact ntif_p h_10 | exact ntif_n h_10)).trans (by first | exact ntif_p h_14 | exact ntif_n h_14)).trans (by first | exact ntif_p h_16 | exact ntif_n h_16)).symm, rfl⟩ dJ6_numberOfTrailingZeros_0f7a4_79
  · refine k_iload_n C 0 dJ6_numberOfTrailingZeros_0f7a4_12 rfl rfl ?_
    refine k_bipush C (v := (nI 32)) dJ6_numberOfTrailingZeros_0f7a4_13 (by decide) ?_
    refine k_iand C dJ6_numberOfTrailingZeros_0f7a4_15 ?_
    exact hret _ _ _ _ ⟨(ntif_n (c := 0 < ntY x) h_1).symm, rfl⟩ dJ6_numberOfTrailingZeros_0f7a4_16
