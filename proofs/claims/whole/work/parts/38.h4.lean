/-! ===== the class: its contracts ===== -/
set_option maxHeartbeats 4000000 in
set_option maxRecDepth 100000 in
theorem h1_orderFaces (l : Launch) (D : va_G) (cI cJ cF cD : ClassId) {ba fa ra : Nat → Nat} {hb : Int32} {ps : Int32} {co : Int32} {ec : Int32} {asz : Int32} {sx : Int64} {tr : Nat} {pm : Nat → Nat} {xs : Nat → Int32} {ys : Nat → Int32} {zs : Nat → Int32} {ax : Nat → Int32} {ay : Nat → Int32} {az : Nat → Int32} {al : Nat → Int32} {el : Nat → Nat} {eh : Nat → Nat} {mo : Nat → Int64} {nx : Nat → Int64} {ny : Nat → Int64} {nz : Nat → Int64} {dd : Nat → Int64} {hd : Nat → Int32} {sz : Nat → Nat} {rn : Nat → Nat → Nat} {nf : Nat} (hnf : nf ≤ 44) (hn1 : 1 ≤ nf) (hpm : ∀ x, pm x < 45) (hrn : ∀ x k, rn x k < 24) : CtV l D (tyG cI cJ cF cD) yX1_orderFaces wsX1_orderFaces ({ frames := 2, cells := 0, slots := 0, locals := 41 }) [.ref (ba 5)] (wB ba fa ra cI cJ cF hb ps (nI nf) co ec asz sx tr pm xs ys zs ax ay az al el eh mo nx ny nz dd hd sz rn) (fun w => w = (wB ba fa ra cI cJ cF hb ps (nI nf) co ec asz sx tr (ordS (rkN rn) pm (nf - 1)) xs ys zs ax ay az al el eh mo nx ny nz dd hd sz rn)) := by
  refine ctV_of (cc := cX1_orderFaces) (maxL := 4) (by decide) rfl (Nat.le_of_ble_eq_true rfl) ?_
  intro X hXl hXd C hret
  have lk0 : Cond.fieldLink RX1 65 "HullBuilder$Hull" "faceCount" "I" ∈ wsX1_orderFaces := by decide +kernel
  have hinX1 : ∀ w ∈ wsX10, w ∈ wsX1_orderFaces := by decide +kernel
  have lk2 : Cond.fieldLink RX1 20 "HullBuilder$Hull" "faces" "[LHullBuilder$Face;" ∈ wsX1_orderFaces := by decide +kernel
  have lk3 : Cond.methodLinkNest RX1 105 yX0_rank "HullBuilder" ∈ kNW := by decide +kernel
  have lk4 : Cond.initialized RX0 ∈ wsX1_orderFaces := by decide +kernel
  have lk5 : Cond.instanceMethod yX0_rank ∈ wsX1_orderFaces := by decide +kernel
  have lk6 : Cond.selects RX0 yX0_rank yX0_rank ∈ wsX1_orderFaces := by decide +kernel
  show Kw X 0 0 (wB ba fa ra cI cJ cF hb ps (nI nf) co ec asz sx tr pm xs ys zs ax ay az al el eh mo nx ny nz dd hd sz rn) 0 [(0, .ref (ba 5))] []
  refine k_iconst C (v := (nI 1)) dX1_orderFaces_0 (by decide) ?_
  refine k_istore_n C (lv' := [(1, .int (nI 1)), (0, .ref (ba 5))]) dX1_orderFaces_1 rfl (by decide) rfl ?_
  suffices L2 : ∀ (n2 j2 : Nat), j2 ≤ nf → nf + 1 ≤ j2 + n2 → 1 ≤ j2 → Kw X 0 0 (wB ba fa ra cI cJ cF hb ps (nI nf) co ec asz sx tr (ordS (rkN rn) pm (j2 - 1)) xs ys zs ax ay az al el eh mo nx ny nz dd hd sz rn) 2 [(0, .ref (ba 5)), (1, .int (nI j2))] [] by
    have w3_0 : pm = (ordS (rkN rn) pm (1 - 1)) := rfl
    refine k_ws (ws' := (wB ba fa ra cI cJ cF hb ps (nI nf) co ec asz sx tr (ordS (rkN rn) pm (1 - 1)) xs ys zs ax ay az al el eh mo nx ny nz dd hd sz rn)) (by rw [← w3_0]) ?_
    exact k_lv [1, 0] rfl (L2 (nf + 1) 1 (by omega) (by omega) (Nat.le_refl _))
  intro n2
  induction n2 with
  | zero => intro j2 a1 a2; exact absurd a2 (by omega)
  | succ n2 ih2 =>
    intro j2 b2 c2 g2_0
    refine k_iload_n C 1 dX1_orderFaces_2 rfl rfl ?_
    refine k_aload_n C 0 dX1_orderFaces_3 rfl rfl ?_
    refine k_get C hinX1 5 3 rfl rfl (by decide) lk0 rfl rfl dX1_orderFaces_4 ?_
    refine k_icmp_geN C (by omega) (by omega) 81 dX1_orderFaces_7 (by decide) (fun h_1 => ?_) (fun h_1 => ?_)
    · exact hret _ _ _ (by rw [show j2 = nf by omega]) dX1_orderFaces_81
    · refine k_iload_n C 1 dX1_orderFaces_10 rfl rfl ?_
      refine k_istore_n C (lv' := [(2, .int (nI j2)), (0, .ref (ba 5)), (1, .int (nI j2))]) dX1_orderFaces_11 rfl (by decide) rfl ?_
      suffices L12 : ∀ (k : Nat) (q : Nat → Nat), k ≤ j2 → (∀ x, q x < 45) → insS (rkN rn) k q = insS (rkN rn) j2 (ordS (rkN rn) pm (j2 - 1)) → Kw X 0 0 (wB ba fa ra cI cJ cF hb ps (nI nf) co ec asz sx tr q xs ys zs ax ay az al el eh mo nx ny nz dd hd sz rn) 12 [(0, .ref (ba 5)), (1, .int (nI j2)), (2, .int (nI k))] [] by
        exact k_lv [1, 2, 0] rfl (L12 j2 _ (Nat.le_refl _) (ordS_lt hpm _) rfl)
      intro k
      induction k with
      | zero =>
        intro q b12 hq g12
        refine k_iload_n C 2 dX1_orderFaces_12 rfl rfl ?_
        refine k_if_le C 75 dX1_orderFaces_13 (by decide) (fun _ => ?_) (fun h => absurd (show (nI 0) ≤ 0 from by decide) h)
        refine k_iinc C (v := (nI (j2 + 1))) (lv' := [(1, .int (nI (j2 + 1))), (0, .ref (ba 5)), (2, .int (nI 0))]) 1 dX1_orderFaces_75 rfl (nI_1 _) (by decide) rfl ?_
        refine k_goto C 2 dX1_orderFaces_78 (by decide) ?_
        have w29_0 : q = (ordS (rkN rn) pm ((j2 + 1) - 1)) := by rw [show j2 + 1 - 1 = (j2 - 1) + 1 by omega, ordS, show j2 - 1 + 1 = j2 by omega, ← g12]; first | rfl | rw [insS, if_neg (Nat.not_lt.mpr (by assumption))]
        refine k_ws (ws' := (wB ba fa ra cI cJ cF hb ps (nI nf) co ec asz sx tr (ordS (rkN rn) pm ((j2 + 1) - 1)) xs ys zs ax ay az al el eh mo nx ny nz dd hd sz rn)) (by rw [← w29_0]) ?_
        exact k_lv [1, 0] rfl (ih2 (j2 + 1) (by omega) (by omega) (by omega))
      | succ k ihk =>
        intro q b12 hq g12
        have r1 := hrn (q (k + 1)) 0
        have r2 := hrn (q (k + 1)) 1
        have r3 := hrn (q k) 0
        have r4 := hrn (q k) 1
        refine k_iload_n C 2 dX1_orderFaces_12 rfl rfl ?_
        refine k_if_le C 75 dX1_orderFaces_13 (by decide) (fun h => absurd h (nI_nle (by omega) (by omega))) (fun _ => ?_)
        refine k_aload_n C 0 dX1_orderFaces_16 rfl rfl ?_
        refine k_get C hinX1 5 1 rfl rfl (by decide) lk2 rfl rfl dX1_orderFaces_17 ?_
        refine k_iload_n C 2 dX1_orderFaces_20 rfl rfl ?_
        refine k_aald C (j := (k + 1)) 10 2 rfl rfl (by omega) (by decide) rfl dX1_orderFaces_21 ?_
        refine k_callVNI C (ar := 0) (As := []) (rest := []) (h0_rank (kxL X) (kxD X) cI cJ cF cD (hq _)) ggX1_orderFaces_X0_rank rfl rfl rfl lk3 lk4 lk5 lk6 (by decide +kernel) ⟨Nat.le_of_ble_eq_true rfl, Nat.le_of_ble_eq_true rfl⟩ (15 + (q (k + 1))) (wB_f (hq _)) rfl rfl rfl (Nat.le_of_ble_eq_true rfl) dX1_orderFaces_22 (Nat.zero_le _) (Nat.zero_le _) (fun r w hw => ?_)
        obtain ⟨rfl, rfl⟩ := hw
        refine k_aload_n C 0 dX1_orderFaces_25 rfl rfl ?_
        refine k_get C hinX1 5 1 rfl rfl (by decide) lk2 rfl rfl dX1_orderFaces_26 ?_
        refine k_iload_n C 2 dX1_orderFaces_29 rfl rfl ?_
        refine k_iconst C (v := (nI 1)) dX1_orderFaces_30 (by decide) ?_
        refine k_isubN C (by omega) dX1_orderFaces_31 ?_
        refine k_topi (nI k) (by rw [Nat.add_sub_cancel]) ?_
        refine k_aald C (j := k) 10 2 rfl rfl (by omega) (by decide) rfl dX1_orderFaces_32 ?_
        refine k_callVNI C (ar := 0) (As := []) (rest := [.int (nI ((rn (q (k + 1)) 0) * 24 + (rn (q (k + 1)) 1)))]) (h0_rank (kxL X) (kxD X) cI cJ cF cD (hq _)) ggX1_orderFaces_X0_rank rfl rfl rfl lk3 lk4 lk5 lk6 (by decide +kernel) ⟨Nat.le_of_ble_eq_true rfl, Nat.le_of_ble_eq_true rfl⟩ (15 + (q k)) (wB_f (hq _)) rfl rfl rfl (Nat.le_of_ble_eq_true rfl) dX1_orderFaces_33 (Nat.zero_le _) (Nat.zero_le _) (fun r w hw => ?_)
        obtain ⟨rfl, rfl⟩ := hw
        refine k_icmp_geN C (by omega) (by omega) 75 dX1_orderFaces_36 (by decide) (fun h_2 => ?_) (fun h_2 => ?_)
        · refine k_iinc C (v := (nI (j2 + 1))) (lv' := [(1, .int (nI (j2 + 1))), (0, .ref (ba 5)), (2, .int (nI (k + 1)))]) 1 dX1_orderFaces_75 rfl (nI_1 _) (by decide) rfl ?_
          refine k_goto C 2 dX1_orderFaces_78 (by decide) ?_
          have w59_0 : q = (ordS (rkN rn) pm ((j2 + 1) - 1)) := by rw [show j2 + 1 - 1 = (j2 - 1) + 1 by omega, ordS, show j2 - 1 + 1 = j2 by omega, ← g12]; first | rfl | rw [insS, if_neg (Nat.not_lt.mpr (by assumption))]
          refine k_ws (ws' := (wB ba fa ra cI cJ cF hb ps (nI nf) co ec asz sx tr (ordS (rkN rn) pm ((j2 + 1) - 1)) xs ys zs ax ay az al el eh mo nx ny nz dd hd sz rn)) (by rw [← w59_0]) ?_
          exact k_lv [1, 0] rfl (ih2 (j2 + 1) (by omega) (by omega) (by omega))
        · refine k_aload_n C 0 dX1_orderFaces_39 rfl rfl ?_
          refine k_get C hinX1 5 1 rfl rfl (by decide) lk2 rfl rfl dX1_orderFaces_40 ?_
          refine k_iload_n C 2 dX1_orderFaces_43 rfl rfl ?_
          refine k_aald C (j := (k + 1)) 10 2 rfl rfl (by omega) (by decide) rfl dX1_orderFaces_44 ?_
          refine k_astore_n C (lv' := [(3, .ref (fa (q (k + 1)))), (0, .ref (ba 5)), (1, .int (nI j2)), (2, .int (nI (k + 1)))]) dX1_orderFaces_45 rfl (by decide) rfl ?_
          refine k_aload_n C 1 dX1_orderFaces_46 rfl rfl ?_
          refine k_get C hinX1 5 1 rfl rfl (by decide) lk2 rfl rfl dX1_orderFaces_47 ?_
          refine k_iload_n C 3 dX1_orderFaces_50 rfl rfl ?_
          refine k_aload_n C 1 dX1_orderFaces_51 rfl rfl ?_
          refine k_get C hinX1 5 1 rfl rfl (by decide) lk2 rfl rfl dX1_orderFaces_52 ?_
          refine k_iload_n C 3 dX1_orderFaces_55 rfl rfl ?_
          refine k_iconst C (v := (nI 1)) dX1_orderFaces_56 (by decide) ?_
          refine k_isubN C (by omega) dX1_orderFaces_57 ?_
          refine k_topi (nI k) (by rw [Nat.add_sub_cancel]) ?_
          refine k_aald C (j := k) 10 2 rfl rfl (by omega) (by decide) rfl dX1_orderFaces_58 ?_
          refine k_aast C (ws' := (wB ba fa ra cI cJ cF hb ps (nI nf) co ec asz sx tr (updN q (k + 1) (q k)) xs ys zs ax ay az al el eh mo nx ny nz dd hd sz rn)) (j := (k + 1)) (r := (RX0, TX0, 7)) 10 2 (15 + (q k)) rfl rfl (wB_f (hq _)) rfl (by omega) (by decide) (wB_spm _ _) dX1_orderFaces_59 ?_
          refine k_aload_n C 1 dX1_orderFaces_60 rfl rfl ?_
          refine k_get C hinX1 5 1 rfl rfl (by decide) lk2 rfl rfl dX1_orderFaces_61 ?_
          refine k_iload_n C 3 dX1_orderFaces_64 rfl rfl ?_
          refine k_iconst C (v := (nI 1)) dX1_orderFaces_65 (by decide) ?_
          refine k_isubN C (by omega) dX1_orderFaces_66 ?_
          refine k_topi (nI k) (by rw [Nat.add_sub_cancel]) ?_
          refine k_aload_n C 0 dX1_orderFaces_67 rfl rfl ?_
          refine k_aast C (ws' := (wB ba fa ra cI cJ cF hb ps (nI nf) co ec asz sx tr (updN (updN q (k + 1) (q k)) k (q (k + 1))) xs ys zs ax ay az al el eh mo nx ny nz dd hd sz rn)) (j := k) (r := (RX0, TX0, 7)) 10 2 (15 + (q (k + 1))) rfl rfl (wB_f (hq _)) rfl (by omega) (by decide) (wB_spm _ _) dX1_orderFaces_68 ?_
          refine k_iinc C (v := (nI k)) (lv' := [(2, .int (nI k)), (3, .ref (fa (q (k + 1)))), (0, .ref (ba 5)), (1, .int (nI j2))]) 3 dX1_orderFaces_69 rfl (pk_m1 _) (by decide) rfl ?_
          refine k_goto C 12 dX1_orderFaces_72 (by decide) ?_
          have w88_0 : (updN (updN q (k + 1) (q k)) k (q (k + 1))) = (swpN q (k + 1) k) := rfl
          refine k_ws (ws' := (wB ba fa ra cI cJ cF hb ps (nI nf) co ec asz sx tr (swpN q (k + 1) k) xs ys zs ax ay az al el eh mo nx ny nz dd hd sz rn)) (by rw [← w88_0]) ?_
          exact k_lv [2, 3, 0] rfl (ihk _ (by omega) (swpN_lt hq) (by rw [← g12, insS, if_pos (by assumption)]))
set_option maxHeartbeats 4000000 in
set_option maxRecDepth 100000 in
theorem h1_noteWays (l : Launch) (D : va_G) (cI cJ cF cD : ClassId) {ba fa ra : Nat → Nat} {hb : Int32} {ps : Int32} {co : Int32} {ec : Int32} {asz : Int32} {sx : Int64} {tr : Nat} {pm : Nat → Nat} {xs : Nat → Int32} {ys : Nat → Int32} {zs : Nat → Int32} {ax : Nat → Int32} {ay : Nat → Int32} {az : Nat → Int32} {al : Nat → Int32} {el : Nat → Nat} {eh : Nat → Nat} {mo : Nat → Int64} {nx : Nat → Int64} {ny : Nat → Int64} {nz : Nat → Int64} {dd : Nat → Int64} {hd : Nat → Int32} {sz : Nat → Nat} {rn : Nat → Nat → Nat} {nf : Nat} (hnf : nf ≤ 44) (hpm : ∀ x, pm x < 45) (hrn : ∀ x k, rn x k < 24) (hsz : ∀ x, sz x ≤ 24) : CtV l D (tyG cI cJ cF cD) yX1_noteWays wsX1_noteWays ({ frames := 1, cells := 0, slots := 0, locals := 23 }) [.ref (ba 5)] (wB ba fa ra cI cJ cF hb ps (nI nf) co ec asz sx tr pm xs ys zs ax ay az al el eh mo nx ny nz dd hd sz rn) (fun w => w = (wB ba fa ra cI cJ cF hb ps (nI nf) co ec asz sx tr pm xs ys zs ax ay az (wyA (filI al (-1) 576) pm sz rn nf) el eh mo nx ny nz dd hd sz rn)) := by
  refine ctV_of (cc := cX1_noteWays) (maxL := 5) (by decide) rfl (Nat.le_of_ble_eq_true rfl) ?_
  intro X hXl hXd C hret
  have lk0 : Cond.fieldLink RX1 29 "HullBuilder$Hull" "faceAlong" "[I" ∈ wsX1_noteWays := by decide +kernel
  have hinX1 : ∀ w ∈ wsX10, w ∈ wsX1_noteWays := by decide +kernel
  have lk2 : Cond.fieldLink RX1 65 "HullBuilder$Hull" "faceCount" "I" ∈ wsX1_noteWays := by decide +kernel
  have lk3 : Cond.fieldLink RX1 20 "HullBuilder$Hull" "faces" "[LHullBuilder$Face;" ∈ wsX1_noteWays := by decide +kernel
  have lk4 : Cond.fieldLinkNest RX1 125 "HullBuilder$Face" "size" "I" "HullBuilder" ∈ kNW := by decide +kernel
  have hinX0 : ∀ w ∈ wsX00, w ∈ wsX1_noteWays := by decide +kernel
  have lk6 : Cond.fieldLinkNest RX1 126 "HullBuilder$Face" "ring" "[I" "HullBuilder" ∈ kNW := by decide +kernel
  have lk7 : Cond.methodLinkNest RX1 115 yX3_way "HullBuilder" ∈ kNW := by decide +kernel
  have lk8 : Cond.initialized RX3 ∈ wsX1_noteWays := by decide +kernel
  have lk9 : Cond.static yX3_way ∈ wsX1_noteWays := by decide +kernel
  show Kw X 0 0 (wB ba fa ra cI cJ cF hb ps (nI nf) co ec asz sx tr pm xs ys zs ax ay az al el eh mo nx ny nz dd hd sz rn) 0 [(0, .ref (ba 5))] []
  refine k_aload_n C 0 dX1_noteWays_0 rfl rfl ?_
  refine k_get C hinX1 5 5 rfl rfl (by decide) lk0 rfl rfl dX1_noteWays_1 ?_
  refine k_iconst C (v := (-1)) dX1_noteWays_4 (by decide) ?_
  refine k_callSV C (ar := 2) (As := [.ref (ba 11), .int (-1)]) (rest := []) (h7_fill_53178 (kxL X) (kxD X) cI cJ cF cD (-1)) gX1_noteWays_J7_fill_53178 rfl rfl rfl (by decide +kernel) ⟨Nat.le_of_ble_eq_true rfl, Nat.le_of_ble_eq_true rfl⟩ rfl rfl (Nat.le_of_ble_eq_true rfl) dX1_noteWays_5 (Nat.zero_le _) (Nat.zero_le _) (fun w hw => ?_)
  subst hw
  refine k_iconst C (v := (nI 0)) dX1_noteWays_8 (by decide) ?_
  refine k_istore_n C (lv' := [(1, .int (nI 0)), (0, .ref (ba 5))]) dX1_noteWays_9 rfl (by decide) rfl ?_
  suffices L10 : ∀ (n10 j10 : Nat), j10 ≤ nf → nf + 1 ≤ j10 + n10 → Kw X 0 0 (wB ba fa ra cI cJ cF hb ps (nI nf) co ec asz sx tr pm xs ys zs ax ay az (wyA (filI al (-1) 576) pm sz rn j10) el eh mo nx ny nz dd hd sz rn) 10 [(0, .ref (ba 5)), (1, .int (nI j10))] [] by
    have w8_0 : (filI al (-1) 576) = (wyA (filI al (-1) 576) pm sz rn 0) := rfl
    refine k_ws (ws' := (wB ba fa ra cI cJ cF hb ps (nI nf) co ec asz sx tr pm xs ys zs ax ay az (wyA (filI al (-1) 576) pm sz rn 0) el eh mo nx ny nz dd hd sz rn)) (by rw [← w8_0]) ?_
    exact k_lv [1, 0] rfl (L10 (nf + 1) 0 (by omega) (by omega))
  intro n10
  induction n10 with
  | zero => intro j10 a1 a2; exact absurd a2 (by omega)
  | succ n10 ih10 =>
    intro j10 b10 c10
    refine k_iload_n C 1 dX1_noteWays_10 rfl rfl ?_
    refine k_aload_n C 0 dX1_noteWays_11 rfl rfl ?_
    refine k_get C hinX1 5 3 rfl rfl (by decide) lk2 rfl rfl dX1_noteWays_12 ?_
    refine k_icmp_geN C (by omega) (by omega) 88 dX1_noteWays_15 (by decide) (fun h_1 => ?_) (fun h_1 => ?_)
    · exact hret _ _ _ (by rw [show j10 = nf by omega]) dX1_noteWays_88
    · refine k_aload_n C 0 dX1_noteWays_18 rfl rfl ?_
      refine k_get C hinX1 5 1 rfl rfl (by decide) lk3 rfl rfl dX1_noteWays_19 ?_
      refine k_iload_n C 1 dX1_noteWays_22 rfl rfl ?_
      refine k_aald C (j := j10) 10 2 rfl rfl (by omega) (by decide) rfl dX1_noteWays_23 ?_
      refine k_astore_n C (lv' := [(2, .ref (fa (pm j10))), (0, .ref (ba 5)), (1, .int (nI j10))]) dX1_noteWays_24 rfl (by decide) rfl ?_
      have hs9 := hsz (pm j10)
      refine k_iconst C (v := (nI 0)) dX1_noteWays_25 (by decide) ?_
      refine k_istore_n C (lv' := [(3, .int (nI 0)), (2, .ref (fa (pm j10))), (0, .ref (ba 5)), (1, .int (nI j10))]) dX1_noteWays_26 rfl (by decide) rfl ?_
      suffices L27 : ∀ (n27 j27 : Nat), j27 ≤ sz (pm j10) → sz (pm j10) + 1 ≤ j27 + n27 → Kw X 0 0 (wB ba fa ra cI cJ cF hb ps (nI nf) co ec asz sx tr pm xs ys zs ax ay az (wyF (wyA (filI al (-1) 576) pm sz rn j10) j10 (sz (pm j10)) (rn (pm j10)) j27) el eh mo nx ny nz dd hd sz rn) 27 [(0, .ref (ba 5)), (1, .int (nI j10)), (2, .ref (fa (pm j10))), (3, .int (nI j27))] [] by
        have w31_0 : (wyA (filI al (-1) 576) pm sz rn j10) = (wyF (wyA (filI al (-1) 576) pm sz rn j10) j10 (sz (pm j10)) (rn (pm j10)) 0) := rfl
        refine k_ws (ws' := (wB ba fa ra cI cJ cF hb ps (nI nf) co ec asz sx tr pm xs ys zs ax ay az (wyF (wyA (filI al (-1) 576) pm sz rn j10) j10 (sz (pm j10)) (rn (pm j10)) 0) el eh mo nx ny nz dd hd sz rn)) (by rw [← w31_0]) ?_
        exact k_lv [2, 3, 1, 0] rfl (L27 (sz (pm j10) + 1) 0 (by omega) (by omega))
      intro n27
      induction n27 with
      | zero => intro j27 a1 a2; exact absurd a2 (by omega)
      | succ n27 ih27 =>
        intro j27 b27 c27
        refine k_iload_n C 3 dX1_noteWays_27 rfl rfl ?_
        refine k_aload_n C 2 dX1_noteWays_28 rfl rfl ?_
        refine k_getN C hinX0 (15 + (pm j10)) 6 (wB_f (hpm _)) rfl (by decide) lk4 rfl rfl dX1_noteWays_29 ?_
        refine k_icmp_geN C (by omega) (by omega) 82 dX1_noteWays_32 (by decide) (fun h_2 => ?_) (fun h_2 => ?_)
        · refine k_iinc C (v := (nI (j10 + 1))) (lv' := [(1, .int (nI (j10 + 1))), (0, .ref (ba 5)), (2, .ref (fa (pm j10))), (3, .int (nI j27))]) 1 dX1_noteWays_82 rfl (nI_1 _) (by decide) rfl ?_
          refine k_goto C 10 dX1_noteWays_85 (by decide) ?_
          have w46_0 : (wyF (wyA (filI al (-1) 576) pm sz rn j10) j10 (sz (pm j10)) (rn (pm j10)) j27) = (wyA (filI al (-1) 576) pm sz rn (j10 + 1)) := by rw [wyA, ← show j27 = sz (pm j10) by omega]
          refine k_ws (ws' := (wB ba fa ra cI cJ cF hb ps (nI nf) co ec asz sx tr pm xs ys zs ax ay az (wyA (filI al (-1) 576) pm sz rn (j10 + 1)) el eh mo nx ny nz dd hd sz rn)) (by rw [← w46_0]) ?_
          exact k_lv [1, 0] rfl (ih10 (j10 + 1) (by omega) (by omega))
        · refine k_iload_n C 3 dX1_noteWays_35 rfl rfl ?_
          refine k_iconst C (v := (nI 1)) dX1_noteWays_36 (by decide) ?_
          refine k_iaddN C dX1_noteWays_37 ?_
          refine k_aload_n C 2 dX1_noteWays_38 rfl rfl ?_
          refine k_getN C hinX0 (15 + (pm j10)) 6 (wB_f (hpm _)) rfl (by decide) lk4 rfl rfl dX1_noteWays_39 ?_
          refine k_icmp_geN C (by omega) (by omega) 51 dX1_noteWays_42 (by decide) (fun h_3 => ?_) (fun h_3 => ?_)
          · refine k_iconst C (v := (nI 0)) dX1_noteWays_51 (by decide) ?_
            have hr1 := hrn (pm j10) j27
            have hr2 := hrn (pm j10) 0
            refine k_istore C (lv' := [(4, .int (nI 0)), (0, .ref (ba 5)), (1, .int (nI j10)), (2, .ref (fa (pm j10))), (3, .int (nI j27))]) dX1_noteWays_52 (by decide) rfl ?_
            refine k_aload_n C 1 dX1_noteWays_54 rfl rfl ?_
            refine k_get C hinX1 5 5 rfl rfl (by decide) lk0 rfl rfl dX1_noteWays_55 ?_
            refine k_aload_n C 3 dX1_noteWays_58 rfl rfl ?_
            refine k_getN C hinX0 (15 + (pm j10)) 5 (wB_f (hpm _)) rfl (by decide) lk6 rfl rfl dX1_noteWays_59 ?_
            refine k_iload_n C 4 dX1_noteWays_62 rfl rfl ?_
            refine k_ialdN C (j := j27) (60 + (pm j10)) 0 (wB_r (hpm _)) rfl (by omega) (by decide) dX1_noteWays_63 ?_
            refine k_aload_n C 3 dX1_noteWays_64 rfl rfl ?_
            refine k_getN C hinX0 (15 + (pm j10)) 5 (wB_f (hpm _)) rfl (by decide) lk6 rfl rfl dX1_noteWays_65 ?_
            refine k_iload C 0 dX1_noteWays_68 rfl ?_
            refine k_ialdN C (j := 0) (60 + (pm j10)) 0 (wB_r (hpm _)) rfl (by omega) (by decide) dX1_noteWays_70 ?_
            refine k_callSNI C (ar := 2) (As := [.int (nI ((rn (pm j10)) j27)), .int (nI ((rn (pm j10)) 0))]) (rest := [.ref (ba 11)]) (h3_way (kxL X) (kxD X) cI cJ cF cD _ ((rn (pm j10)) j27) ((rn (pm j10)) 0)) ggX1_noteWays_X3_way rfl rfl rfl lk7 lk8 lk9 (by decide +kernel) ⟨Nat.le_of_ble_eq_true rfl, Nat.le_of_ble_eq_true rfl⟩ rfl rfl (Nat.le_of_ble_eq_true rfl) dX1_noteWays_71 (Nat.zero_le _) (Nat.zero_le _) (fun r w hw => ?_)
            obtain ⟨rfl, rfl⟩ := hw
            refine k_iload_n C 2 dX1_noteWays_74 rfl rfl ?_
            refine k_iast C (ws' := (wB ba fa ra cI cJ cF hb ps (nI nf) co ec asz sx tr pm xs ys zs ax ay az (upd (wyF (wyA (filI al (-1) 576) pm sz rn j10) j10 (sz (pm j10)) (rn (pm j10)) j27) (((rn (pm j10)) j27) * 24 + ((rn (pm j10)) 0)) (nI j10)) el eh mo nx ny nz dd hd sz rn)) (j := (((rn (pm j10)) j27) * 24 + ((rn (pm j10)) 0))) 11 0 rfl rfl (by omega) (by decide) rfl dX1_noteWays_75 ?_
            refine k_iinc C (v := (nI (j27 + 1))) (lv' := [(3, .int (nI (j27 + 1))), (4, .int (nI 0)), (0, .ref (ba 5)), (1, .int (nI j10)), (2, .ref (fa (pm j10)))]) 4 dX1_noteWays_76 rfl (nI_1 _) (by decide) rfl ?_
            refine k_goto C 27 dX1_noteWays_79 (by decide) ?_
            have w76_0 : (upd (wyF (wyA (filI al (-1) 576) pm sz rn j10) j10 (sz (pm j10)) (rn (pm j10)) j27) (((rn (pm j10)) j27) * 24 + ((rn (pm j10)) 0)) (nI j10)) = (wyF (wyA (filI al (-1) 576) pm sz rn j10) j10 (sz (pm j10)) (rn (pm j10)) (j27 + 1)) := by rw [wyF, nxK, if_neg (by omega)]
            refine k_ws (ws' := (wB ba fa ra cI cJ cF hb ps (nI nf) co ec asz sx tr pm xs ys zs ax ay az (wyF (wyA (filI al (-1) 576) pm sz rn j10) j10 (sz (pm j10)) (rn (pm j10)) (j27 + 1)) el eh mo nx ny nz dd hd sz rn)) (by rw [← w76_0]) ?_
            exact k_lv [2, 3, 4, 0] rfl (ih27 (j27 + 1) (by omega) (by omega))
          · refine k_iload_n C 3 dX1_noteWays_45 rfl rfl ?_
            refine k_iconst C (v := (nI 1)) dX1_noteWays_46 (by decide) ?_
            refine k_iaddN C dX1_noteWays_47 ?_
            refine k_goto C 52 dX1_noteWays_48 (by decide) ?_
            have hr1 := hrn (pm j10) j27
            have hr2 := hrn (pm j10) (j27 + 1)
            refine k_istore C (lv' := [(4, .int (nI (j27 + 1))), (0, .ref (ba 5)), (1, .int (nI j10)), (2, .ref (fa (pm j10))), (3, .int (nI j27))]) dX1_noteWays_52 (by decide) rfl ?_
            refine k_aload_n C 1 dX1_noteWays_54 rfl rfl ?_
            refine k_get C hinX1 5 5 rfl rfl (by decide) lk0 rfl rfl dX1_noteWays_55 ?_
            refine k_aload_n C 3 dX1_noteWays_58 rfl rfl ?_
            refine k_getN C hinX0 (15 + (pm j10)) 5 (wB_f (hpm _)) rfl (by decide) lk6 rfl rfl dX1_noteWays_59 ?_
            refine k_iload_n C 4 dX1_noteWays_62 rfl rfl ?_
            refine k_ialdN C (j := j27) (60 + (pm j10)) 0 (wB_r (hpm _)) rfl (by omega) (by decide) dX1_noteWays_63 ?_
            refine k_aload_n C 3 dX1_noteWays_64 rfl rfl ?_
            refine k_getN C hinX0 (15 + (pm j10)) 5 (wB_f (hpm _)) rfl (by decide) lk6 rfl rfl dX1_noteWays_65 ?_
            refine k_iload C 0 dX1_noteWays_68 rfl ?_
            refine k_ialdN C (j := (j27 + 1)) (60 + (pm j10)) 0 (wB_r (hpm _)) rfl (by omega) (by decide) dX1_noteWays_70 ?_
            refine k_callSNI C (ar := 2) (As := [.int (nI ((rn (pm j10)) j27)), .int (nI ((rn (pm j10)) (j27 + 1)))]) (rest := [.ref (ba 11)]) (h3_way (kxL X) (kxD X) cI cJ cF cD _ ((rn (pm j10)) j27) ((rn (pm j10)) (j27 + 1))) ggX1_noteWays_X3_way rfl rfl rfl lk7 lk8 lk9 (by decide +kernel) ⟨Nat.le_of_ble_eq_true rfl, Nat.le_of_ble_eq_true rfl⟩ rfl rfl (Nat.le_of_ble_eq_true rfl) dX1_noteWays_71 (Nat.zero_le _) (Nat.zero_le _) (fun r w hw => ?_)
            obtain ⟨rfl, rfl⟩ := hw
            refine k_iload_n C 2 dX1_noteWays_74 rfl rfl ?_
            refine k_iast C (ws' := (wB ba fa ra cI cJ cF hb ps (nI nf) co ec asz sx tr pm xs ys zs ax ay az (upd (wyF (wyA (filI al (-1) 576) pm sz rn j10) j10 (sz (pm j10)) (rn (pm j10)) j27) (((rn (pm j10)) j27) * 24 + ((rn (pm j10)) (j27 + 1))) (nI j10)) el eh mo nx ny nz dd hd sz rn)) (j := (((rn (pm j10)) j27) * 24 + ((rn (pm j10)) (j27 + 1)))) 11 0 rfl rfl (by omega) (by decide) rfl dX1_noteWays_75 ?_
            refine k_iinc C (v := (nI (j27 + 1))) (lv' := [(3, .int (nI (j27 + 1))), (4, .int (nI (j27 + 1))), (0, .ref (ba 5)), (1, .int (nI j10)), (2, .ref (fa (pm j10)))]) 4 dX1_noteWays_76 rfl (nI_1 _) (by decide) rfl ?_
            refine k_goto C 27 dX1_noteWays_79 (by decide) ?_
            have w102_0 : (upd (wyF (wyA (filI al (-1) 576) pm sz rn j10) j10 (sz (pm j10)) (rn (pm j10)) j27) (((rn (pm j10)) j27) * 24 + ((rn (pm j10)) (j27 + 1))) (nI j10)) = (wyF (wyA (filI al (-1) 576) pm sz rn j10) j10 (sz (pm j10)) (rn (pm j10)) (j27 + 1)) := by rw [wyF, nxK, if_pos (by omega)]
            refine k_ws (ws' := (wB ba fa ra cI cJ cF hb ps (nI nf) co ec asz sx tr pm xs ys zs ax ay az (wyF (wyA (filI al (-1) 576) pm sz rn j10) j10 (sz (pm j10)) (rn (pm j10)) (j27 + 1)) el eh mo nx ny nz dd hd sz rn)) (by rw [← w102_0]) ?_
            exact k_lv [2, 3, 4, 0] rfl (ih27 (j27 + 1) (by omega) (by omega))
set_option maxHeartbeats 4000000 in
set_option maxRecDepth 100000 in
theorem h1_findEdges (l : Launch) (D : va_G) (cI cJ cF cD : ClassId) {ba fa ra : Nat → Nat} {hb : Int32} {ps : Int32} {co : Int32} {ec : Int32} {sx : Int64} {tr : Nat} {pm : Nat → Nat} {xs : Nat → Int32} {ys : Nat → Int32} {zs : Nat → Int32} {ax : Nat → Int32} {ay : Nat → Int32} {az : Nat → Int32} {al : Nat → Int32} {el : Nat → Nat} {eh : Nat → Nat} {mo : Nat → Int64} {nx : Nat → Int64} {ny : Nat → Int64} {nz : Nat → Int64} {dd : Nat → Int64} {hd : Nat → Int32} {sz : Nat → Nat} {rn : Nat → Nat → Nat} {nf nh : Nat} (hh : nh ≤ 24) (hnf : nf ≤ 44) (hpm : ∀ x, pm x < 45) (hrn : ∀ x k, rn x k < 24) (hsz : ∀ x, sz x ≤ 24) : CtV l D (tyG cI cJ cF cD) yX1_findEdges wsX1_findEdges ({ frames := 2, cells := 0, slots := 0, locals := 47 }) [.ref (ba 5)] (wB ba fa ra cI cJ cF hb ps (nI nf) co ec (nI nh) sx tr pm xs ys zs ax ay az al el eh mo nx ny nz dd hd sz rn) (fun w => w = (wB ba fa ra cI cJ cF hb ps (nI nf) co (nI ((edgC (wyA (filI al (-1) 576) pm sz rn nf) nh (0, el, eh) nh).1)) (nI nh) sx tr pm xs ys zs ax ay az (wyA (filI al (-1) 576) pm sz rn nf) ((edgC (wyA (filI al (-1) 576) pm sz rn nf) nh (0, el, eh) nh).2.1) ((edgC (wyA (filI al (-1) 576) pm sz rn nf) nh (0, el, eh) nh).2.2) mo nx ny nz dd hd sz rn)) := by
  refine ctV_of (cc := cX1_findEdges) (maxL := 3) (by decide) rfl (Nat.le_of_ble_eq_true rfl) ?_
  intro X hXl hXd C hret
  have lk0 : Cond.fieldLink RX1 112 "HullBuilder$Hull" "edgeCount" "I" ∈ wsX1_findEdges := by decide +kernel
  have hinX1 : ∀ w ∈ wsX10, w ∈ wsX1_findEdges := by decide +kernel
  have lk2 : Cond.fieldLink RX1 12 "HullBuilder$Hull" "at" "LHullBuilder$Points;" ∈ wsX1_findEdges := by decide +kernel
  have lk3 : Cond.fieldLinkNest RX1 43 "HullBuilder$Points" "size" "I" "HullBuilder" ∈ kNW := by decide +kernel
  have hinX2 : ∀ w ∈ wsX20, w ∈ wsX1_findEdges := by decide +kernel
  have lk5 : Cond.fieldLink RX1 29 "HullBuilder$Hull" "faceAlong" "[I" ∈ wsX1_findEdges := by decide +kernel
  have lk6 : Cond.methodLinkNest RX1 115 yX3_way "HullBuilder" ∈ kNW := by decide +kernel
  have lk7 : Cond.initialized RX3 ∈ wsX1_findEdges := by decide +kernel
  have lk8 : Cond.static yX3_way ∈ wsX1_findEdges := by decide +kernel
  have lk9 : Cond.fieldLink RX1 33 "HullBuilder$Hull" "edgeLow" "[I" ∈ wsX1_findEdges := by decide +kernel
  have lk10 : Cond.fieldLink RX1 36 "HullBuilder$Hull" "edgeHigh" "[I" ∈ wsX1_findEdges := by decide +kernel
  show Kw X 0 0 (wB ba fa ra cI cJ cF hb ps (nI nf) co ec (nI nh) sx tr pm xs ys zs ax ay az al el eh mo nx ny nz dd hd sz rn) 0 [(0, .ref (ba 5))] []
  refine k_aload_n C 0 dX1_findEdges_0 rfl rfl ?_
  refine k_callVV C (ar := 0) (As := []) (rest := []) (h1_noteWays (kxL X) (kxD X) cI cJ cF cD hnf hpm hrn hsz) gX1_findEdges_X1_noteWays rfl rfl rfl (by decide +kernel) ⟨Nat.le_of_ble_eq_true rfl, Nat.le_of_ble_eq_true rfl⟩ 5 rfl rfl rfl rfl (Nat.le_of_ble_eq_true rfl) dX1_findEdges_1 (Nat.zero_le _) (Nat.zero_le _) (fun w hw => ?_)
  subst hw
  refine k_aload_n C 0 dX1_findEdges_4 rfl rfl ?_
  refine k_iconst C (v := (nI 0)) dX1_findEdges_5 (by decide) ?_
  refine k_put C (ws' := (wB ba fa ra cI cJ cF hb ps (nI nf) co (nI 0) (nI nh) sx tr pm xs ys zs ax ay az (wyA (filI al (-1) 576) pm sz rn nf) el eh mo nx ny nz dd hd sz rn)) hinX1 tyX1 tyX1_ok nmX1 5 8 rfl rfl (by decide) lk0 rfl rfl rfl rfl (Nat.le_of_ble_eq_true rfl) rfl dX1_findEdges_6 ?_
  refine k_iconst C (v := (nI 0)) dX1_findEdges_9 (by decide) ?_
  refine k_istore_n C (lv' := [(1, .int (nI 0)), (0, .ref (ba 5))]) dX1_findEdges_10 rfl (by decide) rfl ?_
  suffices L11 : ∀ (n11 j11 : Nat), j11 ≤ nh → nh + 1 ≤ j11 + n11 → Kw X 0 0 (wB ba fa ra cI cJ cF hb ps (nI nf) co (nI ((edgC (wyA (filI al (-1) 576) pm sz rn nf) nh (0, el, eh) j11).1)) (nI nh) sx tr pm xs ys zs ax ay az (wyA (filI al (-1) 576) pm sz rn nf) ((edgC (wyA (filI al (-1) 576) pm sz rn nf) nh (0, el, eh) j11).2.1) ((edgC (wyA (filI al (-1) 576) pm sz rn nf) nh (0, el, eh) j11).2.2) mo nx ny nz dd hd sz rn) 11 [(0, .ref (ba 5)), (1, .int (nI j11))] [] by
    have w9_0 : (nI 0) = (nI ((edgC (wyA (filI al (-1) 576) pm sz rn nf) nh (0, el, eh) 0).1)) := rfl
    have w10_1 : el = ((edgC (wyA (filI al (-1) 576) pm sz rn nf) nh (0, el, eh) 0).2.1) := rfl
    have w11_2 : eh = ((edgC (wyA (filI al (-1) 576) pm sz rn nf) nh (0, el, eh) 0).2.2) := rfl
    refine k_ws (ws' := (wB ba fa ra cI cJ cF hb ps (nI nf) co (nI ((edgC (wyA (filI al (-1) 576) pm sz rn nf) nh (0, el, eh) 0).1)) (nI nh) sx tr pm xs ys zs ax ay az (wyA (filI al (-1) 576) pm sz rn nf) ((edgC (wyA (filI al (-1) 576) pm sz rn nf) nh (0, el, eh) 0).2.1) ((edgC (wyA (filI al (-1) 576) pm sz rn nf) nh (0, el, eh) 0).2.2) mo nx ny nz dd hd sz rn)) (by rw [← w9_0, ← w10_1, ← w11_2]) ?_
    exact k_lv [1, 0] rfl (L11 (nh + 1) 0 (by omega) (by omega))
  intro n11
  induction n11 with
  | zero => intro j11 a1 a2; exact absurd a2 (by omega)
  | succ n11 ih11 =>
    intro j11 b11 c11
    refine k_iload_n C 1 dX1_findEdges_11 rfl rfl ?_
    refine k_aload_n C 0 dX1_findEdges_12 rfl rfl ?_
    refine k_get C hinX1 5 0 rfl rfl (by decide) lk2 rfl rfl dX1_findEdges_13 ?_
    refine k_getN C hinX2 6 3 rfl rfl (by decide) lk3 rfl rfl dX1_findEdges_16 ?_
    refine k_icmp_geN C (by omega) (by omega) 102 dX1_findEdges_19 (by decide) (fun h_1 => ?_) (fun h_1 => ?_)
    · exact hret _ _ _ (by rw [show j11 = nh by omega]) dX1_findEdges_102
    · refine k_iload_n C 1 dX1_findEdges_22 rfl rfl ?_
      refine k_iconst C (v := (nI 1)) dX1_findEdges_23 (by decide) ?_
      refine k_iaddN C dX1_findEdges_24 ?_
      refine k_istore_n C (lv' := [(2, .int (nI (j11 + 1))), (0, .ref (ba 5)), (1, .int (nI j11))]) dX1_findEdges_25 rfl (by decide) rfl ?_
      suffices L26 : ∀ (n26 j26 : Nat), j26 ≤ nh → nh + 1 ≤ j26 + n26 → j11 + 1 ≤ j26 → Kw X 0 0 (wB ba fa ra cI cJ cF hb ps (nI nf) co (nI ((rowC (wyA (filI al (-1) 576) pm sz rn nf) j11 (edgC (wyA (filI al (-1) 576) pm sz rn nf) nh (0, el, eh) j11) (j26 - (j11 + 1))).1)) (nI nh) sx tr pm xs ys zs ax ay az (wyA (filI al (-1) 576) pm sz rn nf) ((rowC (wyA (filI al (-1) 576) pm sz rn nf) j11 (edgC (wyA (filI al (-1) 576) pm sz rn nf) nh (0, el, eh) j11) (j26 - (j11 + 1))).2.1) ((rowC (wyA (filI al (-1) 576) pm sz rn nf) j11 (edgC (wyA (filI al (-1) 576) pm sz rn nf) nh (0, el, eh) j11) (j26 - (j11 + 1))).2.2) mo nx ny nz dd hd sz rn) 26 [(0, .ref (ba 5)), (1, .int (nI j11)), (2, .int (nI j26))] [] by
        have w31_0 : (nI ((edgC (wyA (filI al (-1) 576) pm sz rn nf) nh (0, el, eh) j11).1)) = (nI ((rowC (wyA (filI al (-1) 576) pm sz rn nf) j11 (edgC (wyA (filI al (-1) 576) pm sz rn nf) nh (0, el, eh) j11) ((j11 + 1) - (j11 + 1))).1)) := by rw [Nat.sub_self]; rfl
        have w32_1 : ((edgC (wyA (filI al (-1) 576) pm sz rn nf) nh (0, el, eh) j11).2.1) = ((rowC (wyA (filI al (-1) 576) pm sz rn nf) j11 (edgC (wyA (filI al (-1) 576) pm sz rn nf) nh (0, el, eh) j11) ((j11 + 1) - (j11 + 1))).2.1) := by rw [Nat.sub_self]; rfl
        have w33_2 : ((edgC (wyA (filI al (-1) 576) pm sz rn nf) nh (0, el, eh) j11).2.2) = ((rowC (wyA (filI al (-1) 576) pm sz rn nf) j11 (edgC (wyA (filI al (-1) 576) pm sz rn nf) nh (0, el, eh) j11) ((j11 + 1) - (j11 + 1))).2.2) := by rw [Nat.sub_self]; rfl
        refine k_ws (ws' := (wB ba fa ra cI cJ cF hb ps (nI nf) co (nI ((rowC (wyA (filI al (-1) 576) pm sz rn nf) j11 (edgC (wyA (filI al (-1) 576) pm sz rn nf) nh (0, el, eh) j11) ((j11 + 1) - (j11 + 1))).1)) (nI nh) sx tr pm xs ys zs ax ay az (wyA (filI al (-1) 576) pm sz rn nf) ((rowC (wyA (filI al (-1) 576) pm sz rn nf) j11 (edgC (wyA (filI al (-1) 576) pm sz rn nf) nh (0, el, eh) j11) ((j11 + 1) - (j11 + 1))).2.1) ((rowC (wyA (filI al (-1) 576) pm sz rn nf) j11 (edgC (wyA (filI al (-1) 576) pm sz rn nf) nh (0, el, eh) j11) ((j11 + 1) - (j11 + 1))).2.2) mo nx ny nz dd hd sz rn)) (by rw [← w31_0, ← w32_1, ← w33_2]) ?_
        exact k_lv [1, 2, 0] rfl (L26 (nh + 1) (j11 + 1) (by omega) (by omega) (Nat.le_refl _))
      intro n26
      induction n26 with
      | zero => intro j26 a1 a2; exact absurd a2 (by omega)
      | succ n26 ih26 =>
        intro j26 b26 c26 g26_0
        refine k_iload_n C 2 dX1_findEdges_26 rfl rfl ?_
        refine k_aload_n C 0 dX1_findEdges_27 rfl rfl ?_
        refine k_get C hinX1 5 0 rfl rfl (by decide) lk2 rfl rfl dX1_findEdges_28 ?_
        refine k_getN C hinX2 6 3 rfl rfl (by decide) lk3 rfl rfl dX1_findEdges_31 ?_
        refine k_icmp_geN C (by omega) (by omega) 96 dX1_findEdges_34 (by decide) (fun h_2 => ?_) (fun h_2 => ?_)
        · refine k_iinc C (v := (nI (j11 + 1))) (lv' := [(1, .int (nI (j11 + 1))), (0, .ref (ba 5)), (2, .int (nI j26))]) 1 dX1_findEdges_96 rfl (nI_1 _) (by decide) rfl ?_
          refine k_goto C 11 dX1_findEdges_99 (by decide) ?_
          have w49_0 : (nI ((rowC (wyA (filI al (-1) 576) pm sz rn nf) j11 (edgC (wyA (filI al (-1) 576) pm sz rn nf) nh (0, el, eh) j11) (j26 - (j11 + 1))).1)) = (nI ((edgC (wyA (filI al (-1) 576) pm sz rn nf) nh (0, el, eh) (j11 + 1)).1)) := by rw [edgC, show nh - (j11 + 1) = j26 - (j11 + 1) by omega]
          have w50_1 : ((rowC (wyA (filI al (-1) 576) pm sz rn nf) j11 (edgC (wyA (filI al (-1) 576) pm sz rn nf) nh (0, el, eh) j11) (j26 - (j11 + 1))).2.1) = ((edgC (wyA (filI al (-1) 576) pm sz rn nf) nh (0, el, eh) (j11 + 1)).2.1) := by rw [edgC, show nh - (j11 + 1) = j26 - (j11 + 1) by omega]
          have w51_2 : ((rowC (wyA (filI al (-1) 576) pm sz rn nf) j11 (edgC (wyA (filI al (-1) 576) pm sz rn nf) nh (0, el, eh) j11) (j26 - (j11 + 1))).2.2) = ((edgC (wyA (filI al (-1) 576) pm sz rn nf) nh (0, el, eh) (j11 + 1)).2.2) := by rw [edgC, show nh - (j11 + 1) = j26 - (j11 + 1) by omega]
          refine k_ws (ws' := (wB ba fa ra cI cJ cF hb ps (nI nf) co (nI ((edgC (wyA (filI al (-1) 576) pm sz rn nf) nh (0, el, eh) (j11 + 1)).1)) (nI nh) sx tr pm xs ys zs ax ay az (wyA (filI al (-1) 576) pm sz rn nf) ((edgC (wyA (filI al (-1) 576) pm sz rn nf) nh (0, el, eh) (j11 + 1)).2.1) ((edgC (wyA (filI al (-1) 576) pm sz rn nf) nh (0, el, eh) (j11 + 1)).2.2) mo nx ny nz dd hd sz rn)) (by rw [← w49_0, ← w50_1, ← w51_2]) ?_
          exact k_lv [1, 0] rfl (ih11 (j11 + 1) (by omega) (by omega))
        · have hE9 := rowC_le (al := (wyA (filI al (-1) 576) pm sz rn nf)) (a := j11) (edgC_le (al := (wyA (filI al (-1) 576) pm sz rn nf)) (n := nh) (E := (0, el, eh)) (Nat.zero_le _) j11) (j26 - (j11 + 1))
          refine k_aload_n C 0 dX1_findEdges_37 rfl rfl ?_
          refine k_get C hinX1 5 5 rfl rfl (by decide) lk5 rfl rfl dX1_findEdges_38 ?_
          refine k_iload_n C 1 dX1_findEdges_41 rfl rfl ?_
          refine k_iload_n C 2 dX1_findEdges_42 rfl rfl ?_
          refine k_callSNI C (ar := 2) (As := [.int (nI j11), .int (nI j26)]) (rest := [.ref (ba 11)]) (h3_way (kxL X) (kxD X) cI cJ cF cD _ j11 j26) ggX1_findEdges_X3_way rfl rfl rfl lk6 lk7 lk8 (by decide +kernel) ⟨Nat.le_of_ble_eq_true rfl, Nat.le_of_ble_eq_true rfl⟩ rfl rfl (Nat.le_of_ble_eq_true rfl) dX1_findEdges_43 (Nat.zero_le _) (Nat.zero_le _) (fun r w hw => ?_)
          obtain ⟨rfl, rfl⟩ := hw
          refine k_iald C (j := (j11 * 24 + j26)) 11 0 rfl rfl (by omega) (by decide) dX1_findEdges_46 ?_
          refine k_iconst C (v := (-1)) dX1_findEdges_47 (by decide) ?_
          refine k_icmp_eq C 90 dX1_findEdges_48 (by decide) (fun h_3 => ?_) (fun h_3 => ?_)
          · refine k_iinc C (v := (nI (j26 + 1))) (lv' := [(2, .int (nI (j26 + 1))), (0, .ref (ba 5)), (1, .int (nI j11))]) 2 dX1_findEdges_90 rfl (nI_1 _) (by decide) rfl ?_
            refine k_goto C 26 dX1_findEdges_93 (by decide) ?_
            have w67_0 : (nI ((rowC (wyA (filI al (-1) 576) pm sz rn nf) j11 (edgC (wyA (filI al (-1) 576) pm sz rn nf) nh (0, el, eh) j11) (j26 - (j11 + 1))).1)) = (nI ((rowC (wyA (filI al (-1) 576) pm sz rn nf) j11 (edgC (wyA (filI al (-1) 576) pm sz rn nf) nh (0, el, eh) j11) ((j26 + 1) - (j11 + 1))).1)) := by rw [show j26 + 1 - (j11 + 1) = (j26 - (j11 + 1)) + 1 by omega, rowC, adC, show j11 + 1 + (j26 - (j11 + 1)) = j26 by omega]; first | rw [if_pos (by assumption)] | rw [if_neg (by assumption), if_pos (by assumption)] | rw [if_neg (by assumption), if_neg (Nat.not_le.mpr (by assumption))]
            have w68_1 : ((rowC (wyA (filI al (-1) 576) pm sz rn nf) j11 (edgC (wyA (filI al (-1) 576) pm sz rn nf) nh (0, el, eh) j11) (j26 - (j11 + 1))).2.1) = ((rowC (wyA (filI al (-1) 576) pm sz rn nf) j11 (edgC (wyA (filI al (-1) 576) pm sz rn nf) nh (0, el, eh) j11) ((j26 + 1) - (j11 + 1))).2.1) := by rw [show j26 + 1 - (j11 + 1) = (j26 - (j11 + 1)) + 1 by omega, rowC, adC, show j11 + 1 + (j26 - (j11 + 1)) = j26 by omega]; first | rw [if_pos (by assumption)] | rw [if_neg (by assumption), if_pos (by assumption)] | rw [if_neg (by assumption), if_neg (Nat.not_le.mpr (by assumption))]
            have w69_2 : ((rowC (wyA (filI al (-1) 576) pm sz rn nf) j11 (edgC (wyA (filI al (-1) 576) pm sz rn nf) nh (0, el, eh) j11) (j26 - (j11 + 1))).2.2) = ((rowC (wyA (filI al (-1) 576) pm sz rn nf) j11 (edgC (wyA (filI al (-1) 576) pm sz rn nf) nh (0, el, eh) j11) ((j26 + 1) - (j11 + 1))).2.2) := by rw [show j26 + 1 - (j11 + 1) = (j26 - (j11 + 1)) + 1 by omega, rowC, adC, show j11 + 1 + (j26 - (j11 + 1)) = j26 by omega]; first | rw [if_pos (by assumption)] | rw [if_neg (by assumption), if_pos (by assumption)] | rw [if_neg (by assumption), if_neg (Nat.not_le.mpr (by assumption))]
            refine k_ws (ws' := (wB ba fa ra cI cJ cF hb ps (nI nf) co (nI ((rowC (wyA (filI al (-1) 576) pm sz rn nf) j11 (edgC (wyA (filI al (-1) 576) pm sz rn nf) nh (0, el, eh) j11) ((j26 + 1) - (j11 + 1))).1)) (nI nh) sx tr pm xs ys zs ax ay az (wyA (filI al (-1) 576) pm sz rn nf) ((rowC (wyA (filI al (-1) 576) pm sz rn nf) j11 (edgC (wyA (filI al (-1) 576) pm sz rn nf) nh (0, el, eh) j11) ((j26 + 1) - (j11 + 1))).2.1) ((rowC (wyA (filI al (-1) 576) pm sz rn nf) j11 (edgC (wyA (filI al (-1) 576) pm sz rn nf) nh (0, el, eh) j11) ((j26 + 1) - (j11 + 1))).2.2) mo nx ny nz dd hd sz rn)) (by rw [← w67_0, ← w68_1, ← w69_2]) ?_
            exact k_lv [1, 2, 0] rfl (ih26 (j26 + 1) (by omega) (by omega) (by omega))
          · refine k_aload_n C 0 dX1_findEdges_51 rfl rfl ?_
            refine k_get C hinX1 5 8 rfl rfl (by decide) lk0 rfl rfl dX1_findEdges_52 ?_
            refine k_bipush C (v := (nI 66)) dX1_findEdges_55 (by decide) ?_
            refine k_icmp_geN C (by omega) (by omega) 90 dX1_findEdges_57 (by decide) (fun h_4 => ?_) (fun h_4 => ?_)
            · refine k_iinc C (v := (nI (j26 + 1))) (lv' := [(2, .int (nI (j26 + 1))), (0, .ref (ba 5)), (1, .int (nI j11))]) 2 dX1_findEdges_90 rfl (nI_1 _) (by decide) rfl ?_
              refine k_goto C 26 dX1_findEdges_93 (by decide) ?_
              have w79_0 : (nI ((rowC (wyA (filI al (-1) 576) pm sz rn nf) j11 (edgC (wyA (filI al (-1) 576) pm sz rn nf) nh (0, el, eh) j11) (j26 - (j11 + 1))).1)) = (nI ((rowC (wyA (filI al (-1) 576) pm sz rn nf) j11 (edgC (wyA (filI al (-1) 576) pm sz rn nf) nh (0, el, eh) j11) ((j26 + 1) - (j11 + 1))).1)) := by rw [show j26 + 1 - (j11 + 1) = (j26 - (j11 + 1)) + 1 by omega, rowC, adC, show j11 + 1 + (j26 - (j11 + 1)) = j26 by omega]; first | rw [if_pos (by assumption)] | rw [if_neg (by assumption), if_pos (by assumption)] | rw [if_neg (by assumption), if_neg (Nat.not_le.mpr (by assumption))]
              have w80_1 : ((rowC (wyA (filI al (-1) 576) pm sz rn nf) j11 (edgC (wyA (filI al (-1) 576) pm sz rn nf) nh (0, el, eh) j11) (j26 - (j11 + 1))).2.1) = ((rowC (wyA (filI al (-1) 576) pm sz rn nf) j11 (edgC (wyA (filI al (-1) 576) pm sz rn nf) nh (0, el, eh) j11) ((j26 + 1) - (j11 + 1))).2.1) := by rw [show j26 + 1 - (j11 + 1) = (j26 - (j11 + 1)) + 1 by omega, rowC, adC, show j11 + 1 + (j26 - (j11 + 1)) = j26 by omega]; first | rw [if_pos (by assumption)] | rw [if_neg (by assumption), if_pos (by assumption)] | rw [if_neg (by assumption), if_neg (Nat.not_le.mpr (by assumption))]
              have w81_2 : ((rowC (wyA (filI al (-1) 576) pm sz rn nf) j11 (edgC (wyA (filI al (-1) 576) pm sz rn nf) nh (0, el, eh) j11) (j26 - (j11 + 1))).2.2) = ((rowC (wyA (filI al (-1) 576) pm sz rn nf) j11 (edgC (wyA (filI al (-1) 576) pm sz rn nf) nh (0, el, eh) j11) ((j26 + 1) - (j11 + 1))).2.2) := by rw [show j26 + 1 - (j11 + 1) = (j26 - (j11 + 1)) + 1 by omega, rowC, adC, show j11 + 1 + (j26 - (j11 + 1)) = j26 by omega]; first | rw [if_pos (by assumption)] | rw [if_neg (by assumption), if_pos (by assumption)] | rw [if_neg (by assumption), if_neg (Nat.not_le.mpr (by assumption))]
              refine k_ws (ws' := (wB ba fa ra cI cJ cF hb ps (nI nf) co (nI ((rowC (wyA (filI al (-1) 576) pm sz rn nf) j11 (edgC (wyA (filI al (-1) 576) pm sz rn nf) nh (0, el, eh) j11) ((j26 + 1) - (j11 + 1))).1)) (nI nh) sx tr pm xs ys zs ax ay az (wyA (filI al (-1) 576) pm sz rn nf) ((rowC (wyA (filI al (-1) 576) pm sz rn nf) j11 (edgC (wyA (filI al (-1) 576) pm sz rn nf) nh (0, el, eh) j11) ((j26 + 1) - (j11 + 1))).2.1) ((rowC (wyA (filI al (-1) 576) pm sz rn nf) j11 (edgC (wyA (filI al (-1) 576) pm sz rn nf) nh (0, el, eh) j11) ((j26 + 1) - (j11 + 1))).2.2) mo nx ny nz dd hd sz rn)) (by rw [← w79_0, ← w80_1, ← w81_2]) ?_
              exact k_lv [1, 2, 0] rfl (ih26 (j26 + 1) (by omega) (by omega) (by omega))
            · refine k_aload_n C 0 dX1_findEdges_60 rfl rfl ?_
              refine k_get C hinX1 5 6 rfl rfl (by decide) lk9 rfl rfl dX1_findEdges_61 ?_
              refine k_aload_n C 0 dX1_findEdges_64 rfl rfl ?_
              refine k_get C hinX1 5 8 rfl rfl (by decide) lk0 rfl rfl dX1_findEdges_65 ?_
              refine k_iload_n C 1 dX1_findEdges_68 rfl rfl ?_
              refine k_iastN C (ws' := (wB ba fa ra cI cJ cF hb ps (nI nf) co (nI ((rowC (wyA (filI al (-1) 576) pm sz rn nf) j11 (edgC (wyA (filI al (-1) 576) pm sz rn nf) nh (0, el, eh) j11) (j26 - (j11 + 1))).1)) (nI nh) sx tr pm xs ys zs ax ay az (wyA (filI al (-1) 576) pm sz rn nf) (updN ((rowC (wyA (filI al (-1) 576) pm sz rn nf) j11 (edgC (wyA (filI al (-1) 576) pm sz rn nf) nh (0, el, eh) j11) (j26 - (j11 + 1))).2.1) ((rowC (wyA (filI al (-1) 576) pm sz rn nf) j11 (edgC (wyA (filI al (-1) 576) pm sz rn nf) nh (0, el, eh) j11) (j26 - (j11 + 1))).1) j11) ((rowC (wyA (filI al (-1) 576) pm sz rn nf) j11 (edgC (wyA (filI al (-1) 576) pm sz rn nf) nh (0, el, eh) j11) (j26 - (j11 + 1))).2.2) mo nx ny nz dd hd sz rn)) (j := ((rowC (wyA (filI al (-1) 576) pm sz rn nf) j11 (edgC (wyA (filI al (-1) 576) pm sz rn nf) nh (0, el, eh) j11) (j26 - (j11 + 1))).1)) 12 0 rfl rfl (by omega) (by decide) rfl dX1_findEdges_69 ?_
              refine k_aload_n C 0 dX1_findEdges_70 rfl rfl ?_
              refine k_get C hinX1 5 7 rfl rfl (by decide) lk10 rfl rfl dX1_findEdges_71 ?_
              refine k_aload_n C 0 dX1_findEdges_74 rfl rfl ?_
              refine k_get C hinX1 5 8 rfl rfl (by decide) lk0 rfl rfl dX1_findEdges_75 ?_
              refine k_iload_n C 2 dX1_findEdges_78 rfl rfl ?_
              refine k_iastN C (ws' := (wB ba fa ra cI cJ cF hb ps (nI nf) co (nI ((rowC (wyA (filI al (-1) 576) pm sz rn nf) j11 (edgC (wyA (filI al (-1) 576) pm sz rn nf) nh (0, el, eh) j11) (j26 - (j11 + 1))).1)) (nI nh) sx tr pm xs ys zs ax ay az (wyA (filI al (-1) 576) pm sz rn nf) (updN ((rowC (wyA (filI al (-1) 576) pm sz rn nf) j11 (edgC (wyA (filI al (-1) 576) pm sz rn nf) nh (0, el, eh) j11) (j26 - (j11 + 1))).2.1) ((rowC (wyA (filI al (-1) 576) pm sz rn nf) j11 (edgC (wyA (filI al (-1) 576) pm sz rn nf) nh (0, el, eh) j11) (j26 - (j11 + 1))).1) j11) (updN ((rowC (wyA (filI al (-1) 576) pm sz rn nf) j11 (edgC (wyA (filI al (-1) 576) pm sz rn nf) nh (0, el, eh) j11) (j26 - (j11 + 1))).2.2) ((rowC (wyA (filI al (-1) 576) pm sz rn nf) j11 (edgC (wyA (filI al (-1) 576) pm sz rn nf) nh (0, el, eh) j11) (j26 - (j11 + 1))).1) j26) mo nx ny nz dd hd sz rn)) (j := ((rowC (wyA (filI al (-1) 576) pm sz rn nf) j11 (edgC (wyA (filI al (-1) 576) pm sz rn nf) nh (0, el, eh) j11) (j26 - (j11 + 1))).1)) 13 0 rfl rfl (by omega) (by decide) rfl dX1_findEdges_79 ?_
              refine k_aload_n C 0 dX1_findEdges_80 rfl rfl ?_
              refine k_dup C dX1_findEdges_81 rfl ?_
              refine k_get C hinX1 5 8 rfl rfl (by decide) lk0 rfl rfl dX1_findEdges_82 ?_
              refine k_iconst C (v := (nI 1)) dX1_findEdges_85 (by decide) ?_
              refine k_iaddN C dX1_findEdges_86 ?_
              refine k_put C (ws' := (wB ba fa ra cI cJ cF hb ps (nI nf) co (nI (((rowC (wyA (filI al (-1) 576) pm sz rn nf) j11 (edgC (wyA (filI al (-1) 576) pm sz rn nf) nh (0, el, eh) j11) (j26 - (j11 + 1))).1) + 1)) (nI nh) sx tr pm xs ys zs ax ay az (wyA (filI al (-1) 576) pm sz rn nf) (updN ((rowC (wyA (filI al (-1) 576) pm sz rn nf) j11 (edgC (wyA (filI al (-1) 576) pm sz rn nf) nh (0, el, eh) j11) (j26 - (j11 + 1))).2.1) ((rowC (wyA (filI al (-1) 576) pm sz rn nf) j11 (edgC (wyA (filI al (-1) 576) pm sz rn nf) nh (0, el, eh) j11) (j26 - (j11 + 1))).1) j11) (updN ((rowC (wyA (filI al (-1) 576) pm sz rn nf) j11 (edgC (wyA (filI al (-1) 576) pm sz rn nf) nh (0, el, eh) j11) (j26 - (j11 + 1))).2.2) ((rowC (wyA (filI al (-1) 576) pm sz rn nf) j11 (edgC (wyA (filI al (-1) 576) pm sz rn nf) nh (0, el, eh) j11) (j26 - (j11 + 1))).1) j26) mo nx ny nz dd hd sz rn)) hinX1 tyX1 tyX1_ok nmX1 5 8 rfl rfl (by decide) lk0 rfl rfl rfl rfl (Nat.le_of_ble_eq_true rfl) rfl dX1_findEdges_87 ?_
              refine k_iinc C (v := (nI (j26 + 1))) (lv' := [(2, .int (nI (j26 + 1))), (0, .ref (ba 5)), (1, .int (nI j11))]) 2 dX1_findEdges_90 rfl (nI_1 _) (by decide) rfl ?_
              refine k_goto C 26 dX1_findEdges_93 (by decide) ?_
              have w104_0 : (nI (((rowC (wyA (filI al (-1) 576) pm sz rn nf) j11 (edgC (wyA (filI al (-1) 576) pm sz rn nf) nh (0, el, eh) j11) (j26 - (j11 + 1))).1) + 1)) = (nI ((rowC (wyA (filI al (-1) 576) pm sz rn nf) j11 (edgC (wyA (filI al (-1) 576) pm sz rn nf) nh (0, el, eh) j11) ((j26 + 1) - (j11 + 1))).1)) := by rw [show j26 + 1 - (j11 + 1) = (j26 - (j11 + 1)) + 1 by omega, rowC, adC, show j11 + 1 + (j26 - (j11 + 1)) = j26 by omega]; first | rw [if_pos (by assumption)] | rw [if_neg (by assumption), if_pos (by assumption)] | rw [if_neg (by assumption), if_neg (Nat.not_le.mpr (by assumption))]
              have w105_1 : (updN ((rowC (wyA (filI al (-1) 576) pm sz rn nf) j11 (edgC (wyA (filI al (-1) 576) pm sz rn nf) nh (0, el, eh) j11) (j26 - (j11 + 1))).2.1) ((rowC (wyA (filI al (-1) 576) pm sz rn nf) j11 (edgC (wyA (filI al (-1) 576) pm sz rn nf) nh (0, el, eh) j11) (j26 - (j11 + 1))).1) j11) = ((rowC (wyA (filI al (-1) 576) pm sz rn nf) j11 (edgC (wyA (filI al (-1) 576) pm sz rn nf) nh (0, el, eh) j11) ((j26 + 1) - (j11 + 1))).2.1) := by rw [show j26 + 1 - (j11 + 1) = (j26 - (j11 + 1)) + 1 by omega, rowC, adC, show j11 + 1 + (j26 - (j11 + 1)) = j26 by omega]; first | rw [if_pos (by assumption)] | rw [if_neg (by assumption), if_pos (by assumption)] | rw [if_neg (by assumption), if_neg (Nat.not_le.mpr (by assumption))]
              have w106_2 : (updN ((rowC (wyA (filI al (-1) 576) pm sz rn nf) j11 (edgC (wyA (filI al (-1) 576) pm sz rn nf) nh (0, el, eh) j11) (j26 - (j11 + 1))).2.2) ((rowC (wyA (filI al (-1) 576) pm sz rn nf) j11 (edgC (wyA (filI al (-1) 576) pm sz rn nf) nh (0, el, eh) j11) (j26 - (j11 + 1))).1) j26) = ((rowC (wyA (filI al (-1) 576) pm sz rn nf) j11 (edgC (wyA (filI al (-1) 576) pm sz rn nf) nh (0, el, eh) j11) ((j26 + 1) - (j11 + 1))).2.2) := by rw [show j26 + 1 - (j11 + 1) = (j26 - (j11 + 1)) + 1 by omega, rowC, adC, show j11 + 1 + (j26 - (j11 + 1)) = j26 by omega]; first | rw [if_pos (by assumption)] | rw [if_neg (by assumption), if_pos (by assumption)] | rw [if_neg (by assumption), if_neg (Nat.not_le.mpr (by assumption))]
              refine k_ws (ws' := (wB ba fa ra cI cJ cF hb ps (nI nf) co (nI ((rowC (wyA (filI al (-1) 576) pm sz rn nf) j11 (edgC (wyA (filI al (-1) 576) pm sz rn nf) nh (0, el, eh) j11) ((j26 + 1) - (j11 + 1))).1)) (nI nh) sx tr pm xs ys zs ax ay az (wyA (filI al (-1) 576) pm sz rn nf) ((rowC (wyA (filI al (-1) 576) pm sz rn nf) j11 (edgC (wyA (filI al (-1) 576) pm sz rn nf) nh (0, el, eh) j11) ((j26 + 1) - (j11 + 1))).2.1) ((rowC (wyA (filI al (-1) 576) pm sz rn nf) j11 (edgC (wyA (filI al (-1) 576) pm sz rn nf) nh (0, el, eh) j11) ((j26 + 1) - (j11 + 1))).2.2) mo nx ny nz dd hd sz rn)) (by rw [← w104_0, ← w105_1, ← w106_2]) ?_
              exact k_lv [1, 2, 0] rfl (ih26 (j26 + 1) (by omega) (by omega) (by omega))
set_option maxHeartbeats 4000000 in
set_option maxRecDepth 100000 in
theorem h1_addTetrahedron (l : Launch) (D : va_G) (cI cJ cF cD : ClassId) {ba fa ra : Nat → Nat} {hb : Int32} {ps : Int32} {fc : Int32} {co : Int32} {ec : Int32} {asz : Int32} {sx : Int64} {tr : Nat} {pm : Nat → Nat} {xs : Nat → Int32} {ys : Nat → Int32} {zs : Nat → Int32} {ax : Nat → Int32} {ay : Nat → Int32} {az : Nat → Int32} {al : Nat → Int32} {el : Nat → Nat} {eh : Nat → Nat} {mo : Nat → Int64} {nx : Nat → Int64} {ny : Nat → Int64} {nz : Nat → Int64} {dd : Nat → Int64} {hd : Nat → Int32} {sz : Nat → Nat} {rn : Nat → Nat → Nat} {a b c : Nat} (ha : a < 24) (hb9 : b < 24) (hc : c < 24) : CtV l D (tyG cI cJ cF cD) yX1_addTetrahedron wsX1_addTetrahedron ({ frames := 0, cells := 0, slots := 0, locals := 0 }) [.ref (ba 5), .int (nI a), .int (nI b), .int (nI c)] (wB ba fa ra cI cJ cF hb ps fc co ec asz sx tr pm xs ys zs ax ay az al el eh mo nx ny nz dd hd sz rn) (fun w => w = (wB ba fa ra cI cJ cF hb ps fc co ec asz (sx + sixI ax ay az a b c) tr pm xs ys zs ax ay az al el eh (momI ax ay az a b c mo) nx ny nz dd hd sz rn)) := by
  refine ctV_of (cc := cX1_addTetrahedron) (maxL := 6) (by decide) rfl (Nat.le_of_ble_eq_true rfl) ?_
  intro X hXl hXd C hret
  have lk0 : Cond.fieldLink RX1 12 "HullBuilder$Hull" "at" "LHullBuilder$Points;" ∈ wsX1_addTetrahedron := by decide +kernel
  have hinX1 : ∀ w ∈ wsX10, w ∈ wsX1_addTetrahedron := by decide +kernel
  have lk2 : Cond.fieldLinkNest RX1 139 "HullBuilder$Points" "xs" "[I" "HullBuilder" ∈ kNW := by decide +kernel
  have hinX2 : ∀ w ∈ wsX20, w ∈ wsX1_addTetrahedron := by decide +kernel
  have lk4 : Cond.fieldLinkNest RX1 142 "HullBuilder$Points" "ys" "[I" "HullBuilder" ∈ kNW := by decide +kernel
  have lk5 : Cond.fieldLinkNest RX1 145 "HullBuilder$Points" "zs" "[I" "HullBuilder" ∈ kNW := by decide +kernel
  have lk6 : Cond.fieldLink RX1 129 "HullBuilder$Hull" "sixVolumes" "J" ∈ wsX1_addTetrahedron := by decide +kernel
  have lk7 : Cond.fieldLink RX1 39 "HullBuilder$Hull" "moments" "[J" ∈ wsX1_addTetrahedron := by decide +kernel
  show Kw X 0 0 (wB ba fa ra cI cJ cF hb ps fc co ec asz sx tr pm xs ys zs ax ay az al el eh mo nx ny nz dd hd sz rn) 0 [(0, .ref (ba 5)), (1, .int (nI a)), (2, .int (nI b)), (3, .int (nI c))] []
  refine k_aload_n C 0 dX1_addTetrahedron_0 rfl rfl ?_
  refine k_get C hinX1 5 0 rfl rfl (by decide) lk0 rfl rfl dX1_addTetrahedron_1 ?_
  refine k_getN C hinX2 6 0 rfl rfl (by decide) lk2 rfl rfl dX1_addTetrahedron_4 ?_
  refine k_iload_n C 1 dX1_addTetrahedron_7 rfl rfl ?_
  refine k_iald C (j := a) 7 0 rfl rfl (by omega) (by decide) dX1_addTetrahedron_8 ?_
  refine k_i2l C dX1_addTetrahedron_9 ?_
  refine k_aload_n C 0 dX1_addTetrahedron_10 rfl rfl ?_
  refine k_get C hinX1 5 0 rfl rfl (by decide) lk0 rfl rfl dX1_addTetrahedron_11 ?_
  refine k_getN C hinX2 6 1 rfl rfl (by decide) lk4 rfl rfl dX1_addTetrahedron_14 ?_
  refine k_iload_n C 2 dX1_addTetrahedron_17 rfl rfl ?_
  refine k_iald C (j := b) 8 0 rfl rfl (by omega) (by decide) dX1_addTetrahedron_18 ?_
  refine k_i2l C dX1_addTetrahedron_19 ?_
  refine k_aload_n C 0 dX1_addTetrahedron_20 rfl rfl ?_
  refine k_get C hinX1 5 0 rfl rfl (by decide) lk0 rfl rfl dX1_addTetrahedron_21 ?_
  refine k_getN C hinX2 6 2 rfl rfl (by decide) lk5 rfl rfl dX1_addTetrahedron_24 ?_
  refine k_iload_n C 3 dX1_addTetrahedron_27 rfl rfl ?_
  refine k_iald C (j := c) 9 0 rfl rfl (by omega) (by decide) dX1_addTetrahedron_28 ?_
  refine k_i2l C dX1_addTetrahedron_29 ?_
  refine k_lmul C dX1_addTetrahedron_30 ?_
  refine k_aload_n C 0 dX1_addTetrahedron_31 rfl rfl ?_
  refine k_get C hinX1 5 0 rfl rfl (by decide) lk0 rfl rfl dX1_addTetrahedron_32 ?_
  refine k_getN C hinX2 6 2 rfl rfl (by decide) lk5 rfl rfl dX1_addTetrahedron_35 ?_
  refine k_iload_n C 2 dX1_addTetrahedron_38 rfl rfl ?_
  refine k_iald C (j := b) 9 0 rfl rfl (by omega) (by decide) dX1_addTetrahedron_39 ?_
  refine k_i2l C dX1_addTetrahedron_40 ?_
  refine k_aload_n C 0 dX1_addTetrahedron_41 rfl rfl ?_
  refine k_get C hinX1 5 0 rfl rfl (by decide) lk0 rfl rfl dX1_addTetrahedron_42 ?_
  refine k_getN C hinX2 6 1 rfl rfl (by decide) lk4 rfl rfl dX1_addTetrahedron_45 ?_
  refine k_iload_n C 3 dX1_addTetrahedron_48 rfl rfl ?_
  refine k_iald C (j := c) 8 0 rfl rfl (by omega) (by decide) dX1_addTetrahedron_49 ?_
  refine k_i2l C dX1_addTetrahedron_50 ?_
  refine k_lmul C dX1_addTetrahedron_51 ?_
  refine k_lsub C dX1_addTetrahedron_52 ?_
  refine k_lmul C dX1_addTetrahedron_53 ?_
  refine k_aload_n C 0 dX1_addTetrahedron_54 rfl rfl ?_
  refine k_get C hinX1 5 0 rfl rfl (by decide) lk0 rfl rfl dX1_addTetrahedron_55 ?_
  refine k_getN C hinX2 6 1 rfl rfl (by decide) lk4 rfl rfl dX1_addTetrahedron_58 ?_
  refine k_iload_n C 1 dX1_addTetrahedron_61 rfl rfl ?_
  refine k_iald C (j := a) 8 0 rfl rfl (by omega) (by decide) dX1_addTetrahedron_62 ?_
  refine k_i2l C dX1_addTetrahedron_63 ?_
  refine k_aload_n C 0 dX1_addTetrahedron_64 rfl rfl ?_
  refine k_get C hinX1 5 0 rfl rfl (by decide) lk0 rfl rfl dX1_addTetrahedron_65 ?_
  refine k_getN C hinX2 6 2 rfl rfl (by decide) lk5 rfl rfl dX1_addTetrahedron_68 ?_
  refine k_iload_n C 2 dX1_addTetrahedron_71 rfl rfl ?_
  refine k_iald C (j := b) 9 0 rfl rfl (by omega) (by decide) dX1_addTetrahedron_72 ?_
  refine k_i2l C dX1_addTetrahedron_73 ?_
  refine k_aload_n C 0 dX1_addTetrahedron_74 rfl rfl ?_
  refine k_get C hinX1 5 0 rfl rfl (by decide) lk0 rfl rfl dX1_addTetrahedron_75 ?_
  refine k_getN C hinX2 6 0 rfl rfl (by decide) lk2 rfl rfl dX1_addTetrahedron_78 ?_
  refine k_iload_n C 3 dX1_addTetrahedron_81 rfl rfl ?_
  refine k_iald C (j := c) 7 0 rfl rfl (by omega) (by decide) dX1_addTetrahedron_82 ?_
  refine k_i2l C dX1_addTetrahedron_83 ?_
  refine k_lmul C dX1_addTetrahedron_84 ?_
  refine k_aload_n C 0 dX1_addTetrahedron_85 rfl rfl ?_
  refine k_get C hinX1 5 0 rfl rfl (by decide) lk0 rfl rfl dX1_addTetrahedron_86 ?_
  refine k_getN C hinX2 6 0 rfl rfl (by decide) lk2 rfl rfl dX1_addTetrahedron_89 ?_
  refine k_iload_n C 2 dX1_addTetrahedron_92 rfl rfl ?_
  refine k_iald C (j := b) 7 0 rfl rfl (by omega) (by decide) dX1_addTetrahedron_93 ?_
  refine k_i2l C dX1_addTetrahedron_94 ?_
  refine k_aload_n C 0 dX1_addTetrahedron_95 rfl rfl ?_
  refine k_get C hinX1 5 0 rfl rfl (by decide) lk0 rfl rfl dX1_addTetrahedron_96 ?_
  refine k_getN C hinX2 6 2 rfl rfl (by decide) lk5 rfl rfl dX1_addTetrahedron_99 ?_
  refine k_iload_n C 3 dX1_addTetrahedron_102 rfl rfl ?_
  refine k_iald C (j := c) 9 0 rfl rfl (by omega) (by decide) dX1_addTetrahedron_103 ?_
  refine k_i2l C dX1_addTetrahedron_104 ?_
  refine k_lmul C dX1_addTetrahedron_105 ?_
  refine k_lsub C dX1_addTetrahedron_106 ?_
  refine k_lmul C dX1_addTetrahedron_107 ?_
  refine k_ladd C dX1_addTetrahedron_108 ?_
  refine k_aload_n C 0 dX1_addTetrahedron_109 rfl rfl ?_
  refine k_get C hinX1 5 0 rfl rfl (by decide) lk0 rfl rfl dX1_addTetrahedron_110 ?_
  refine k_getN C hinX2 6 2 rfl rfl (by decide) lk5 rfl rfl dX1_addTetrahedron_113 ?_
  refine k_iload_n C 1 dX1_addTetrahedron_116 rfl rfl ?_
  refine k_iald C (j := a) 9 0 rfl rfl (by omega) (by decide) dX1_addTetrahedron_117 ?_
  refine k_i2l C dX1_addTetrahedron_118 ?_
  refine k_aload_n C 0 dX1_addTetrahedron_119 rfl rfl ?_
  refine k_get C hinX1 5 0 rfl rfl (by decide) lk0 rfl rfl dX1_addTetrahedron_120 ?_
  refine k_getN C hinX2 6 0 rfl rfl (by decide) lk2 rfl rfl dX1_addTetrahedron_123 ?_
  refine k_iload_n C 2 dX1_addTetrahedron_126 rfl rfl ?_
  refine k_iald C (j := b) 7 0 rfl rfl (by omega) (by decide) dX1_addTetrahedron_127 ?_
  refine k_i2l C dX1_addTetrahedron_128 ?_
  refine k_aload_n C 0 dX1_addTetrahedron_129 rfl rfl ?_
  refine k_get C hinX1 5 0 rfl rfl (by decide) lk0 rfl rfl dX1_addTetrahedron_130 ?_
  refine k_getN C hinX2 6 1 rfl rfl (by decide) lk4 rfl rfl dX1_addTetrahedron_133 ?_
  refine k_iload_n C 3 dX1_addTetrahedron_136 rfl rfl ?_
  refine k_iald C (j := c) 8 0 rfl rfl (by omega) (by decide) dX1_addTetrahedron_137 ?_
  refine k_i2l C dX1_addTetrahedron_138 ?_
  refine k_lmul C dX1_addTetrahedron_139 ?_
  refine k_aload_n C 0 dX1_addTetrahedron_140 rfl rfl ?_
  refine k_get C hinX1 5 0 rfl rfl (by decide) lk0 rfl rfl dX1_addTetrahedron_141 ?_
  refine k_getN C hinX2 6 1 rfl rfl (by decide) lk4 rfl rfl dX1_addTetrahedron_144 ?_
  refine k_iload_n C 2 dX1_addTetrahedron_147 rfl rfl ?_
  refine k_iald C (j := b) 8 0 rfl rfl (by omega) (by decide) dX1_addTetrahedron_148 ?_
  refine k_i2l C dX1_addTetrahedron_149 ?_
  refine k_aload_n C 0 dX1_addTetrahedron_150 rfl rfl ?_
  refine k_get C hinX1 5 0 rfl rfl (by decide) lk0 rfl rfl dX1_addTetrahedron_151 ?_
  refine k_getN C hinX2 6 0 rfl rfl (by decide) lk2 rfl rfl dX1_addTetrahedron_154 ?_
  refine k_iload_n C 3 dX1_addTetrahedron_157 rfl rfl ?_
  refine k_iald C (j := c) 7 0 rfl rfl (by omega) (by decide) dX1_addTetrahedron_158 ?_
  refine k_i2l C dX1_addTetrahedron_159 ?_
  refine k_lmul C dX1_addTetrahedron_160 ?_
  refine k_lsub C dX1_addTetrahedron_161 ?_
  refine k_lmul C dX1_addTetrahedron_162 ?_
  refine k_ladd C dX1_addTetrahedron_163 ?_
  refine k_lstore C (lv' := [(4, .long (((((ax a).toInt64) * ((((ay b).toInt64) * ((az c).toInt64)) - (((az b).toInt64) * ((ay c).toInt64)))) + (((ay a).toInt64) * ((((az b).toInt64) * ((ax c).toInt64)) - (((ax b).toInt64) * ((az c).toInt64))))) + (((az a).toInt64) * ((((ax b).toInt64) * ((ay c).toInt64)) - (((ay b).toInt64) * ((ax c).toInt64)))))), (0, .ref (ba 5)), (1, .int (nI a)), (2, .int (nI b)), (3, .int (nI c))]) dX1_addTetrahedron_164 (by decide) rfl ?_
  refine k_aload_n C 1 dX1_addTetrahedron_166 rfl rfl ?_
  refine k_dup C dX1_addTetrahedron_167 rfl ?_
  refine k_get C hinX1 5 9 rfl rfl (by decide) lk6 rfl rfl dX1_addTetrahedron_168 ?_
  refine k_lload C 0 dX1_addTetrahedron_171 rfl ?_
  refine k_ladd C dX1_addTetrahedron_173 ?_
  refine k_put C (ws' := (wB ba fa ra cI cJ cF hb ps fc co ec asz (sx + (((((ax a).toInt64) * ((((ay b).toInt64) * ((az c).toInt64)) - (((az b).toInt64) * ((ay c).toInt64)))) + (((ay a).toInt64) * ((((az b).toInt64) * ((ax c).toInt64)) - (((ax b).toInt64) * ((az c).toInt64))))) + (((az a).toInt64) * ((((ax b).toInt64) * ((ay c).toInt64)) - (((ay b).toInt64) * ((ax c).toInt64)))))) tr pm xs ys zs ax ay az al el eh mo nx ny nz dd hd sz rn)) hinX1 tyX1 tyX1_ok nmX1 5 9 rfl rfl (by decide) lk6 rfl rfl rfl rfl (Nat.le_of_ble_eq_true rfl) rfl dX1_addTetrahedron_174 ?_
  refine k_aload_n C 1 dX1_addTetrahedron_177 rfl rfl ?_
  refine k_get C hinX1 5 10 rfl rfl (by decide) lk7 rfl rfl dX1_addTetrahedron_178 ?_
  refine k_iconst C (v := (nI 0)) dX1_addTetrahedron_181 (by decide) ?_
  refine k_dup2 C dX1_addTetrahedron_182 rfl rfl ?_
  refine k_lald C (j := 0) 14 1 rfl rfl (by omega) (by decide) dX1_addTetrahedron_183 ?_
  refine k_lload C 0 dX1_addTetrahedron_184 rfl ?_
  refine k_aload_n C 1 dX1_addTetrahedron_186 rfl rfl ?_
  refine k_get C hinX1 5 0 rfl rfl (by decide) lk0 rfl rfl dX1_addTetrahedron_187 ?_
  refine k_getN C hinX2 6 0 rfl rfl (by decide) lk2 rfl rfl dX1_addTetrahedron_190 ?_
  refine k_iload_n C 2 dX1_addTetrahedron_193 rfl rfl ?_
  refine k_iald C (j := a) 7 0 rfl rfl (by omega) (by decide) dX1_addTetrahedron_194 ?_
  refine k_aload_n C 1 dX1_addTetrahedron_195 rfl rfl ?_
  refine k_get C hinX1 5 0 rfl rfl (by decide) lk0 rfl rfl dX1_addTetrahedron_196 ?_
  refine k_getN C hinX2 6 0 rfl rfl (by decide) lk2 rfl rfl dX1_addTetrahedron_199 ?_
  refine k_iload_n C 3 dX1_addTetrahedron_202 rfl rfl ?_
  refine k_iald C (j := b) 7 0 rfl rfl (by omega) (by decide) dX1_addTetrahedron_203 ?_
  refine k_iadd C dX1_addTetrahedron_204 ?_
  refine k_aload_n C 1 dX1_addTetrahedron_205 rfl rfl ?_
  refine k_get C hinX1 5 0 rfl rfl (by decide) lk0 rfl rfl dX1_addTetrahedron_206 ?_
  refine k_getN C hinX2 6 0 rfl rfl (by decide) lk2 rfl rfl dX1_addTetrahedron_209 ?_
  refine k_iload_n C 4 dX1_addTetrahedron_212 rfl rfl ?_
  refine k_iald C (j := c) 7 0 rfl rfl (by omega) (by decide) dX1_addTetrahedron_213 ?_
  refine k_iadd C dX1_addTetrahedron_214 ?_
  refine k_i2l C dX1_addTetrahedron_215 ?_
  refine k_lmul C dX1_addTetrahedron_216 ?_
  refine k_ladd C dX1_addTetrahedron_217 ?_
  refine k_last C (ws' := (wB ba fa ra cI cJ cF hb ps fc co ec asz (sx + (((((ax a).toInt64) * ((((ay b).toInt64) * ((az c).toInt64)) - (((az b).toInt64) * ((ay c).toInt64)))) + (((ay a).toInt64) * ((((az b).toInt64) * ((ax c).toInt64)) - (((ax b).toInt64) * ((az c).toInt64))))) + (((az a).toInt64) * ((((ax b).toInt64) * ((ay c).toInt64)) - (((ay b).toInt64) * ((ax c).toInt64)))))) tr pm xs ys zs ax ay az al el eh (vp_updL mo 0 ((mo 0) + ((((((ax a).toInt64) * ((((ay b).toInt64) * ((az c).toInt64)) - (((az b).toInt64) * ((ay c).toInt64)))) + (((ay a).toInt64) * ((((az b).toInt64) * ((ax c).toInt64)) - (((ax b).toInt64) * ((az c).toInt64))))) + (((az a).toInt64) * ((((ax b).toInt64) * ((ay c).toInt64)) - (((ay b).toInt64) * ((ax c).toInt64))))) * ((((ax a) + (ax b)) + (ax c)).toInt64)))) nx ny nz dd hd sz rn)) (j := 0) 14 1 rfl rfl (by omega) (by decide) rfl dX1_addTetrahedron_218 ?_
  refine k_aload_n C 1 dX1_addTetrahedron_219 rfl rfl ?_
  refine k_get C hinX1 5 10 rfl rfl (by decide) lk7 rfl rfl dX1_addTetrahedron_220 ?_
  refine k_iconst C (v := (nI 1)) dX1_addTetrahedron_223 (by decide) ?_
  refine k_dup2 C dX1_addTetrahedron_224 rfl rfl ?_
  refine k_lald C (j := 1) 14 1 rfl rfl (by omega) (by decide) dX1_addTetrahedron_225 ?_
  refine k_lload C 0 dX1_addTetrahedron_226 rfl ?_
  refine k_aload_n C 1 dX1_addTetrahedron_228 rfl rfl ?_
  refine k_get C hinX1 5 0 rfl rfl (by decide) lk0 rfl rfl dX1_addTetrahedron_229 ?_
  refine k_getN C hinX2 6 1 rfl rfl (by decide) lk4 rfl rfl dX1_addTetrahedron_232 ?_
  refine k_iload_n C 2 dX1_addTetrahedron_235 rfl rfl ?_
  refine k_iald C (j := a) 8 0 rfl rfl (by omega) (by decide) dX1_addTetrahedron_236 ?_
  refine k_aload_n C 1 dX1_addTetrahedron_237 rfl rfl ?_
  refine k_get C hinX1 5 0 rfl rfl (by decide) lk0 rfl rfl dX1_addTetrahedron_238 ?_
  refine k_getN C hinX2 6 1 rfl rfl (by decide) lk4 rfl rfl dX1_addTetrahedron_241 ?_
  refine k_iload_n C 3 dX1_addTetrahedron_244 rfl rfl ?_
  refine k_iald C (j := b) 8 0 rfl rfl (by omega) (by decide) dX1_addTetrahedron_245 ?_
  refine k_iadd C dX1_addTetrahedron_246 ?_
  refine k_aload_n C 1 dX1_addTetrahedron_247 rfl rfl ?_
  refine k_get C hinX1 5 0 rfl rfl (by decide) lk0 rfl rfl dX1_addTetrahedron_248 ?_
  refine k_getN C hinX2 6 1 rfl rfl (by decide) lk4 rfl rfl dX1_addTetrahedron_251 ?_
  refine k_iload_n C 4 dX1_addTetrahedron_254 rfl rfl ?_
  refine k_iald C (j := c) 8 0 rfl rfl (by omega) (by decide) dX1_addTetrahedron_255 ?_
  refine k_iadd C dX1_addTetrahedron_256 ?_
  refine k_i2l C dX1_addTetrahedron_257 ?_
  refine k_lmul C dX1_addTetrahedron_258 ?_
  refine k_ladd C dX1_addTetrahedron_259 ?_
  refine k_last C (ws' := (wB ba fa ra cI cJ cF hb ps fc co ec asz (sx + (((((ax a).toInt64) * ((((ay b).toInt64) * ((az c).toInt64)) - (((az b).toInt64) * ((ay c).toInt64)))) + (((ay a).toInt64) * ((((az b).toInt64) * ((ax c).toInt64)) - (((ax b).toInt64) * ((az c).toInt64))))) + (((az a).toInt64) * ((((ax b).toInt64) * ((ay c).toInt64)) - (((ay b).toInt64) * ((ax c).toInt64)))))) tr pm xs ys zs ax ay az al el eh (vp_updL (vp_updL mo 0 ((mo 0) + ((((((ax a).toInt64) * ((((ay b).toInt64) * ((az c).toInt64)) - (((az b).toInt64) * ((ay c).toInt64)))) + (((ay a).toInt64) * ((((az b).toInt64) * ((ax c).toInt64)) - (((ax b).toInt64) * ((az c).toInt64))))) + (((az a).toInt64) * ((((ax b).toInt64) * ((ay c).toInt64)) - (((ay b).toInt64) * ((ax c).toInt64))))) * ((((ax a) + (ax b)) + (ax c)).toInt64)))) 1 (((vp_updL mo 0 ((mo 0) + ((((((ax a).toInt64) * ((((ay b).toInt64) * ((az c).toInt64)) - (((az b).toInt64) * ((ay c).toInt64)))) + (((ay a).toInt64) * ((((az b).toInt64) * ((ax c).toInt64)) - (((ax b).toInt64) * ((az c).toInt64))))) + (((az a).toInt64) * ((((ax b).toInt64) * ((ay c).toInt64)) - (((ay b).toInt64) * ((ax c).toInt64))))) * ((((ax a) + (ax b)) + (ax c)).toInt64)))) 1) + ((((((ax a).toInt64) * ((((ay b).toInt64) * ((az c).toInt64)) - (((az b).toInt64) * ((ay c).toInt64)))) + (((ay a).toInt64) * ((((az b).toInt64) * ((ax c).toInt64)) - (((ax b).toInt64) * ((az c).toInt64))))) + (((az a).toInt64) * ((((ax b).toInt64) * ((ay c).toInt64)) - (((ay b).toInt64) * ((ax c).toInt64))))) * ((((ay a) + (ay b)) + (ay c)).toInt64)))) nx ny nz dd hd sz rn)) (j := 1) 14 1 rfl rfl (by omega) (by decide) rfl dX1_addTetrahedron_260 ?_
  refine k_aload_n C 1 dX1_addTetrahedron_261 rfl rfl ?_
  refine k_get C hinX1 5 10 rfl rfl (by decide) lk7 rfl rfl dX1_addTetrahedron_262 ?_
  refine k_iconst C (v := (nI 2)) dX1_addTetrahedron_265 (by decide) ?_
  refine k_dup2 C dX1_addTetrahedron_266 rfl rfl ?_
  refine k_lald C (j := 2) 14 1 rfl rfl (by omega) (by decide) dX1_addTetrahedron_267 ?_
  refine k_lload C 0 dX1_addTetrahedron_268 rfl ?_
  refine k_aload_n C 1 dX1_addTetrahedron_270 rfl rfl ?_
  refine k_get C hinX1 5 0 rfl rfl (by decide) lk0 rfl rfl dX1_addTetrahedron_271 ?_
  refine k_getN C hinX2 6 2 rfl rfl (by decide) lk5 rfl rfl dX1_addTetrahedron_274 ?_
  refine k_iload_n C 2 dX1_addTetrahedron_277 rfl rfl ?_
  refine k_iald C (j := a) 9 0 rfl rfl (by omega) (by decide) dX1_addTetrahedron_278 ?_
  refine k_aload_n C 1 dX1_addTetrahedron_279 rfl rfl ?_
  refine k_get C hinX1 5 0 rfl rfl (by decide) lk0 rfl rfl dX1_addTetrahedron_280 ?_
  refine k_getN C hinX2 6 2 rfl rfl (by decide) lk5 rfl rfl dX1_addTetrahedron_283 ?_
  refine k_iload_n C 3 dX1_addTetrahedron_286 rfl rfl ?_
  refine k_iald C (j := b) 9 0 rfl rfl (by omega) (by decide) dX1_addTetrahedron_287 ?_
  refine k_iadd C dX1_addTetrahedron_288 ?_
  refine k_aload_n C 1 dX1_addTetrahedron_289 rfl rfl ?_
  refine k_get C hinX1 5 0 rfl rfl (by decide) lk0 rfl rfl dX1_addTetrahedron_290 ?_
  refine k_getN C hinX2 6 2 rfl rfl (by decide) lk5 rfl rfl dX1_addTetrahedron_293 ?_
  refine k_iload_n C 4 dX1_addTetrahedron_296 rfl rfl ?_
  refine k_iald C (j := c) 9 0 rfl rfl (by omega) (by decide) dX1_addTetrahedron_297 ?_
  refine k_iadd C dX1_addTetrahedron_298 ?_
  refine k_i2l C dX1_addTetrahedron_299 ?_
  refine k_lmul C dX1_addTetrahedron_300 ?_
  refine k_ladd C dX1_addTetrahedron_301 ?_
  refine k_last C (ws' := (wB ba fa ra cI cJ cF hb ps fc co ec asz (sx + (((((ax a).toInt64) * ((((ay b).toInt64) * ((az c).toInt64)) - (((az b).toInt64) * ((ay c).toInt64)))) + (((ay a).toInt64) * ((((az b).toInt64) * ((ax c).toInt64)) - (((ax b).toInt64) * ((az c).toInt64))))) + (((az a).toInt64) * ((((ax b).toInt64) * ((ay c).toInt64)) - (((ay b).toInt64) * ((ax c).toInt64)))))) tr pm xs ys zs ax ay az al el eh (vp_updL (vp_updL (vp_updL mo 0 ((mo 0) + ((((((ax a).toInt64) * ((((ay b).toInt64) * ((az c).toInt64)) - (((az b).toInt64) * ((ay c).toInt64)))) + (((ay a).toInt64) * ((((az b).toInt64) * ((ax c).toInt64)) - (((ax b).toInt64) * ((az c).toInt64))))) + (((az a).toInt64) * ((((ax b).toInt64) * ((ay c).toInt64)) - (((ay b).toInt64) * ((ax c).toInt64))))) * ((((ax a) + (ax b)) + (ax c)).toInt64)))) 1 (((vp_updL mo 0 ((mo 0) + ((((((ax a).toInt64) * ((((ay b).toInt64) * ((az c).toInt64)) - (((az b).toInt64) * ((ay c).toInt64)))) + (((ay a).toInt64) * ((((az b).toInt64) * ((ax c).toInt64)) - (((ax b).toInt64) * ((az c).toInt64))))) + (((az a).toInt64) * ((((ax b).toInt64) * ((ay c).toInt64)) - (((ay b).toInt64) * ((ax c).toInt64))))) * ((((ax a) + (ax b)) + (ax c)).toInt64)))) 1) + ((((((ax a).toInt64) * ((((ay b).toInt64) * ((az c).toInt64)) - (((az b).toInt64) * ((ay c).toInt64)))) + (((ay a).toInt64) * ((((az b).toInt64) * ((ax c).toInt64)) - (((ax b).toInt64) * ((az c).toInt64))))) + (((az a).toInt64) * ((((ax b).toInt64) * ((ay c).toInt64)) - (((ay b).toInt64) * ((ax c).toInt64))))) * ((((ay a) + (ay b)) + (ay c)).toInt64)))) 2 (((vp_updL (vp_updL mo 0 ((mo 0) + ((((((ax a).toInt64) * ((((ay b).toInt64) * ((az c).toInt64)) - (((az b).toInt64) * ((ay c).toInt64)))) + (((ay a).toInt64) * ((((az b).toInt64) * ((ax c).toInt64)) - (((ax b).toInt64) * ((az c).toInt64))))) + (((az a).toInt64) * ((((ax b).toInt64) * ((ay c).toInt64)) - (((ay b).toInt64) * ((ax c).toInt64))))) * ((((ax a) + (ax b)) + (ax c)).toInt64)))) 1 (((vp_updL mo 0 ((mo 0) + ((((((ax a).toInt64) * ((((ay b).toInt64) * ((az c).toInt64)) - (((az b).toInt64) * ((ay c).toInt64)))) + (((ay a).toInt64) * ((((az b).toInt64) * ((ax c).toInt64)) - (((ax b).toInt64) * ((az c).toInt64))))) + (((az a).toInt64) * ((((ax b).toInt64) * ((ay c).toInt64)) - (((ay b).toInt64) * ((ax c).toInt64))))) * ((((ax a) + (ax b)) + (ax c)).toInt64)))) 1) + ((((((ax a).toInt64) * ((((ay b).toInt64) * ((az c).toInt64)) - (((az b).toInt64) * ((ay c).toInt64)))) + (((ay a).toInt64) * ((((az b).toInt64) * ((ax c).toInt64)) - (((ax b).toInt64) * ((az c).toInt64))))) + (((az a).toInt64) * ((((ax b).toInt64) * ((ay c).toInt64)) - (((ay b).toInt64) * ((ax c).toInt64))))) * ((((ay a) + (ay b)) + (ay c)).toInt64)))) 2) + ((((((ax a).toInt64) * ((((ay b).toInt64) * ((az c).toInt64)) - (((az b).toInt64) * ((ay c).toInt64)))) + (((ay a).toInt64) * ((((az b).toInt64) * ((ax c).toInt64)) - (((ax b).toInt64) * ((az c).toInt64))))) + (((az a).toInt64) * ((((ax b).toInt64) * ((ay c).toInt64)) - (((ay b).toInt64) * ((ax c).toInt64))))) * ((((az a) + (az b)) + (az c)).toInt64)))) nx ny nz dd hd sz rn)) (j := 2) 14 1 rfl rfl (by omega) (by decide) rfl dX1_addTetrahedron_302 ?_
  exact hret _ _ _ (rfl) dX1_addTetrahedron_303
set_option maxHeartbeats 4000000 in
set_option maxRecDepth 100000 in
theorem h1_measure (l : Launch) (D : va_G) (cI cJ cF cD : ClassId) {ba fa ra : Nat → Nat} {hb : Int32} {ps : Int32} {co : Int32} {ec : Int32} {asz : Int32} {sx : Int64} {tr : Nat} {pm : Nat → Nat} {xs : Nat → Int32} {ys : Nat → Int32} {zs : Nat → Int32} {ax : Nat → Int32} {ay : Nat → Int32} {az : Nat → Int32} {al : Nat → Int32} {el : Nat → Nat} {eh : Nat → Nat} {mo : Nat → Int64} {nx : Nat → Int64} {ny : Nat → Int64} {nz : Nat → Int64} {dd : Nat → Int64} {hd : Nat → Int32} {sz : Nat → Nat} {rn : Nat → Nat → Nat} {nf : Nat} (hnf : nf ≤ 44) (hpm : ∀ x, pm x < 45) (hrn : ∀ x k, rn x k < 24) (hsz : ∀ x, sz x ≤ 24) : CtV l D (tyG cI cJ cF cD) yX1_measure wsX1_measure ({ frames := 1, cells := 0, slots := 0, locals := 25 }) [.ref (ba 5)] (wB ba fa ra cI cJ cF hb ps (nI nf) co ec asz sx tr pm xs ys zs ax ay az al el eh mo nx ny nz dd hd sz rn) (fun w => w = (wB ba fa ra cI cJ cF hb ps (nI nf) co ec asz ((msG ax ay az pm sz rn (0, filL mo 0 3) nf).1) tr pm xs ys zs ax ay az al el eh ((msG ax ay az pm sz rn (0, filL mo 0 3) nf).2) nx ny nz dd hd sz rn)) := by
  refine ctV_of (cc := cX1_measure) (maxL := 4) (by decide) rfl (Nat.le_of_ble_eq_true rfl) ?_
  intro X hXl hXd C hret
  have lk0 : Cond.fieldLink RX1 129 "HullBuilder$Hull" "sixVolumes" "J" ∈ wsX1_measure := by decide +kernel
  have hinX1 : ∀ w ∈ wsX10, w ∈ wsX1_measure := by decide +kernel
  have lk2 : Cond.fieldLink RX1 39 "HullBuilder$Hull" "moments" "[J" ∈ wsX1_measure := by decide +kernel
  have lk3 : Cond.fieldLink RX1 65 "HullBuilder$Hull" "faceCount" "I" ∈ wsX1_measure := by decide +kernel
  have lk4 : Cond.fieldLink RX1 20 "HullBuilder$Hull" "faces" "[LHullBuilder$Face;" ∈ wsX1_measure := by decide +kernel
  have lk5 : Cond.fieldLinkNest RX1 125 "HullBuilder$Face" "size" "I" "HullBuilder" ∈ kNW := by decide +kernel
  have hinX0 : ∀ w ∈ wsX00, w ∈ wsX1_measure := by decide +kernel
  have lk7 : Cond.fieldLinkNest RX1 126 "HullBuilder$Face" "ring" "[I" "HullBuilder" ∈ kNW := by decide +kernel
  show Kw X 0 0 (wB ba fa ra cI cJ cF hb ps (nI nf) co ec asz sx tr pm xs ys zs ax ay az al el eh mo nx ny nz dd hd sz rn) 0 [(0, .ref (ba 5))] []
  refine k_aload_n C 0 dX1_measure_0 rfl rfl ?_
  refine k_lconst C (v := 0) dX1_measure_1 (by decide) ?_
  refine k_put C (ws' := (wB ba fa ra cI cJ cF hb ps (nI nf) co ec asz 0 tr pm xs ys zs ax ay az al el eh mo nx ny nz dd hd sz rn)) hinX1 tyX1 tyX1_ok nmX1 5 9 rfl rfl (by decide) lk0 rfl rfl rfl rfl (Nat.le_of_ble_eq_true rfl) rfl dX1_measure_2 ?_
  refine k_aload_n C 0 dX1_measure_5 rfl rfl ?_
  refine k_get C hinX1 5 10 rfl rfl (by decide) lk2 rfl rfl dX1_measure_6 ?_
  refine k_lconst C (v := 0) dX1_measure_9 (by decide) ?_
  refine k_callSV C (ar := 2) (As := [.ref (ba 14), .long 0]) (rest := []) (h7_fill_d0a16 (kxL X) (kxD X) cI cJ cF cD 0) gX1_measure_J7_fill_d0a16 rfl rfl rfl (by decide +kernel) ⟨Nat.le_of_ble_eq_true rfl, Nat.le_of_ble_eq_true rfl⟩ rfl rfl (Nat.le_of_ble_eq_true rfl) dX1_measure_10 (Nat.zero_le _) (Nat.zero_le _) (fun w hw => ?_)
  subst hw
  refine k_iconst C (v := (nI 0)) dX1_measure_13 (by decide) ?_
  refine k_istore_n C (lv' := [(1, .int (nI 0)), (0, .ref (ba 5))]) dX1_measure_14 rfl (by decide) rfl ?_
  suffices L15 : ∀ (n15 j15 : Nat), j15 ≤ nf → nf + 1 ≤ j15 + n15 → Kw X 0 0 (wB ba fa ra cI cJ cF hb ps (nI nf) co ec asz ((msG ax ay az pm sz rn (0, filL mo 0 3) j15).1) tr pm xs ys zs ax ay az al el eh ((msG ax ay az pm sz rn (0, filL mo 0 3) j15).2) nx ny nz dd hd sz rn) 15 [(0, .ref (ba 5)), (1, .int (nI j15))] [] by
    have w11_0 : 0 = ((msG ax ay az pm sz rn (0, filL mo 0 3) 0).1) := rfl
    have w12_1 : (filL mo 0 3) = ((msG ax ay az pm sz rn (0, filL mo 0 3) 0).2) := rfl
    refine k_ws (ws' := (wB ba fa ra cI cJ cF hb ps (nI nf) co ec asz ((msG ax ay az pm sz rn (0, filL mo 0 3) 0).1) tr pm xs ys zs ax ay az al el eh ((msG ax ay az pm sz rn (0, filL mo 0 3) 0).2) nx ny nz dd hd sz rn)) (by rw [← w11_0, ← w12_1]) ?_
    exact k_lv [1, 0] rfl (L15 (nf + 1) 0 (by omega) (by omega))
  intro n15
  induction n15 with
  | zero => intro j15 a1 a2; exact absurd a2 (by omega)
  | succ n15 ih15 =>
    intro j15 b15 c15
    refine k_iload_n C 1 dX1_measure_15 rfl rfl ?_
    refine k_aload_n C 0 dX1_measure_16 rfl rfl ?_
    refine k_get C hinX1 5 3 rfl rfl (by decide) lk3 rfl rfl dX1_measure_17 ?_
    refine k_icmp_geN C (by omega) (by omega) 78 dX1_measure_20 (by decide) (fun h_1 => ?_) (fun h_1 => ?_)
    · exact hret _ _ _ (by rw [show j15 = nf by omega]) dX1_measure_78
    · refine k_aload_n C 0 dX1_measure_23 rfl rfl ?_
      refine k_get C hinX1 5 1 rfl rfl (by decide) lk4 rfl rfl dX1_measure_24 ?_
      refine k_iload_n C 1 dX1_measure_27 rfl rfl ?_
      refine k_aald C (j := j15) 10 2 rfl rfl (by omega) (by decide) rfl dX1_measure_28 ?_
      refine k_astore_n C (lv' := [(2, .ref (fa (pm j15))), (0, .ref (ba 5)), (1, .int (nI j15))]) dX1_measure_29 rfl (by decide) rfl ?_
      have hs9 := hsz (pm j15)
      refine k_iconst C (v := (nI 1)) dX1_measure_30 (by decide) ?_
      refine k_istore_n C (lv' := [(3, .int (nI 1)), (2, .ref (fa (pm j15))), (0, .ref (ba 5)), (1, .int (nI j15))]) dX1_measure_31 rfl (by decide) rfl ?_
      suffices L32 : ∀ (n32 j32 : Nat), j32 ≤ (sz (pm j15) + 1) → (sz (pm j15) + 1) + 1 ≤ j32 + n32 → 1 ≤ j32 ∧ (j32 = 1 ∨ j32 + 1 ≤ sz (pm j15) + 0) → Kw X 0 0 (wB ba fa ra cI cJ cF hb ps (nI nf) co ec asz ((msF ax ay az (rn (pm j15)) (msG ax ay az pm sz rn (0, filL mo 0 3) j15) (j32 - 1)).1) tr pm xs ys zs ax ay az al el eh ((msF ax ay az (rn (pm j15)) (msG ax ay az pm sz rn (0, filL mo 0 3) j15) (j32 - 1)).2) nx ny nz dd hd sz rn) 32 [(0, .ref (ba 5)), (1, .int (nI j15)), (2, .ref (fa (pm j15))), (3, .int (nI j32))] [] by
        have w35_0 : ((msG ax ay az pm sz rn (0, filL mo 0 3) j15).1) = ((msF ax ay az (rn (pm j15)) (msG ax ay az pm sz rn (0, filL mo 0 3) j15) (1 - 1)).1) := rfl
        have w36_1 : ((msG ax ay az pm sz rn (0, filL mo 0 3) j15).2) = ((msF ax ay az (rn (pm j15)) (msG ax ay az pm sz rn (0, filL mo 0 3) j15) (1 - 1)).2) := rfl
        refine k_ws (ws' := (wB ba fa ra cI cJ cF hb ps (nI nf) co ec asz ((msF ax ay az (rn (pm j15)) (msG ax ay az pm sz rn (0, filL mo 0 3) j15) (1 - 1)).1) tr pm xs ys zs ax ay az al el eh ((msF ax ay az (rn (pm j15)) (msG ax ay az pm sz rn (0, filL mo 0 3) j15) (1 - 1)).2) nx ny nz dd hd sz rn)) (by rw [← w35_0, ← w36_1]) ?_
        exact k_lv [2, 3, 1, 0] rfl (L32 ((sz (pm j15) + 1) + 1) 1 (by omega) (by omega) ⟨Nat.le_refl _, Or.inl rfl⟩)
      intro n32
      induction n32 with
      | zero => intro j32 a1 a2; exact absurd a2 (by omega)
      | succ n32 ih32 =>
        intro j32 b32 c32 g32_0
        refine k_iload_n C 3 dX1_measure_32 rfl rfl ?_
        refine k_iconst C (v := (nI 1)) dX1_measure_33 (by decide) ?_
        refine k_iaddN C dX1_measure_34 ?_
        refine k_aload_n C 2 dX1_measure_35 rfl rfl ?_
        refine k_getN C hinX0 (15 + (pm j15)) 6 (wB_f (hpm _)) rfl (by decide) lk5 rfl rfl dX1_measure_36 ?_
        refine k_icmp_geN C (by omega) (by omega) 72 dX1_measure_39 (by decide) (fun h_2 => ?_) (fun h_2 => ?_)
        · refine k_iinc C (v := (nI (j15 + 1))) (lv' := [(1, .int (nI (j15 + 1))), (0, .ref (ba 5)), (2, .ref (fa (pm j15))), (3, .int (nI j32))]) 1 dX1_measure_72 rfl (nI_1 _) (by decide) rfl ?_
          refine k_goto C 15 dX1_measure_75 (by decide) ?_
          have w53_0 : ((msF ax ay az (rn (pm j15)) (msG ax ay az pm sz rn (0, filL mo 0 3) j15) (j32 - 1)).1) = ((msG ax ay az pm sz rn (0, filL mo 0 3) (j15 + 1)).1) := by rw [msG, show sz (pm j15) - 2 = j32 - 1 by omega]
          have w54_1 : ((msF ax ay az (rn (pm j15)) (msG ax ay az pm sz rn (0, filL mo 0 3) j15) (j32 - 1)).2) = ((msG ax ay az pm sz rn (0, filL mo 0 3) (j15 + 1)).2) := by rw [msG, show sz (pm j15) - 2 = j32 - 1 by omega]
          refine k_ws (ws' := (wB ba fa ra cI cJ cF hb ps (nI nf) co ec asz ((msG ax ay az pm sz rn (0, filL mo 0 3) (j15 + 1)).1) tr pm xs ys zs ax ay az al el eh ((msG ax ay az pm sz rn (0, filL mo 0 3) (j15 + 1)).2) nx ny nz dd hd sz rn)) (by rw [← w53_0, ← w54_1]) ?_
          exact k_lv [1, 0] rfl (ih15 (j15 + 1) (by omega) (by omega))
        · refine k_aload_n C 0 dX1_measure_42 rfl rfl ?_
          refine k_aload_n C 2 dX1_measure_43 rfl rfl ?_
          refine k_getN C hinX0 (15 + (pm j15)) 5 (wB_f (hpm _)) rfl (by decide) lk7 rfl rfl dX1_measure_44 ?_
          refine k_iconst C (v := (nI 0)) dX1_measure_47 (by decide) ?_
          refine k_ialdN C (j := 0) (60 + (pm j15)) 0 (wB_r (hpm _)) rfl (by omega) (by decide) dX1_measure_48 ?_
          refine k_aload_n C 2 dX1_measure_49 rfl rfl ?_
          refine k_getN C hinX0 (15 + (pm j15)) 5 (wB_f (hpm _)) rfl (by decide) lk7 rfl rfl dX1_measure_50 ?_
          refine k_iload_n C 3 dX1_measure_53 rfl rfl ?_
          refine k_ialdN C (j := j32) (60 + (pm j15)) 0 (wB_r (hpm _)) rfl (by omega) (by decide) dX1_measure_54 ?_
          refine k_aload_n C 2 dX1_measure_55 rfl rfl ?_
          refine k_getN C hinX0 (15 + (pm j15)) 5 (wB_f (hpm _)) rfl (by decide) lk7 rfl rfl dX1_measure_56 ?_
          refine k_iload_n C 3 dX1_measure_59 rfl rfl ?_
          refine k_iconst C (v := (nI 1)) dX1_measure_60 (by decide) ?_
          refine k_iaddN C dX1_measure_61 ?_
          refine k_ialdN C (j := (j32 + 1)) (60 + (pm j15)) 0 (wB_r (hpm _)) rfl (by omega) (by decide) dX1_measure_62 ?_
          refine k_callVV C (ar := 3) (As := [.int (nI ((rn (pm j15)) 0)), .int (nI ((rn (pm j15)) j32)), .int (nI ((rn (pm j15)) (j32 + 1)))]) (rest := []) (h1_addTetrahedron (kxL X) (kxD X) cI cJ cF cD (hrn _ _) (hrn _ _) (hrn _ _)) gX1_measure_X1_addTetrahedron rfl rfl rfl (by decide +kernel) ⟨Nat.le_of_ble_eq_true rfl, Nat.le_of_ble_eq_true rfl⟩ 5 rfl rfl rfl rfl (Nat.le_of_ble_eq_true rfl) dX1_measure_63 (Nat.zero_le _) (Nat.zero_le _) (fun w hw => ?_)
          subst hw
          refine k_iinc C (v := (nI (j32 + 1))) (lv' := [(3, .int (nI (j32 + 1))), (0, .ref (ba 5)), (1, .int (nI j15)), (2, .ref (fa (pm j15)))]) 3 dX1_measure_66 rfl (nI_1 _) (by decide) rfl ?_
          refine k_goto C 32 dX1_measure_69 (by decide) ?_
          have w76_0 : (((msF ax ay az (rn (pm j15)) (msG ax ay az pm sz rn (0, filL mo 0 3) j15) (j32 - 1)).1) + sixI ax ay az ((rn (pm j15)) 0) ((rn (pm j15)) j32) ((rn (pm j15)) (j32 + 1))) = ((msF ax ay az (rn (pm j15)) (msG ax ay az pm sz rn (0, filL mo 0 3) j15) ((j32 + 1) - 1)).1) := by rw [show j32 + 1 - 1 = (j32 - 1) + 1 by omega, msF, msA, show j32 - 1 + 1 = j32 by omega]
          have w77_1 : (momI ax ay az ((rn (pm j15)) 0) ((rn (pm j15)) j32) ((rn (pm j15)) (j32 + 1)) ((msF ax ay az (rn (pm j15)) (msG ax ay az pm sz rn (0, filL mo 0 3) j15) (j32 - 1)).2)) = ((msF ax ay az (rn (pm j15)) (msG ax ay az pm sz rn (0, filL mo 0 3) j15) ((j32 + 1) - 1)).2) := by rw [show j32 + 1 - 1 = (j32 - 1) + 1 by omega, msF, msA, show j32 - 1 + 1 = j32 by omega]
          refine k_ws (ws' := (wB ba fa ra cI cJ cF hb ps (nI nf) co ec asz ((msF ax ay az (rn (pm j15)) (msG ax ay az pm sz rn (0, filL mo 0 3) j15) ((j32 + 1) - 1)).1) tr pm xs ys zs ax ay az al el eh ((msF ax ay az (rn (pm j15)) (msG ax ay az pm sz rn (0, filL mo 0 3) j15) ((j32 + 1) - 1)).2) nx ny nz dd hd sz rn)) (by rw [← w76_0, ← w77_1]) ?_
          exact k_lv [1, 2, 3, 0] rfl (ih32 (j32 + 1) (by omega) (by omega) ⟨by omega, Or.inr (by omega)⟩)
