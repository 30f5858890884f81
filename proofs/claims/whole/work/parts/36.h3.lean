/-! ===== the class: its contracts ===== -/
set_option maxHeartbeats 4000000 in
set_option maxRecDepth 100000 in
theorem h0_goRound (l : Launch) (D : va_G) (cI cJ cF cD : ClassId) {ba fa ra : Nat → Nat} {hb : Int32} {ps : Int32} {fc : Int32} {co : Int32} {ec : Int32} {sx : Int64} {tr : Nat} {pm : Nat → Nat} {xs : Nat → Int32} {ys : Nat → Int32} {zs : Nat → Int32} {ax : Nat → Int32} {ay : Nat → Int32} {az : Nat → Int32} {al : Nat → Int32} {el : Nat → Nat} {eh : Nat → Nat} {mo : Nat → Int64} {nx : Nat → Int64} {ny : Nat → Int64} {nz : Nat → Int64} {dd : Nat → Int64} {hd : Nat → Int32} {sz : Nat → Nat} {rn : Nat → Nat → Nat} {i nh v0 m : Nat} (cs : Int32) (hi : i < 45) (hh : nh ≤ 24) (hm : m ≤ 24) (hv0 : v0 < 24) (hnt : ntF (hd i &&& cs) = nI v0) (hbc : bcF (hd i &&& cs) = nI m) : CtV l D (tyG cI cJ cF cD) yX0_goRound wsX0_goRound ({ frames := 3, cells := 0, slots := 0, locals := 73 }) [.ref (fa i), .ref (ba 6), .int cs] (wB ba fa ra cI cJ cF hb ps fc co ec (nI nh) sx tr pm xs ys zs ax ay az al el eh mo nx ny nz dd hd sz rn) (fun w => w = (wB ba fa ra cI cJ cF hb ps fc co ec (nI nh) sx tr pm xs ys zs ax ay az al el eh mo nx ny nz dd hd (updN sz i m) (updF rn i (rngW (rn i) (hsN (rgtB (nx i) (ny i) (nz i) ax ay az) (hd i &&& cs) nh v0) m)))) := by
  refine ctV_of (cc := cX0_goRound) (maxL := 6) (by decide) rfl (Nat.le_of_ble_eq_true rfl) ?_
  intro X hXl hXd C hret
  have lk0 : Cond.fieldLink RX0 51 "HullBuilder$Face" "held" "I" ∈ wsX0_goRound := by decide +kernel
  have hinX0 : ∀ w ∈ wsX00, w ∈ wsX0_goRound := by decide +kernel
  have lk2 : Cond.fieldLink RX0 64 "HullBuilder$Face" "size" "I" ∈ wsX0_goRound := by decide +kernel
  have lk3 : Cond.fieldLink RX0 9 "HullBuilder$Face" "ring" "[I" ∈ wsX0_goRound := by decide +kernel
  show Kw X 0 0 (wB ba fa ra cI cJ cF hb ps fc co ec (nI nh) sx tr pm xs ys zs ax ay az al el eh mo nx ny nz dd hd sz rn) 0 [(0, .ref (fa i)), (1, .ref (ba 6)), (2, .int cs)] []
  refine k_aload_n C 0 dX0_goRound_0 rfl rfl ?_
  refine k_get C hinX0 (15 + i) 4 (wB_f hi) rfl (by decide) lk0 rfl rfl dX0_goRound_1 ?_
  refine k_iload_n C 2 dX0_goRound_4 rfl rfl ?_
  refine k_iand C dX0_goRound_5 ?_
  refine k_istore_n C (lv' := [(3, .int ((hd i) &&& cs)), (0, .ref (fa i)), (1, .ref (ba 6)), (2, .int cs)]) dX0_goRound_6 rfl (by decide) rfl ?_
  refine k_iload_n C 0 dX0_goRound_7 rfl rfl ?_
  refine k_callSI C (ar := 1) (As := [.int ((hd i) &&& cs)]) (rest := []) (h6_numberOfTrailingZeros_0f7a4 (kxL X) (kxD X) cI cJ cF cD _ ((hd i) &&& cs)) gX0_goRound_J6_numberOfTrailingZeros_0f7a4 rfl rfl rfl (by decide +kernel) ⟨Nat.le_of_ble_eq_true rfl, Nat.le_of_ble_eq_true rfl⟩ rfl rfl (Nat.le_of_ble_eq_true rfl) dX0_goRound_8 (Nat.zero_le _) (Nat.zero_le _) (fun r w hw => ?_)
  obtain ⟨rfl, rfl⟩ := hw
  refine k_topi (nI v0) hnt ?_
  refine k_topi (nI ((hsN (rgtB (nx i) (ny i) (nz i) ax ay az) (hd i &&& cs) nh v0) 0)) rfl ?_
  refine k_istore C (lv' := [(4, .int (nI ((hsN (rgtB (nx i) (ny i) (nz i) ax ay az) (hd i &&& cs) nh v0) 0))), (3, .int ((hd i) &&& cs)), (0, .ref (fa i)), (1, .ref (ba 6)), (2, .int cs)]) dX0_goRound_11 (by decide) rfl ?_
  refine k_aload_n C 2 dX0_goRound_13 rfl rfl ?_
  refine k_iconst C (v := (nI 0)) dX0_goRound_14 (by decide) ?_
  refine k_put C (ws' := (wB ba fa ra cI cJ cF hb ps fc co ec (nI nh) sx tr pm xs ys zs ax ay az al el eh mo nx ny nz dd hd (updN sz i 0) rn)) hinX0 tyX0 tyX0_ok nmX0 (15 + i) 6 (wB_f hi) rfl (by decide) lk2 rfl rfl rfl rfl (Nat.le_of_ble_eq_true rfl) (wB_ssz hi _) dX0_goRound_15 ?_
  refine k_iconst C (v := (nI 0)) dX0_goRound_18 (by decide) ?_
  refine k_istore C (lv' := [(5, .int (nI 0)), (4, .int (nI ((hsN (rgtB (nx i) (ny i) (nz i) ax ay az) (hd i &&& cs) nh v0) 0))), (3, .int ((hd i) &&& cs)), (0, .ref (fa i)), (1, .ref (ba 6)), (2, .int cs)]) dX0_goRound_19 (by decide) rfl ?_
  suffices L21 : ∀ (n21 j21 : Nat), j21 ≤ m → m + 1 ≤ j21 + n21 → Kw X 0 0 (wB ba fa ra cI cJ cF hb ps fc co ec (nI nh) sx tr pm xs ys zs ax ay az al el eh mo nx ny nz dd hd (updN sz i j21) (updF rn i (rngW (rn i) (hsN (rgtB (nx i) (ny i) (nz i) ax ay az) (hd i &&& cs) nh v0) j21))) 21 [(0, .ref (fa i)), (1, .ref (ba 6)), (2, .int cs), (3, .int (hd i &&& cs)), (4, .int (nI ((hsN (rgtB (nx i) (ny i) (nz i) ax ay az) (hd i &&& cs) nh v0) j21))), (5, .int (nI j21))] [] by
    have e17_0 : ((hd i) &&& cs) = (hd i &&& cs) := rfl
    have w18_0 : rn = (updF rn i (rngW (rn i) (hsN (rgtB (nx i) (ny i) (nz i) ax ay az) (hd i &&& cs) nh v0) 0)) := by rw [rngW_0, updF_self]
    refine k_ws (ws' := (wB ba fa ra cI cJ cF hb ps fc co ec (nI nh) sx tr pm xs ys zs ax ay az al el eh mo nx ny nz dd hd (updN sz i 0) (updF rn i (rngW (rn i) (hsN (rgtB (nx i) (ny i) (nz i) ax ay az) (hd i &&& cs) nh v0) 0)))) (by rw [← w18_0]) ?_
    exact k_lv [3, 4, 5, 2, 1, 0] (by rw [← e17_0]; rfl) (L21 (m + 1) 0 (by omega) (by omega))
  intro n21
  induction n21 with
  | zero => intro j21 a1 a2; exact absurd a2 (by omega)
  | succ n21 ih21 =>
    intro j21 b21 c21
    refine k_iload C 5 dX0_goRound_21 rfl ?_
    refine k_bipush C (v := (nI 24)) dX0_goRound_23 (by decide) ?_
    refine k_icmp_geN C (by omega) (by omega) 72 dX0_goRound_25 (by decide) (fun h_1 => ?_) (fun h_1 => ?_)
    · exact hret _ _ _ (by rw [show j21 = m by omega]) dX0_goRound_72
    · refine k_iload C 5 dX0_goRound_28 rfl ?_
      refine k_iload_n C 3 dX0_goRound_30 rfl rfl ?_
      refine k_callSI C (ar := 1) (As := [.int (hd i &&& cs)]) (rest := [.int (nI j21)]) (h6_bitCount_0f7a4 (kxL X) (kxD X) cI cJ cF cD _ (hd i &&& cs)) gX0_goRound_J6_bitCount_0f7a4 rfl rfl rfl (by decide +kernel) ⟨Nat.le_of_ble_eq_true rfl, Nat.le_of_ble_eq_true rfl⟩ rfl rfl (Nat.le_of_ble_eq_true rfl) dX0_goRound_31 (Nat.zero_le _) (Nat.zero_le _) (fun r w hw => ?_)
      obtain ⟨rfl, rfl⟩ := hw
      refine k_topi (nI m) hbc ?_
      refine k_icmp_geN C (by omega) (by omega) 72 dX0_goRound_34 (by decide) (fun h_2 => ?_) (fun h_2 => ?_)
      · exact hret _ _ _ (by rw [show j21 = m by omega]) dX0_goRound_72
      · refine k_aload_n C 0 dX0_goRound_37 rfl rfl ?_
        refine k_get C hinX0 (15 + i) 5 (wB_f hi) rfl (by decide) lk3 rfl rfl dX0_goRound_38 ?_
        refine k_iload C 5 dX0_goRound_41 rfl ?_
        refine k_iload C 4 dX0_goRound_43 rfl ?_
        refine k_iastN C (ws' := (wB ba fa ra cI cJ cF hb ps fc co ec (nI nh) sx tr pm xs ys zs ax ay az al el eh mo nx ny nz dd hd (updN sz i j21) (updF (updF rn i (rngW (rn i) (hsN (rgtB (nx i) (ny i) (nz i) ax ay az) (hd i &&& cs) nh v0) j21)) i (updN ((updF rn i (rngW (rn i) (hsN (rgtB (nx i) (ny i) (nz i) ax ay az) (hd i &&& cs) nh v0) j21)) i) j21 ((hsN (rgtB (nx i) (ny i) (nz i) ax ay az) (hd i &&& cs) nh v0) j21))))) (j := j21) (60 + i) 0 (wB_r hi) rfl (by omega) (by decide) (wB_srn hi _) dX0_goRound_45 ?_
        refine k_aload_n C 0 dX0_goRound_46 rfl rfl ?_
        refine k_dup C dX0_goRound_47 rfl ?_
        refine k_get C hinX0 (15 + i) 6 (wB_f hi) rfl (by decide) lk2 rfl rfl dX0_goRound_48 ?_
        refine k_topi (nI j21) (by simp [vp_updL, upd, updN]) ?_
        refine k_iconst C (v := (nI 1)) dX0_goRound_51 (by decide) ?_
        refine k_iaddN C dX0_goRound_52 ?_
        refine k_put C (ws' := (wB ba fa ra cI cJ cF hb ps fc co ec (nI nh) sx tr pm xs ys zs ax ay az al el eh mo nx ny nz dd hd (updN (updN sz i j21) i (j21 + 1)) (updF (updF rn i (rngW (rn i) (hsN (rgtB (nx i) (ny i) (nz i) ax ay az) (hd i &&& cs) nh v0) j21)) i (updN ((updF rn i (rngW (rn i) (hsN (rgtB (nx i) (ny i) (nz i) ax ay az) (hd i &&& cs) nh v0) j21)) i) j21 ((hsN (rgtB (nx i) (ny i) (nz i) ax ay az) (hd i &&& cs) nh v0) j21))))) hinX0 tyX0 tyX0_ok nmX0 (15 + i) 6 (wB_f hi) rfl (by decide) lk2 rfl rfl rfl rfl (Nat.le_of_ble_eq_true rfl) (wB_ssz hi _) dX0_goRound_53 ?_
        refine k_aload_n C 0 dX0_goRound_56 rfl rfl ?_
        refine k_aload_n C 1 dX0_goRound_57 rfl rfl ?_
        refine k_iload_n C 3 dX0_goRound_58 rfl rfl ?_
        refine k_iload C 4 dX0_goRound_59 rfl ?_
        refine k_callVI C (ar := 3) (As := [.ref (ba 6), .int (hd i &&& cs), .int (nI ((hsN (rgtB (nx i) (ny i) (nz i) ax ay az) (hd i &&& cs) nh v0) j21))]) (rest := []) (h0_nextRound (kxL X) (kxD X) cI cJ cF cD (hd i &&& cs) hi (by omega) (hsN_lt hv0 hh _)) gX0_goRound_X0_nextRound rfl rfl rfl (by decide +kernel) ⟨Nat.le_of_ble_eq_true rfl, Nat.le_of_ble_eq_true rfl⟩ (15 + i) (wB_f hi) rfl rfl rfl (Nat.le_of_ble_eq_true rfl) dX0_goRound_61 (Nat.zero_le _) (Nat.zero_le _) (fun r w hw => ?_)
        obtain ⟨rfl, rfl⟩ := hw
        refine k_istore C (lv' := [(4, .int (nI (nrN (rgtB (nx i) (ny i) (nz i) ax ay az) (hd i &&& cs) ((hsN (rgtB (nx i) (ny i) (nz i) ax ay az) (hd i &&& cs) nh v0) j21) nh))), (0, .ref (fa i)), (1, .ref (ba 6)), (2, .int cs), (3, .int (hd i &&& cs)), (5, .int (nI j21))]) dX0_goRound_64 (by decide) rfl ?_
        refine k_iinc C (v := (nI (j21 + 1))) (lv' := [(5, .int (nI (j21 + 1))), (4, .int (nI (nrN (rgtB (nx i) (ny i) (nz i) ax ay az) (hd i &&& cs) ((hsN (rgtB (nx i) (ny i) (nz i) ax ay az) (hd i &&& cs) nh v0) j21) nh))), (0, .ref (fa i)), (1, .ref (ba 6)), (2, .int cs), (3, .int (hd i &&& cs))]) 5 dX0_goRound_66 rfl (nI_1 _) (by decide) rfl ?_
        refine k_goto C 21 dX0_goRound_69 (by decide) ?_
        have e60_0 : (nI (nrN (rgtB (nx i) (ny i) (nz i) ax ay az) (hd i &&& cs) ((hsN (rgtB (nx i) (ny i) (nz i) ax ay az) (hd i &&& cs) nh v0) j21) nh)) = (nI ((hsN (rgtB (nx i) (ny i) (nz i) ax ay az) (hd i &&& cs) nh v0) (j21 + 1))) := rfl
        have w61_0 : (updN (updN sz i j21) i (j21 + 1)) = (updN sz i (j21 + 1)) := by rw [updN_uu]
        have w62_1 : (updF (updF rn i (rngW (rn i) (hsN (rgtB (nx i) (ny i) (nz i) ax ay az) (hd i &&& cs) nh v0) j21)) i (updN ((updF rn i (rngW (rn i) (hsN (rgtB (nx i) (ny i) (nz i) ax ay az) (hd i &&& cs) nh v0) j21)) i) j21 ((hsN (rgtB (nx i) (ny i) (nz i) ax ay az) (hd i &&& cs) nh v0) j21))) = (updF rn i (rngW (rn i) (hsN (rgtB (nx i) (ny i) (nz i) ax ay az) (hd i &&& cs) nh v0) (j21 + 1))) := by rw [updF_uu, updF_at, rngW_s]
        refine k_ws (ws' := (wB ba fa ra cI cJ cF hb ps fc co ec (nI nh) sx tr pm xs ys zs ax ay az al el eh mo nx ny nz dd hd (updN sz i (j21 + 1)) (updF rn i (rngW (rn i) (hsN (rgtB (nx i) (ny i) (nz i) ax ay az) (hd i &&& cs) nh v0) (j21 + 1))))) (by rw [← w61_0, ← w62_1]) ?_
        exact k_lv [2, 3, 4, 5, 1, 0] (by rw [← e60_0]; rfl) (ih21 (j21 + 1) (by omega) (by omega))
set_option maxHeartbeats 4000000 in
set_option maxRecDepth 100000 in
theorem h7_fill_53178 (l : Launch) (D : va_G) (cI cJ cF cD : ClassId) {ba fa ra : Nat → Nat} {hb : Int32} {ps : Int32} {fc : Int32} {co : Int32} {ec : Int32} {asz : Int32} {sx : Int64} {tr : Nat} {pm : Nat → Nat} {xs : Nat → Int32} {ys : Nat → Int32} {zs : Nat → Int32} {ax : Nat → Int32} {ay : Nat → Int32} {az : Nat → Int32} {al : Nat → Int32} {el : Nat → Nat} {eh : Nat → Nat} {mo : Nat → Int64} {nx : Nat → Int64} {ny : Nat → Int64} {nz : Nat → Int64} {dd : Nat → Int64} {hd : Nat → Int32} {sz : Nat → Nat} {rn : Nat → Nat → Nat} (v9 : Int32)  : CtV l D (tyG cI cJ cF cD) yJ7_fill_53178 wsJ7_fill_53178 ({ frames := 0, cells := 0, slots := 0, locals := 0 }) [.ref (ba 11), .int v9] (wB ba fa ra cI cJ cF hb ps fc co ec asz sx tr pm xs ys zs ax ay az al el eh mo nx ny nz dd hd sz rn) (fun w => w = (wB ba fa ra cI cJ cF hb ps fc co ec asz sx tr pm xs ys zs ax ay az (filI al v9 576) el eh mo nx ny nz dd hd sz rn)) := by
  refine ctV_of (cc := cJ7_fill_53178) (maxL := 4) (by decide) rfl (Nat.le_of_ble_eq_true rfl) ?_
  intro X hXl hXd C hret
  show Kw X 0 0 (wB ba fa ra cI cJ cF hb ps fc co ec asz sx tr pm xs ys zs ax ay az al el eh mo nx ny nz dd hd sz rn) 0 [(0, .ref (ba 11)), (1, .int v9)] []
  refine k_iconst C (v := (nI 0)) dJ7_fill_53178_0 (by decide) ?_
  refine k_istore_n C (lv' := [(2, .int (nI 0)), (0, .ref (ba 11)), (1, .int v9)]) dJ7_fill_53178_1 rfl (by decide) rfl ?_
  refine k_aload_n C 1 dJ7_fill_53178_2 rfl rfl ?_
  refine k_alen C 11 0 rfl rfl dJ7_fill_53178_3 ?_
  refine k_istore_n C (lv' := [(3, .int (nI 576)), (2, .int (nI 0)), (0, .ref (ba 11)), (1, .int v9)]) dJ7_fill_53178_4 rfl (by decide) rfl ?_
  suffices L5 : ∀ (n5 j5 : Nat), j5 ≤ 576 → 576 + 1 ≤ j5 + n5 → Kw X 0 0 (wB ba fa ra cI cJ cF hb ps fc co ec asz sx tr pm xs ys zs ax ay az (filI al v9 j5) el eh mo nx ny nz dd hd sz rn) 5 [(0, .ref (ba 11)), (1, .int v9), (2, .int (nI j5)), (3, .int (nI 576))] [] by
    have w6_0 : al = (filI al v9 0) := (filI_0 _ _).symm
    refine k_ws (ws' := (wB ba fa ra cI cJ cF hb ps fc co ec asz sx tr pm xs ys zs ax ay az (filI al v9 0) el eh mo nx ny nz dd hd sz rn)) (by rw [← w6_0]) ?_
    exact k_lv [2, 3, 1, 0] rfl (L5 (576 + 1) 0 (by omega) (by omega))
  intro n5
  induction n5 with
  | zero => intro j5 a1 a2; exact absurd a2 (by omega)
  | succ n5 ih5 =>
    intro j5 b5 c5
    refine k_iload_n C 2 dJ7_fill_53178_5 rfl rfl ?_
    refine k_iload_n C 3 dJ7_fill_53178_6 rfl rfl ?_
    refine k_icmp_geN C (by omega) (by omega) 20 dJ7_fill_53178_7 (by decide) (fun h_1 => ?_) (fun h_1 => ?_)
    · exact hret _ _ _ (by rw [show j5 = 576 by omega]) dJ7_fill_53178_20
    · refine k_aload_n C 0 dJ7_fill_53178_10 rfl rfl ?_
      refine k_iload_n C 2 dJ7_fill_53178_11 rfl rfl ?_
      refine k_iload_n C 1 dJ7_fill_53178_12 rfl rfl ?_
      refine k_iast C (ws' := (wB ba fa ra cI cJ cF hb ps fc co ec asz sx tr pm xs ys zs ax ay az (upd (filI al v9 j5) j5 v9) el eh mo nx ny nz dd hd sz rn)) (j := j5) 11 0 rfl rfl (by omega) (by decide) rfl dJ7_fill_53178_13 ?_
      refine k_iinc C (v := (nI (j5 + 1))) (lv' := [(2, .int (nI (j5 + 1))), (0, .ref (ba 11)), (1, .int v9), (3, .int (nI 576))]) 2 dJ7_fill_53178_14 rfl (nI_1 _) (by decide) rfl ?_
      refine k_goto C 5 dJ7_fill_53178_17 (by decide) ?_
      have w25_0 : (upd (filI al v9 j5) j5 v9) = (filI al v9 (j5 + 1)) := filI_s _ _ _
      refine k_ws (ws' := (wB ba fa ra cI cJ cF hb ps fc co ec asz sx tr pm xs ys zs ax ay az (filI al v9 (j5 + 1)) el eh mo nx ny nz dd hd sz rn)) (by rw [← w25_0]) ?_
      exact k_lv [1, 2, 0, 3] rfl (ih5 (j5 + 1) (by omega) (by omega))
set_option maxHeartbeats 4000000 in
set_option maxRecDepth 100000 in
theorem h7_fill_d0a16 (l : Launch) (D : va_G) (cI cJ cF cD : ClassId) {ba fa ra : Nat → Nat} {hb : Int32} {ps : Int32} {fc : Int32} {co : Int32} {ec : Int32} {asz : Int32} {sx : Int64} {tr : Nat} {pm : Nat → Nat} {xs : Nat → Int32} {ys : Nat → Int32} {zs : Nat → Int32} {ax : Nat → Int32} {ay : Nat → Int32} {az : Nat → Int32} {al : Nat → Int32} {el : Nat → Nat} {eh : Nat → Nat} {mo : Nat → Int64} {nx : Nat → Int64} {ny : Nat → Int64} {nz : Nat → Int64} {dd : Nat → Int64} {hd : Nat → Int32} {sz : Nat → Nat} {rn : Nat → Nat → Nat} (v9 : Int64)  : CtV l D (tyG cI cJ cF cD) yJ7_fill_d0a16 wsJ7_fill_d0a16 ({ frames := 0, cells := 0, slots := 0, locals := 0 }) [.ref (ba 14), .long v9] (wB ba fa ra cI cJ cF hb ps fc co ec asz sx tr pm xs ys zs ax ay az al el eh mo nx ny nz dd hd sz rn) (fun w => w = (wB ba fa ra cI cJ cF hb ps fc co ec asz sx tr pm xs ys zs ax ay az al el eh (filL mo v9 3) nx ny nz dd hd sz rn)) := by
  refine ctV_of (cc := cJ7_fill_d0a16) (maxL := 5) (by decide) rfl (Nat.le_of_ble_eq_true rfl) ?_
  intro X hXl hXd C hret
  show Kw X 0 0 (wB ba fa ra cI cJ cF hb ps fc co ec asz sx tr pm xs ys zs ax ay az al el eh mo nx ny nz dd hd sz rn) 0 [(0, .ref (ba 14)), (1, .long v9)] []
  refine k_iconst C (v := (nI 0)) dJ7_fill_d0a16_0 (by decide) ?_
  refine k_istore_n C (lv' := [(3, .int (nI 0)), (0, .ref (ba 14)), (1, .long v9)]) dJ7_fill_d0a16_1 rfl (by decide) rfl ?_
  refine k_aload_n C 1 dJ7_fill_d0a16_2 rfl rfl ?_
  refine k_alen C 14 1 rfl rfl dJ7_fill_d0a16_3 ?_
  refine k_istore C (lv' := [(4, .int (nI 3)), (3, .int (nI 0)), (0, .ref (ba 14)), (1, .long v9)]) dJ7_fill_d0a16_4 (by decide) rfl ?_
  suffices L6 : ∀ (n6 j6 : Nat), j6 ≤ 3 → 3 + 1 ≤ j6 + n6 → Kw X 0 0 (wB ba fa ra cI cJ cF hb ps fc co ec asz sx tr pm xs ys zs ax ay az al el eh (filL mo v9 j6) nx ny nz dd hd sz rn) 6 [(0, .ref (ba 14)), (1, .long v9), (3, .int (nI j6)), (4, .int (nI 3))] [] by
    have w6_0 : mo = (filL mo v9 0) := (filL_0 _ _).symm
    refine k_ws (ws' := (wB ba fa ra cI cJ cF hb ps fc co ec asz sx tr pm xs ys zs ax ay az al el eh (filL mo v9 0) nx ny nz dd hd sz rn)) (by rw [← w6_0]) ?_
    exact k_lv [2, 3, 1, 0] rfl (L6 (3 + 1) 0 (by omega) (by omega))
  intro n6
  induction n6 with
  | zero => intro j6 a1 a2; exact absurd a2 (by omega)
  | succ n6 ih6 =>
    intro j6 b6 c6
    refine k_iload_n C 2 dJ7_fill_d0a16_6 rfl rfl ?_
    refine k_iload C 3 dJ7_fill_d0a16_7 rfl ?_
    refine k_icmp_geN C (by omega) (by omega) 22 dJ7_fill_d0a16_9 (by decide) (fun h_1 => ?_) (fun h_1 => ?_)
    · exact hret _ _ _ (by rw [show j6 = 3 by omega]) dJ7_fill_d0a16_22
    · refine k_aload_n C 0 dJ7_fill_d0a16_12 rfl rfl ?_
      refine k_iload_n C 2 dJ7_fill_d0a16_13 rfl rfl ?_
      refine k_lload_n C 1 dJ7_fill_d0a16_14 rfl rfl ?_
      refine k_last C (ws' := (wB ba fa ra cI cJ cF hb ps fc co ec asz sx tr pm xs ys zs ax ay az al el eh (vp_updL (filL mo v9 j6) j6 v9) nx ny nz dd hd sz rn)) (j := j6) 14 1 rfl rfl (by omega) (by decide) rfl dJ7_fill_d0a16_15 ?_
      refine k_iinc C (v := (nI (j6 + 1))) (lv' := [(3, .int (nI (j6 + 1))), (0, .ref (ba 14)), (1, .long v9), (4, .int (nI 3))]) 2 dJ7_fill_d0a16_16 rfl (nI_1 _) (by decide) rfl ?_
      refine k_goto C 6 dJ7_fill_d0a16_19 (by decide) ?_
      have w25_0 : (vp_updL (filL mo v9 j6) j6 v9) = (filL mo v9 (j6 + 1)) := filL_s _ _ _
      refine k_ws (ws' := (wB ba fa ra cI cJ cF hb ps fc co ec asz sx tr pm xs ys zs ax ay az al el eh (filL mo v9 (j6 + 1)) nx ny nz dd hd sz rn)) (by rw [← w25_0]) ?_
      exact k_lv [1, 2, 0, 3] rfl (ih6 (j6 + 1) (by omega) (by omega))
set_option maxHeartbeats 4000000 in
set_option maxRecDepth 100000 in
theorem h1_wouldBeFlat (l : Launch) (D : va_G) (cI cJ cF cD : ClassId) {ba fa ra : Nat → Nat} {hb : Int32} {fc : Int32} {co : Int32} {ec : Int32} {asz : Int32} {sx : Int64} {tr : Nat} {pm : Nat → Nat} {xs : Nat → Int32} {ys : Nat → Int32} {zs : Nat → Int32} {ax : Nat → Int32} {ay : Nat → Int32} {az : Nat → Int32} {al : Nat → Int32} {el : Nat → Nat} {eh : Nat → Nat} {mo : Nat → Int64} {nx : Nat → Int64} {ny : Nat → Int64} {nz : Nat → Int64} {dd : Nat → Int64} {hd : Nat → Int32} {sz : Nat → Nat} {rn : Nat → Nat → Nat} {np : Nat} (hnp : np ≤ 24) (htr : tr < 45) : CtI l D (tyG cI cJ cF cD) yX1_wouldBeFlat wsX1_wouldBeFlat ({ frames := 2, cells := 0, slots := 0, locals := 48 }) [.ref (ba 5), .ref (ba 1)] (wB ba fa ra cI cJ cF hb (nI np) fc co ec asz sx tr pm xs ys zs ax ay az al el eh mo nx ny nz dd hd sz rn) (fun r w => ∃ v1 v2 v3 v4 : Int64, r = b2i (flB np xs ys zs) ∧ w = (wB ba fa ra cI cJ cF hb (nI np) fc co ec asz sx tr pm xs ys zs ax ay az al el eh mo (vp_updL nx tr v1) (vp_updL ny tr v2) (vp_updL nz tr v3) (vp_updL dd tr v4) hd sz rn)) := by
  refine ctZ_of (cc := cX1_wouldBeFlat) (maxL := 3) (by decide) rfl (Nat.le_of_ble_eq_true rfl) (fun r w h => by obtain ⟨_, _, _, _, h, _⟩ := h; rw [h]; exact b2i_01 _) ?_
  intro X hXl hXd C hret
  have lk0 : Cond.fieldLinkNest RX1 43 "HullBuilder$Points" "size" "I" "HullBuilder" ∈ kNW := by decide +kernel
  have hinX2 : ∀ w ∈ wsX20, w ∈ wsX1_wouldBeFlat := by decide +kernel
  have lk2 : Cond.fieldLink RX1 25 "HullBuilder$Hull" "trial" "LHullBuilder$Face;" ∈ wsX1_wouldBeFlat := by decide +kernel
  have hinX1 : ∀ w ∈ wsX10, w ∈ wsX1_wouldBeFlat := by decide +kernel
  have lk4 : Cond.methodLinkNest RX1 47 yX0_layThrough "HullBuilder" ∈ kNW := by decide +kernel
  have lk5 : Cond.initialized RX0 ∈ wsX1_wouldBeFlat := by decide +kernel
  have lk6 : Cond.instanceMethod yX0_layThrough ∈ wsX1_wouldBeFlat := by decide +kernel
  have lk7 : Cond.selects RX0 yX0_layThrough yX0_layThrough ∈ wsX1_wouldBeFlat := by decide +kernel
  have lk8 : Cond.methodLinkNest RX1 51 yX0_holdsAll "HullBuilder" ∈ kNW := by decide +kernel
  have lk9 : Cond.instanceMethod yX0_holdsAll ∈ wsX1_wouldBeFlat := by decide +kernel
  have lk10 : Cond.selects RX0 yX0_holdsAll yX0_holdsAll ∈ wsX1_wouldBeFlat := by decide +kernel
  show Kw X 0 0 (wB ba fa ra cI cJ cF hb (nI np) fc co ec asz sx tr pm xs ys zs ax ay az al el eh mo nx ny nz dd hd sz rn) 0 [(0, .ref (ba 5)), (1, .ref (ba 1))] []
  refine k_iconst C (v := (nI 2)) dX1_wouldBeFlat_0 (by decide) ?_
  refine k_istore_n C (lv' := [(2, .int (nI 2)), (0, .ref (ba 5)), (1, .ref (ba 1))]) dX1_wouldBeFlat_1 rfl (by decide) rfl ?_
  suffices L2 : ∀ (n2 j2 : Nat) (v1 : Int64) (v2 : Int64) (v3 : Int64) (v4 : Int64), j2 ≤ (np + 2) → (np + 2) + 1 ≤ j2 + n2 → flR np xs ys zs (np + 3 - j2) j2 = flR np xs ys zs (np + 1) 2 ∧ 2 ≤ j2 → Kw X 0 0 (wB ba fa ra cI cJ cF hb (nI np) fc co ec asz sx tr pm xs ys zs ax ay az al el eh mo (vp_updL nx tr v1) (vp_updL ny tr v2) (vp_updL nz tr v3) (vp_updL dd tr v4) hd sz rn) 2 [(0, .ref (ba 5)), (1, .ref (ba 1)), (2, .int (nI j2))] [] by
    have w3_0 : nx = (vp_updL nx tr (nx tr)) := (updL_self _ _).symm
    have w4_1 : ny = (vp_updL ny tr (ny tr)) := (updL_self _ _).symm
    have w5_2 : nz = (vp_updL nz tr (nz tr)) := (updL_self _ _).symm
    have w6_3 : dd = (vp_updL dd tr (dd tr)) := (updL_self _ _).symm
    refine k_ws (ws' := (wB ba fa ra cI cJ cF hb (nI np) fc co ec asz sx tr pm xs ys zs ax ay az al el eh mo (vp_updL nx tr (nx tr)) (vp_updL ny tr (ny tr)) (vp_updL nz tr (nz tr)) (vp_updL dd tr (dd tr)) hd sz rn)) (by rw [← w3_0, ← w4_1, ← w5_2, ← w6_3]) ?_
    exact k_lv [1, 2, 0] rfl (L2 ((np + 2) + 1) 2 (nx tr) (ny tr) (nz tr) (dd tr) (by omega) (by omega) ⟨rfl, Nat.le_refl _⟩)
  intro n2
  induction n2 with
  | zero => intro j2 v1 v2 v3 v4 a1 a2; exact absurd a2 (by omega)
  | succ n2 ih2 =>
    intro j2 v1 v2 v3 v4 b2 c2 g2_0
    refine k_iload_n C 2 dX1_wouldBeFlat_2 rfl rfl ?_
    refine k_aload_n C 1 dX1_wouldBeFlat_3 rfl rfl ?_
    refine k_getN C hinX2 1 3 rfl rfl (by decide) lk0 rfl rfl dX1_wouldBeFlat_4 ?_
    refine k_icmp_geN C (by omega) (by omega) 39 dX1_wouldBeFlat_7 (by decide) (fun h_1 => ?_) (fun h_1 => ?_)
    · refine k_iconst C (v := (nI 1)) dX1_wouldBeFlat_39 (by decide) ?_
      exact hret _ _ _ _ (⟨_, _, _, _, by rw [flB, ← g2_0.1, show np + 3 - j2 = (np + 3 - (j2 + 1)) + 1 by omega, flR, if_neg (by omega)]; rfl, rfl⟩) dX1_wouldBeFlat_40
    · refine k_aload_n C 0 dX1_wouldBeFlat_10 rfl rfl ?_
      refine k_get C hinX1 5 2 rfl rfl (by decide) lk2 rfl rfl dX1_wouldBeFlat_11 ?_
      refine k_aload_n C 1 dX1_wouldBeFlat_14 rfl rfl ?_
      refine k_iconst C (v := (nI 0)) dX1_wouldBeFlat_15 (by decide) ?_
      refine k_iconst C (v := (nI 1)) dX1_wouldBeFlat_16 (by decide) ?_
      refine k_iload_n C 2 dX1_wouldBeFlat_17 rfl rfl ?_
      refine k_callVNI C (ar := 4) (As := [.ref (ba 1), .int (nI 0), .int (nI 1), .int (nI j2)]) (rest := []) (h0_layThrough_p (kxL X) (kxD X) cI cJ cF cD htr (by omega) (by omega) (by omega)) ggX1_wouldBeFlat_X0_layThrough rfl rfl rfl lk4 lk5 lk6 lk7 (by decide +kernel) ⟨Nat.le_of_ble_eq_true rfl, Nat.le_of_ble_eq_true rfl⟩ (15 + tr) (wB_f htr) rfl rfl rfl (Nat.le_of_ble_eq_true rfl) dX1_wouldBeFlat_18 (Nat.zero_le _) (Nat.zero_le _) (fun r w hw => ?_)
      obtain ⟨rfl, rfl⟩ := hw
      refine k_if_eqB C 33 dX1_wouldBeFlat_21 (by decide) (fun h_2 => ?_) (fun h_2 => ?_)
      · refine k_iinc C (v := (nI (j2 + 1))) (lv' := [(2, .int (nI (j2 + 1))), (0, .ref (ba 5)), (1, .ref (ba 1))]) 2 dX1_wouldBeFlat_33 rfl (nI_1 _) (by decide) rfl ?_
        refine k_goto C 2 dX1_wouldBeFlat_36 (by decide) ?_
        have w33_0 : (vp_updL (vp_updL nx tr v1) tr (acI ys zs 0 1 j2)) = (vp_updL nx tr (acI ys zs 0 1 j2)) := updL_uu _ _ _ _
        have w34_1 : (vp_updL (vp_updL ny tr v2) tr (acI zs xs 0 1 j2)) = (vp_updL ny tr (acI zs xs 0 1 j2)) := updL_uu _ _ _ _
        have w35_2 : (vp_updL (vp_updL nz tr v3) tr (acI xs ys 0 1 j2)) = (vp_updL nz tr (acI xs ys 0 1 j2)) := updL_uu _ _ _ _
        have w36_3 : (vp_updL (vp_updL dd tr v4) tr (lyD xs ys zs 0 1 j2)) = (vp_updL dd tr (lyD xs ys zs 0 1 j2)) := updL_uu _ _ _ _
        refine k_ws (ws' := (wB ba fa ra cI cJ cF hb (nI np) fc co ec asz sx tr pm xs ys zs ax ay az al el eh mo (vp_updL nx tr (acI ys zs 0 1 j2)) (vp_updL ny tr (acI zs xs 0 1 j2)) (vp_updL nz tr (acI xs ys 0 1 j2)) (vp_updL dd tr (lyD xs ys zs 0 1 j2)) hd sz rn)) (by rw [← w33_0, ← w34_1, ← w35_2, ← w36_3]) ?_
        exact k_lv [1, 2, 0] rfl (ih2 (j2 + 1) (acI ys zs 0 1 j2) (acI zs xs 0 1 j2) (acI xs ys 0 1 j2) (lyD xs ys zs 0 1 j2) (by omega) (by omega) ⟨by rw [← g2_0.1, show np + 3 - j2 = (np + 3 - (j2 + 1)) + 1 by omega, flR, if_pos (by omega), if_neg (Bool.eq_false_iff.mp h_2)], by omega⟩)
      · refine k_aload_n C 0 dX1_wouldBeFlat_24 rfl rfl ?_
        refine k_get C hinX1 5 2 rfl rfl (by decide) lk2 rfl rfl dX1_wouldBeFlat_25 ?_
        refine k_aload_n C 1 dX1_wouldBeFlat_28 rfl rfl ?_
        refine k_callVNI C (ar := 1) (As := [.ref (ba 1)]) (rest := []) (h0_holdsAll (kxL X) (kxD X) cI cJ cF cD htr (by omega)) ggX1_wouldBeFlat_X0_holdsAll rfl rfl rfl lk8 lk5 lk9 lk10 (by decide +kernel) ⟨Nat.le_of_ble_eq_true rfl, Nat.le_of_ble_eq_true rfl⟩ (15 + tr) (wB_f htr) rfl rfl rfl (Nat.le_of_ble_eq_true rfl) dX1_wouldBeFlat_29 (Nat.zero_le _) (Nat.zero_le _) (fun r w hw => ?_)
        obtain ⟨rfl, rfl⟩ := hw
        exact hret _ _ _ _ (⟨_, _, _, _, by rw [flB, ← g2_0.1, show np + 3 - j2 = (np + 3 - (j2 + 1)) + 1 by omega, flR, if_pos (by omega), if_pos h_2, updL_uu, updL_uu, updL_uu, updL_uu, tH_upd _ _ _ _ _ xs ys zs xs ys zs], by rw [updL_uu, updL_uu, updL_uu, updL_uu]⟩) dX1_wouldBeFlat_32
set_option maxHeartbeats 4000000 in
set_option maxRecDepth 100000 in
theorem h1_lieInOneFace (l : Launch) (D : va_G) (cI cJ cF cD : ClassId) {ba fa ra : Nat → Nat} {hb : Int32} {ps : Int32} {co : Int32} {ec : Int32} {asz : Int32} {sx : Int64} {xs : Nat → Int32} {ys : Nat → Int32} {zs : Nat → Int32} {ax : Nat → Int32} {ay : Nat → Int32} {az : Nat → Int32} {al : Nat → Int32} {el : Nat → Nat} {eh : Nat → Nat} {mo : Nat → Int64} {sz : Nat → Nat} {rn : Nat → Nat → Nat} {S : CT} (s9 : Int32) (hS : invC S) : CtI l D (tyG cI cJ cF cD) yX1_lieInOneFace wsX1_lieInOneFace ({ frames := 0, cells := 0, slots := 0, locals := 0 }) [.ref (ba 5), .int s9] (wB ba fa ra cI cJ cF hb ps (nI S.1) co ec asz sx S.2.2.1 S.2.1 xs ys zs ax ay az al el eh mo S.2.2.2.1 S.2.2.2.2.1 S.2.2.2.2.2.1 S.2.2.2.2.2.2.1 S.2.2.2.2.2.2.2 sz rn) (fun r w => r = (b2i (lieB S s9)) ∧ w = (wB ba fa ra cI cJ cF hb ps (nI S.1) co ec asz sx S.2.2.1 S.2.1 xs ys zs ax ay az al el eh mo S.2.2.2.1 S.2.2.2.2.1 S.2.2.2.2.2.1 S.2.2.2.2.2.2.1 S.2.2.2.2.2.2.2 sz rn)) := by
  refine ctZ_of (cc := cX1_lieInOneFace) (maxL := 3) (by decide) rfl (Nat.le_of_ble_eq_true rfl) (fun r w h => h.1 ▸ b2i_01 _) ?_
  intro X hXl hXd C hret
  have lk0 : Cond.fieldLink RX1 65 "HullBuilder$Hull" "faceCount" "I" ∈ wsX1_lieInOneFace := by decide +kernel
  have hinX1 : ∀ w ∈ wsX10, w ∈ wsX1_lieInOneFace := by decide +kernel
  have lk2 : Cond.fieldLink RX1 20 "HullBuilder$Hull" "faces" "[LHullBuilder$Face;" ∈ wsX1_lieInOneFace := by decide +kernel
  have lk3 : Cond.fieldLinkNest RX1 98 "HullBuilder$Face" "held" "I" "HullBuilder" ∈ kNW := by decide +kernel
  have hinX0 : ∀ w ∈ wsX00, w ∈ wsX1_lieInOneFace := by decide +kernel
  have hS1 := hS.1
  show Kw X 0 0 (wB ba fa ra cI cJ cF hb ps (nI S.1) co ec asz sx S.2.2.1 S.2.1 xs ys zs ax ay az al el eh mo S.2.2.2.1 S.2.2.2.2.1 S.2.2.2.2.2.1 S.2.2.2.2.2.2.1 S.2.2.2.2.2.2.2 sz rn) 0 [(0, .ref (ba 5)), (1, .int s9)] []
  refine k_iconst C (v := (nI 0)) dX1_lieInOneFace_0 (by decide) ?_
  refine k_istore_n C (lv' := [(2, .int (nI 0)), (0, .ref (ba 5)), (1, .int s9)]) dX1_lieInOneFace_1 rfl (by decide) rfl ?_
  suffices L2 : ∀ (n2 j2 : Nat), j2 ≤ S.1 → S.1 + 1 ≤ j2 + n2 → anyB j2 (fun f => decide (S.2.2.2.2.2.2.2 (S.2.1 f) &&& s9 = s9)) = false → Kw X 0 0 (wB ba fa ra cI cJ cF hb ps (nI S.1) co ec asz sx S.2.2.1 S.2.1 xs ys zs ax ay az al el eh mo S.2.2.2.1 S.2.2.2.2.1 S.2.2.2.2.2.1 S.2.2.2.2.2.2.1 S.2.2.2.2.2.2.2 sz rn) 2 [(0, .ref (ba 5)), (1, .int s9), (2, .int (nI j2))] [] by
    exact k_lv [1, 2, 0] rfl (L2 (S.1 + 1) 0 (by omega) (by omega) rfl)
  intro n2
  induction n2 with
  | zero => intro j2 a1 a2; exact absurd a2 (by omega)
  | succ n2 ih2 =>
    intro j2 b2 c2 g2_0
    refine k_iload_n C 2 dX1_lieInOneFace_2 rfl rfl ?_
    refine k_aload_n C 0 dX1_lieInOneFace_3 rfl rfl ?_
    refine k_get C hinX1 5 3 rfl rfl (by decide) lk0 rfl rfl dX1_lieInOneFace_4 ?_
    refine k_icmp_geN C (by omega) (by omega) 33 dX1_lieInOneFace_7 (by decide) (fun h_1 => ?_) (fun h_1 => ?_)
    · refine k_iconst C (v := (nI 0)) dX1_lieInOneFace_33 (by decide) ?_
      exact hret _ _ _ _ ⟨by rw [lieB, ← show j2 = S.1 by omega, g2_0]; rfl, rfl⟩ dX1_lieInOneFace_34
    · refine k_aload_n C 0 dX1_lieInOneFace_10 rfl rfl ?_
      refine k_get C hinX1 5 1 rfl rfl (by decide) lk2 rfl rfl dX1_lieInOneFace_11 ?_
      refine k_iload_n C 2 dX1_lieInOneFace_14 rfl rfl ?_
      refine k_aald C (j := j2) 10 2 rfl rfl (by omega) (by decide) rfl dX1_lieInOneFace_15 ?_
      refine k_getN C hinX0 (15 + (S.2.1 j2)) 4 (wB_f (hS.2.1 _)) rfl (by decide) lk3 rfl rfl dX1_lieInOneFace_16 ?_
      refine k_iload_n C 1 dX1_lieInOneFace_19 rfl rfl ?_
      refine k_iand C dX1_lieInOneFace_20 ?_
      refine k_iload_n C 1 dX1_lieInOneFace_21 rfl rfl ?_
      refine k_icmp_ne C 27 dX1_lieInOneFace_22 (by decide) (fun h_2 => ?_) (fun h_2 => ?_)
      · refine k_iinc C (v := (nI (j2 + 1))) (lv' := [(2, .int (nI (j2 + 1))), (0, .ref (ba 5)), (1, .int s9)]) 2 dX1_lieInOneFace_27 rfl (nI_1 _) (by decide) rfl ?_
        refine k_goto C 2 dX1_lieInOneFace_30 (by decide) ?_
        exact k_lv [1, 2, 0] rfl (ih2 (j2 + 1) (by omega) (by omega) (by rw [anyB, g2_0]; simp [h_2]))
      · refine k_iconst C (v := (nI 1)) dX1_lieInOneFace_25 (by decide) ?_
        exact hret _ _ _ _ ⟨by rw [lieB, anyB_mono (j := j2 + 1) (by rw [anyB, g2_0]; simp [h_2]) (by omega)]; rfl, rfl⟩ dX1_lieInOneFace_26
set_option maxHeartbeats 4000000 in
set_option maxRecDepth 100000 in
theorem h1_tryPlane (l : Launch) (D : va_G) (cI cJ cF cD : ClassId) {ba fa ra : Nat → Nat} {hb : Int32} {ps : Int32} {co : Int32} {ec : Int32} {sx : Int64} {xs : Nat → Int32} {ys : Nat → Int32} {zs : Nat → Int32} {ax : Nat → Int32} {ay : Nat → Int32} {az : Nat → Int32} {al : Nat → Int32} {el : Nat → Nat} {eh : Nat → Nat} {mo : Nat → Int64} {sz : Nat → Nat} {rn : Nat → Nat → Nat} {S : CT} {nh a b c : Nat} (hh : nh ≤ 24) (hS : invC S) (ha : a < 24) (hb9 : b < 24) (hc : c < 24) : CtV l D (tyG cI cJ cF cD) yX1_tryPlane wsX1_tryPlane ({ frames := 2, cells := 0, slots := 0, locals := 52 }) [.ref (ba 5), .int (nI a), .int (nI b), .int (nI c)] (wB ba fa ra cI cJ cF hb ps (nI S.1) co ec (nI nh) sx S.2.2.1 S.2.1 xs ys zs ax ay az al el eh mo S.2.2.2.1 S.2.2.2.2.1 S.2.2.2.2.2.1 S.2.2.2.2.2.2.1 S.2.2.2.2.2.2.2 sz rn) (fun w => ∃ S' : CT, tryR nh ax ay az S a b c S' ∧ w = (wB ba fa ra cI cJ cF hb ps (nI S'.1) co ec (nI nh) sx S'.2.2.1 S'.2.1 xs ys zs ax ay az al el eh mo S'.2.2.2.1 S'.2.2.2.2.1 S'.2.2.2.2.2.1 S'.2.2.2.2.2.2.1 S'.2.2.2.2.2.2.2 sz rn)) := by
  refine ctV_of (cc := cX1_tryPlane) (maxL := 5) (by decide) rfl (Nat.le_of_ble_eq_true rfl) ?_
  intro X hXl hXd C hret
  have lk0 : Cond.fieldLink RX1 65 "HullBuilder$Hull" "faceCount" "I" ∈ wsX1_tryPlane := by decide +kernel
  have hinX1 : ∀ w ∈ wsX10, w ∈ wsX1_tryPlane := by decide +kernel
  have lk2 : Cond.fieldLink RX1 25 "HullBuilder$Hull" "trial" "LHullBuilder$Face;" ∈ wsX1_tryPlane := by decide +kernel
  have lk3 : Cond.fieldLink RX1 12 "HullBuilder$Hull" "at" "LHullBuilder$Points;" ∈ wsX1_tryPlane := by decide +kernel
  have lk4 : Cond.methodLinkNest RX1 47 yX0_layThrough "HullBuilder" ∈ kNW := by decide +kernel
  have lk5 : Cond.initialized RX0 ∈ wsX1_tryPlane := by decide +kernel
  have lk6 : Cond.instanceMethod yX0_layThrough ∈ wsX1_tryPlane := by decide +kernel
  have lk7 : Cond.selects RX0 yX0_layThrough yX0_layThrough ∈ wsX1_tryPlane := by decide +kernel
  have lk8 : Cond.methodLinkNest RX1 92 yX0_turnOutside "HullBuilder" ∈ kNW := by decide +kernel
  have lk9 : Cond.instanceMethod yX0_turnOutside ∈ wsX1_tryPlane := by decide +kernel
  have lk10 : Cond.selects RX0 yX0_turnOutside yX0_turnOutside ∈ wsX1_tryPlane := by decide +kernel
  have lk11 : Cond.methodLinkNest RX1 95 yX0_shortenNormal "HullBuilder" ∈ kNW := by decide +kernel
  have lk12 : Cond.instanceMethod yX0_shortenNormal ∈ wsX1_tryPlane := by decide +kernel
  have lk13 : Cond.selects RX0 yX0_shortenNormal yX0_shortenNormal ∈ wsX1_tryPlane := by decide +kernel
  have lk14 : Cond.fieldLink RX1 20 "HullBuilder$Hull" "faces" "[LHullBuilder$Face;" ∈ wsX1_tryPlane := by decide +kernel
  have hS1 := hS.1
  show Kw X 0 0 (wB ba fa ra cI cJ cF hb ps (nI S.1) co ec (nI nh) sx S.2.2.1 S.2.1 xs ys zs ax ay az al el eh mo S.2.2.2.1 S.2.2.2.2.1 S.2.2.2.2.2.1 S.2.2.2.2.2.2.1 S.2.2.2.2.2.2.2 sz rn) 0 [(0, .ref (ba 5)), (1, .int (nI a)), (2, .int (nI b)), (3, .int (nI c))] []
  refine k_aload_n C 0 dX1_tryPlane_0 rfl rfl ?_
  refine k_get C hinX1 5 3 rfl rfl (by decide) lk0 rfl rfl dX1_tryPlane_1 ?_
  refine k_bipush C (v := (nI 44)) dX1_tryPlane_4 (by decide) ?_
  refine k_icmp_geN C (by omega) (by omega) 27 dX1_tryPlane_6 (by decide) (fun h_1 => ?_) (fun h_1 => ?_)
  · exact hret _ _ _ (⟨_, Or.inl ⟨by rw [addC, decide_eq_false (Nat.not_lt.mpr h_1)]; rfl, _, _, _, _, _, rfl⟩, by simp only [scrC]; rw [updL_self, updL_self, updL_self, updL_self, upd_self]⟩) dX1_tryPlane_27
  · refine k_aload_n C 0 dX1_tryPlane_9 rfl rfl ?_
    refine k_iconst C (v := (nI 1)) dX1_tryPlane_10 (by decide) ?_
    refine k_iload_n C 1 dX1_tryPlane_11 rfl rfl ?_
    refine k_ishl C dX1_tryPlane_12 ?_
    refine k_iconst C (v := (nI 1)) dX1_tryPlane_13 (by decide) ?_
    refine k_iload_n C 2 dX1_tryPlane_14 rfl rfl ?_
    refine k_ishl C dX1_tryPlane_15 ?_
    refine k_ior C dX1_tryPlane_16 ?_
    refine k_iconst C (v := (nI 1)) dX1_tryPlane_17 (by decide) ?_
    refine k_iload_n C 3 dX1_tryPlane_18 rfl rfl ?_
    refine k_ishl C dX1_tryPlane_19 ?_
    refine k_ior C dX1_tryPlane_20 ?_
    refine k_topi (set3 a b c) rfl ?_
    refine k_callVI C (ar := 1) (As := [.int (set3 a b c)]) (rest := []) (h1_lieInOneFace (kxL X) (kxD X) cI cJ cF cD (set3 a b c) hS) gX1_tryPlane_X1_lieInOneFace rfl rfl rfl (by decide +kernel) ⟨Nat.le_of_ble_eq_true rfl, Nat.le_of_ble_eq_true rfl⟩ 5 rfl rfl rfl rfl (Nat.le_of_ble_eq_true rfl) dX1_tryPlane_21 (Nat.zero_le _) (Nat.zero_le _) (fun r w hw => ?_)
    obtain ⟨rfl, rfl⟩ := hw
    refine k_if_eqB C 28 dX1_tryPlane_24 (by decide) (fun h_2 => ?_) (fun h_2 => ?_)
    · refine k_aload_n C 0 dX1_tryPlane_28 rfl rfl ?_
      refine k_get C hinX1 5 2 rfl rfl (by decide) lk2 rfl rfl dX1_tryPlane_29 ?_
      refine k_aload_n C 0 dX1_tryPlane_32 rfl rfl ?_
      refine k_get C hinX1 5 0 rfl rfl (by decide) lk3 rfl rfl dX1_tryPlane_33 ?_
      refine k_iload_n C 1 dX1_tryPlane_36 rfl rfl ?_
      refine k_iload_n C 2 dX1_tryPlane_37 rfl rfl ?_
      refine k_iload_n C 3 dX1_tryPlane_38 rfl rfl ?_
      refine k_callVNI C (ar := 4) (As := [.ref (ba 6), .int (nI a), .int (nI b), .int (nI c)]) (rest := []) (h0_layThrough_a (kxL X) (kxD X) cI cJ cF cD hS.2.2 (by omega) (by omega) (by omega)) ggX1_tryPlane_X0_layThrough rfl rfl rfl lk4 lk5 lk6 lk7 (by decide +kernel) ⟨Nat.le_of_ble_eq_true rfl, Nat.le_of_ble_eq_true rfl⟩ (15 + S.2.2.1) (wB_f hS.2.2) rfl rfl rfl (Nat.le_of_ble_eq_true rfl) dX1_tryPlane_39 (Nat.zero_le _) (Nat.zero_le _) (fun r w hw => ?_)
      obtain ⟨rfl, rfl⟩ := hw
      refine k_if_eqB C 106 dX1_tryPlane_42 (by decide) (fun h_3 => ?_) (fun h_3 => ?_)
      · exact hret _ _ _ (⟨_, Or.inl ⟨by simp [addC, h_1, h_2, h_3], _, _, _, _, _, rfl⟩, by simp only [scrC]; rw [upd_self]⟩) dX1_tryPlane_106
      · refine k_aload_n C 0 dX1_tryPlane_45 rfl rfl ?_
        refine k_get C hinX1 5 2 rfl rfl (by decide) lk2 rfl rfl dX1_tryPlane_46 ?_
        refine k_aload_n C 0 dX1_tryPlane_49 rfl rfl ?_
        refine k_get C hinX1 5 0 rfl rfl (by decide) lk3 rfl rfl dX1_tryPlane_50 ?_
        refine k_callVNI C (ar := 1) (As := [.ref (ba 6)]) (rest := []) (h0_turnOutside (kxL X) (kxD X) cI cJ cF cD hS.2.2 (by omega)) ggX1_tryPlane_X0_turnOutside rfl rfl rfl lk8 lk5 lk9 lk10 (by decide +kernel) ⟨Nat.le_of_ble_eq_true rfl, Nat.le_of_ble_eq_true rfl⟩ (15 + S.2.2.1) (wB_f hS.2.2) rfl rfl rfl (Nat.le_of_ble_eq_true rfl) dX1_tryPlane_53 (Nat.zero_le _) (Nat.zero_le _) (fun r w hw => ?_)
        rw [tH_upd _ _ _ _ _ ax ay az ax ay az] at hw
        rcases hw with ⟨hud, rfl, h9, rfl⟩ | ⟨hud, rfl, rfl⟩
        · refine k_if_eqB C 106 dX1_tryPlane_56 (by decide) (fun h_4 => ?_) (fun h_4 => absurd h_4 (by decide))
          exact hret _ _ _ (⟨_, Or.inl ⟨by simp [addC, h_1, h_2, h_3, hud], _, _, _, _, _, rfl⟩, rfl⟩) dX1_tryPlane_106
        · refine k_ws (ws' := (wB ba fa ra cI cJ cF hb ps (nI S.1) co ec (nI nh) sx S.2.2.1 S.2.1 xs ys zs ax ay az al el eh mo (vp_updL S.2.2.2.1 S.2.2.1 (sgL (upB (ptH ax ay az a b c) nh) (acI ay az a b c))) (vp_updL S.2.2.2.2.1 S.2.2.1 (sgL (upB (ptH ax ay az a b c) nh) (acI az ax a b c))) (vp_updL S.2.2.2.2.2.1 S.2.2.1 (sgL (upB (ptH ax ay az a b c) nh) (acI ax ay a b c))) (vp_updL S.2.2.2.2.2.2.1 S.2.2.1 (sgL (upB (ptH ax ay az a b c) nh) (lyD ax ay az a b c))) (upd S.2.2.2.2.2.2.2 S.2.2.1 (btI (ptH ax ay az a b c) nh)) sz rn)) (by rw [ngI_upd, ngI_upd, ngI_upd, ngI_upd]) ?_
          refine k_if_eqB C 106 dX1_tryPlane_56 (by decide) (fun h_5 => absurd h_5 (by decide)) (fun h_5 => ?_)
          refine k_aload_n C 0 dX1_tryPlane_59 rfl rfl ?_
          refine k_get C hinX1 5 2 rfl rfl (by decide) lk2 rfl rfl dX1_tryPlane_60 ?_
          refine k_callVNV C (ar := 0) (As := []) (rest := []) (h0_shortenNormal (kxL X) (kxD X) cI cJ cF cD hS.2.2) ggX1_tryPlane_X0_shortenNormal rfl rfl rfl lk11 lk5 lk12 lk13 (by decide +kernel) ⟨Nat.le_of_ble_eq_true rfl, Nat.le_of_ble_eq_true rfl⟩ (15 + S.2.2.1) (wB_f hS.2.2) rfl rfl rfl (Nat.le_of_ble_eq_true rfl) dX1_tryPlane_63 (Nat.zero_le _) (Nat.zero_le _) (fun w hw => ?_)
          subst hw
          refine k_ws (ws' := (wB ba fa ra cI cJ cF hb ps (nI S.1) co ec (nI nh) sx S.2.2.1 S.2.1 xs ys zs ax ay az al el eh mo (vp_updL S.2.2.2.1 S.2.2.1 (plV (upB (ptH ax ay az a b c) nh) (plG (upB (ptH ax ay az a b c) nh) (acI ay az a b c) (acI az ax a b c) (acI ax ay a b c)) (acI ay az a b c))) (vp_updL S.2.2.2.2.1 S.2.2.1 (plV (upB (ptH ax ay az a b c) nh) (plG (upB (ptH ax ay az a b c) nh) (acI ay az a b c) (acI az ax a b c) (acI ax ay a b c)) (acI az ax a b c))) (vp_updL S.2.2.2.2.2.1 S.2.2.1 (plV (upB (ptH ax ay az a b c) nh) (plG (upB (ptH ax ay az a b c) nh) (acI ay az a b c) (acI az ax a b c) (acI ax ay a b c)) (acI ax ay a b c))) (vp_updL S.2.2.2.2.2.2.1 S.2.2.1 (plV (upB (ptH ax ay az a b c) nh) (plG (upB (ptH ax ay az a b c) nh) (acI ay az a b c) (acI az ax a b c) (acI ax ay a b c)) (lyD ax ay az a b c))) (upd S.2.2.2.2.2.2.2 S.2.2.1 (btI (ptH ax ay az a b c) nh)) sz rn)) (by rw [updL_i, updL_i, updL_i, shI_upd, shI_upd, shI_upd, shI_upd]; rfl) ?_
          refine k_aload_n C 0 dX1_tryPlane_66 rfl rfl ?_
          refine k_get C hinX1 5 1 rfl rfl (by decide) lk14 rfl rfl dX1_tryPlane_67 ?_
          refine k_aload_n C 0 dX1_tryPlane_70 rfl rfl ?_
          refine k_get C hinX1 5 3 rfl rfl (by decide) lk0 rfl rfl dX1_tryPlane_71 ?_
          refine k_aald C (j := S.1) 10 2 rfl rfl (by omega) (by decide) rfl dX1_tryPlane_74 ?_
          refine k_astore C (lv' := [(4, .ref (fa (S.2.1 S.1))), (0, .ref (ba 5)), (1, .int (nI a)), (2, .int (nI b)), (3, .int (nI c))]) dX1_tryPlane_75 (by decide) rfl ?_
          refine k_aload_n C 1 dX1_tryPlane_77 rfl rfl ?_
          refine k_get C hinX1 5 1 rfl rfl (by decide) lk14 rfl rfl dX1_tryPlane_78 ?_
          refine k_aload_n C 1 dX1_tryPlane_81 rfl rfl ?_
          refine k_get C hinX1 5 3 rfl rfl (by decide) lk0 rfl rfl dX1_tryPlane_82 ?_
          refine k_aload_n C 1 dX1_tryPlane_85 rfl rfl ?_
          refine k_get C hinX1 5 2 rfl rfl (by decide) lk2 rfl rfl dX1_tryPlane_86 ?_
          refine k_aast C (ws' := (wB ba fa ra cI cJ cF hb ps (nI S.1) co ec (nI nh) sx S.2.2.1 (updN S.2.1 S.1 S.2.2.1) xs ys zs ax ay az al el eh mo (vp_updL S.2.2.2.1 S.2.2.1 (plV (upB (ptH ax ay az a b c) nh) (plG (upB (ptH ax ay az a b c) nh) (acI ay az a b c) (acI az ax a b c) (acI ax ay a b c)) (acI ay az a b c))) (vp_updL S.2.2.2.2.1 S.2.2.1 (plV (upB (ptH ax ay az a b c) nh) (plG (upB (ptH ax ay az a b c) nh) (acI ay az a b c) (acI az ax a b c) (acI ax ay a b c)) (acI az ax a b c))) (vp_updL S.2.2.2.2.2.1 S.2.2.1 (plV (upB (ptH ax ay az a b c) nh) (plG (upB (ptH ax ay az a b c) nh) (acI ay az a b c) (acI az ax a b c) (acI ax ay a b c)) (acI ax ay a b c))) (vp_updL S.2.2.2.2.2.2.1 S.2.2.1 (plV (upB (ptH ax ay az a b c) nh) (plG (upB (ptH ax ay az a b c) nh) (acI ay az a b c) (acI az ax a b c) (acI ax ay a b c)) (lyD ax ay az a b c))) (upd S.2.2.2.2.2.2.2 S.2.2.1 (btI (ptH ax ay az a b c) nh)) sz rn)) (j := S.1) (r := (RX0, TX0, 7)) 10 2 (15 + S.2.2.1) rfl rfl (wB_f hS.2.2) rfl (by omega) (by decide) (wB_spm _ _) dX1_tryPlane_89 ?_
          refine k_aload_n C 1 dX1_tryPlane_90 rfl rfl ?_
          refine k_aload C 0 dX1_tryPlane_91 rfl ?_
          refine k_put C (ws' := (wB ba fa ra cI cJ cF hb ps (nI S.1) co ec (nI nh) sx (S.2.1 S.1) (updN S.2.1 S.1 S.2.2.1) xs ys zs ax ay az al el eh mo (vp_updL S.2.2.2.1 S.2.2.1 (plV (upB (ptH ax ay az a b c) nh) (plG (upB (ptH ax ay az a b c) nh) (acI ay az a b c) (acI az ax a b c) (acI ax ay a b c)) (acI ay az a b c))) (vp_updL S.2.2.2.2.1 S.2.2.1 (plV (upB (ptH ax ay az a b c) nh) (plG (upB (ptH ax ay az a b c) nh) (acI ay az a b c) (acI az ax a b c) (acI ax ay a b c)) (acI az ax a b c))) (vp_updL S.2.2.2.2.2.1 S.2.2.1 (plV (upB (ptH ax ay az a b c) nh) (plG (upB (ptH ax ay az a b c) nh) (acI ay az a b c) (acI az ax a b c) (acI ax ay a b c)) (acI ax ay a b c))) (vp_updL S.2.2.2.2.2.2.1 S.2.2.1 (plV (upB (ptH ax ay az a b c) nh) (plG (upB (ptH ax ay az a b c) nh) (acI ay az a b c) (acI az ax a b c) (acI ax ay a b c)) (lyD ax ay az a b c))) (upd S.2.2.2.2.2.2.2 S.2.2.1 (btI (ptH ax ay az a b c) nh)) sz rn)) hinX1 tyX1 tyX1_ok nmX1 5 2 rfl rfl (by decide) lk2 rfl rfl rfl rfl (Nat.le_of_ble_eq_true rfl) rfl dX1_tryPlane_93 ?_
          refine k_aload_n C 1 dX1_tryPlane_96 rfl rfl ?_
          refine k_dup C dX1_tryPlane_97 rfl ?_
          refine k_get C hinX1 5 3 rfl rfl (by decide) lk0 rfl rfl dX1_tryPlane_98 ?_
          refine k_iconst C (v := (nI 1)) dX1_tryPlane_101 (by decide) ?_
          refine k_iaddN C dX1_tryPlane_102 ?_
          refine k_put C (ws' := (wB ba fa ra cI cJ cF hb ps (nI (S.1 + 1)) co ec (nI nh) sx (S.2.1 S.1) (updN S.2.1 S.1 S.2.2.1) xs ys zs ax ay az al el eh mo (vp_updL S.2.2.2.1 S.2.2.1 (plV (upB (ptH ax ay az a b c) nh) (plG (upB (ptH ax ay az a b c) nh) (acI ay az a b c) (acI az ax a b c) (acI ax ay a b c)) (acI ay az a b c))) (vp_updL S.2.2.2.2.1 S.2.2.1 (plV (upB (ptH ax ay az a b c) nh) (plG (upB (ptH ax ay az a b c) nh) (acI ay az a b c) (acI az ax a b c) (acI ax ay a b c)) (acI az ax a b c))) (vp_updL S.2.2.2.2.2.1 S.2.2.1 (plV (upB (ptH ax ay az a b c) nh) (plG (upB (ptH ax ay az a b c) nh) (acI ay az a b c) (acI az ax a b c) (acI ax ay a b c)) (acI ax ay a b c))) (vp_updL S.2.2.2.2.2.2.1 S.2.2.1 (plV (upB (ptH ax ay az a b c) nh) (plG (upB (ptH ax ay az a b c) nh) (acI ay az a b c) (acI az ax a b c) (acI ax ay a b c)) (lyD ax ay az a b c))) (upd S.2.2.2.2.2.2.2 S.2.2.1 (btI (ptH ax ay az a b c) nh)) sz rn)) hinX1 tyX1 tyX1_ok nmX1 5 3 rfl rfl (by decide) lk0 rfl rfl rfl rfl (Nat.le_of_ble_eq_true rfl) rfl dX1_tryPlane_103 ?_
          exact hret _ _ _ (⟨_, Or.inr ⟨by simp [addC, h_1, h_2, h_3, hud], rfl⟩, rfl⟩) dX1_tryPlane_106
    · exact hret _ _ _ (⟨_, Or.inl ⟨by simp [addC, h_1, h_2], _, _, _, _, _, rfl⟩, by simp only [scrC]; rw [updL_self, updL_self, updL_self, updL_self, upd_self]⟩) dX1_tryPlane_27
set_option maxHeartbeats 4000000 in
set_option maxRecDepth 100000 in
theorem h1_findFaces (l : Launch) (D : va_G) (cI cJ cF cD : ClassId) {ba fa ra : Nat → Nat} {hb : Int32} {ps : Int32} {co : Int32} {ec : Int32} {sx : Int64} {xs : Nat → Int32} {ys : Nat → Int32} {zs : Nat → Int32} {ax : Nat → Int32} {ay : Nat → Int32} {az : Nat → Int32} {al : Nat → Int32} {el : Nat → Nat} {eh : Nat → Nat} {mo : Nat → Int64} {sz : Nat → Nat} {rn : Nat → Nat → Nat} {S : CT} {nh : Nat} (hh : nh ≤ 24) (hS : invC S) : CtV l D (tyG cI cJ cF cD) yX1_findFaces wsX1_findFaces ({ frames := 3, cells := 0, slots := 0, locals := 76 }) [.ref (ba 5)] (wB ba fa ra cI cJ cF hb ps (nI S.1) co ec (nI nh) sx S.2.2.1 S.2.1 xs ys zs ax ay az al el eh mo S.2.2.2.1 S.2.2.2.2.1 S.2.2.2.2.2.1 S.2.2.2.2.2.2.1 S.2.2.2.2.2.2.2 sz rn) (fun w => ∃ S' : CT, rA nh ax ay az (0, S.2) nh S' ∧ invC S' ∧ w = (wB ba fa ra cI cJ cF hb ps (nI S'.1) co ec (nI nh) sx S'.2.2.1 S'.2.1 xs ys zs ax ay az al el eh mo S'.2.2.2.1 S'.2.2.2.2.1 S'.2.2.2.2.2.1 S'.2.2.2.2.2.2.1 S'.2.2.2.2.2.2.2 sz rn)) := by
  refine ctV_of (cc := cX1_findFaces) (maxL := 4) (by decide) rfl (Nat.le_of_ble_eq_true rfl) ?_
  intro X hXl hXd C hret
  have lk0 : Cond.fieldLink RX1 65 "HullBuilder$Hull" "faceCount" "I" ∈ wsX1_findFaces := by decide +kernel
  have hinX1 : ∀ w ∈ wsX10, w ∈ wsX1_findFaces := by decide +kernel
  have lk2 : Cond.fieldLink RX1 12 "HullBuilder$Hull" "at" "LHullBuilder$Points;" ∈ wsX1_findFaces := by decide +kernel
  have lk3 : Cond.fieldLinkNest RX1 43 "HullBuilder$Points" "size" "I" "HullBuilder" ∈ kNW := by decide +kernel
  have hinX2 : ∀ w ∈ wsX20, w ∈ wsX1_findFaces := by decide +kernel
  show Kw X 0 0 (wB ba fa ra cI cJ cF hb ps (nI S.1) co ec (nI nh) sx S.2.2.1 S.2.1 xs ys zs ax ay az al el eh mo S.2.2.2.1 S.2.2.2.2.1 S.2.2.2.2.2.1 S.2.2.2.2.2.2.1 S.2.2.2.2.2.2.2 sz rn) 0 [(0, .ref (ba 5))] []
  refine k_aload_n C 0 dX1_findFaces_0 rfl rfl ?_
  refine k_iconst C (v := (nI 0)) dX1_findFaces_1 (by decide) ?_
  refine k_put C (ws' := (wB ba fa ra cI cJ cF hb ps (nI 0) co ec (nI nh) sx S.2.2.1 S.2.1 xs ys zs ax ay az al el eh mo S.2.2.2.1 S.2.2.2.2.1 S.2.2.2.2.2.1 S.2.2.2.2.2.2.1 S.2.2.2.2.2.2.2 sz rn)) hinX1 tyX1 tyX1_ok nmX1 5 3 rfl rfl (by decide) lk0 rfl rfl rfl rfl (Nat.le_of_ble_eq_true rfl) rfl dX1_findFaces_2 ?_
  refine k_iconst C (v := (nI 0)) dX1_findFaces_5 (by decide) ?_
  refine k_istore_n C (lv' := [(1, .int (nI 0)), (0, .ref (ba 5))]) dX1_findFaces_6 rfl (by decide) rfl ?_
  suffices L7 : ∀ (n7 j7 : Nat) (T : CT), j7 ≤ nh → nh + 1 ≤ j7 + n7 → rA nh ax ay az (0, S.2) j7 T → invC T → Kw X 0 0 (wB ba fa ra cI cJ cF hb ps (nI T.1) co ec (nI nh) sx T.2.2.1 T.2.1 xs ys zs ax ay az al el eh mo T.2.2.2.1 T.2.2.2.2.1 T.2.2.2.2.2.1 T.2.2.2.2.2.2.1 T.2.2.2.2.2.2.2 sz rn) 7 [(0, .ref (ba 5)), (1, .int (nI j7))] [] by
    have w6_0 : (nI 0) = (nI ((0, S.2).1)) := rfl
    have w7_1 : S.2.2.1 = ((0, S.2).2.2.1) := rfl
    have w8_2 : S.2.1 = ((0, S.2).2.1) := rfl
    have w9_3 : S.2.2.2.1 = ((0, S.2).2.2.2.1) := rfl
    have w10_4 : S.2.2.2.2.1 = ((0, S.2).2.2.2.2.1) := rfl
    have w11_5 : S.2.2.2.2.2.1 = ((0, S.2).2.2.2.2.2.1) := rfl
    have w12_6 : S.2.2.2.2.2.2.1 = ((0, S.2).2.2.2.2.2.2.1) := rfl
    have w13_7 : S.2.2.2.2.2.2.2 = ((0, S.2).2.2.2.2.2.2.2) := rfl
    refine k_ws (ws' := (wB ba fa ra cI cJ cF hb ps (nI ((0, S.2).1)) co ec (nI nh) sx ((0, S.2).2.2.1) ((0, S.2).2.1) xs ys zs ax ay az al el eh mo ((0, S.2).2.2.2.1) ((0, S.2).2.2.2.2.1) ((0, S.2).2.2.2.2.2.1) ((0, S.2).2.2.2.2.2.2.1) ((0, S.2).2.2.2.2.2.2.2) sz rn)) (by rw [← w6_0, ← w7_1, ← w8_2, ← w9_3, ← w10_4, ← w11_5, ← w12_6, ← w13_7]) ?_
    exact k_lv [1, 0] rfl (L7 (nh + 1) 0 (0, S.2) (by omega) (by omega) rfl ⟨Nat.zero_le _, hS.2⟩)
  intro n7
  induction n7 with
  | zero => intro j7 T a1 a2; exact absurd a2 (by omega)
  | succ n7 ih7 =>
    intro j7 T b7 c7 g7_0 g7_1
    refine k_iload_n C 1 dX1_findFaces_7 rfl rfl ?_
    refine k_aload_n C 0 dX1_findFaces_8 rfl rfl ?_
    refine k_get C hinX1 5 0 rfl rfl (by decide) lk2 rfl rfl dX1_findFaces_9 ?_
    refine k_getN C hinX2 6 3 rfl rfl (by decide) lk3 rfl rfl dX1_findFaces_12 ?_
    refine k_icmp_geN C (by omega) (by omega) 73 dX1_findFaces_15 (by decide) (fun h_1 => ?_) (fun h_1 => ?_)
    · exact hret _ _ _ (⟨_, (show j7 = nh by omega) ▸ g7_0, g7_1, rfl⟩) dX1_findFaces_73
    · refine k_iload_n C 1 dX1_findFaces_18 rfl rfl ?_
      refine k_iconst C (v := (nI 1)) dX1_findFaces_19 (by decide) ?_
      refine k_iaddN C dX1_findFaces_20 ?_
      refine k_istore_n C (lv' := [(2, .int (nI (j7 + 1))), (0, .ref (ba 5)), (1, .int (nI j7))]) dX1_findFaces_21 rfl (by decide) rfl ?_
      suffices L22 : ∀ (n22 j22 : Nat) (U : CT), j22 ≤ nh → nh + 1 ≤ j22 + n22 → j7 + 1 ≤ j22 → rB nh ax ay az j7 T (j22 - (j7 + 1)) U → invC U → Kw X 0 0 (wB ba fa ra cI cJ cF hb ps (nI U.1) co ec (nI nh) sx U.2.2.1 U.2.1 xs ys zs ax ay az al el eh mo U.2.2.2.1 U.2.2.2.2.1 U.2.2.2.2.2.1 U.2.2.2.2.2.2.1 U.2.2.2.2.2.2.2 sz rn) 22 [(0, .ref (ba 5)), (1, .int (nI j7)), (2, .int (nI j22))] [] by
        exact k_lv [1, 2, 0] rfl (L22 (nh + 1) (j7 + 1) T (by omega) (by omega) (Nat.le_refl _) (by rw [Nat.sub_self]; rfl) g7_1)
      intro n22
      induction n22 with
      | zero => intro j22 U a1 a2; exact absurd a2 (by omega)
      | succ n22 ih22 =>
        intro j22 U b22 c22 g22_0 g22_1 g22_2
        refine k_iload_n C 2 dX1_findFaces_22 rfl rfl ?_
        refine k_aload_n C 0 dX1_findFaces_23 rfl rfl ?_
        refine k_get C hinX1 5 0 rfl rfl (by decide) lk2 rfl rfl dX1_findFaces_24 ?_
        refine k_getN C hinX2 6 3 rfl rfl (by decide) lk3 rfl rfl dX1_findFaces_27 ?_
        refine k_icmp_geN C (by omega) (by omega) 67 dX1_findFaces_30 (by decide) (fun h_2 => ?_) (fun h_2 => ?_)
        · refine k_iinc C (v := (nI (j7 + 1))) (lv' := [(1, .int (nI (j7 + 1))), (0, .ref (ba 5)), (2, .int (nI j22))]) 1 dX1_findFaces_67 rfl (nI_1 _) (by decide) rfl ?_
          refine k_goto C 7 dX1_findFaces_70 (by decide) ?_
          exact k_lv [1, 0] rfl (ih7 (j7 + 1) U (by omega) (by omega) ⟨T, g7_0, by rw [show nh - (j7 + 1) = j22 - (j7 + 1) by omega]; exact g22_1⟩ g22_2)
        · refine k_iload_n C 2 dX1_findFaces_33 rfl rfl ?_
          refine k_iconst C (v := (nI 1)) dX1_findFaces_34 (by decide) ?_
          refine k_iaddN C dX1_findFaces_35 ?_
          refine k_istore_n C (lv' := [(3, .int (nI (j22 + 1))), (0, .ref (ba 5)), (1, .int (nI j7)), (2, .int (nI j22))]) dX1_findFaces_36 rfl (by decide) rfl ?_
          suffices L37 : ∀ (n37 j37 : Nat) (V : CT), j37 ≤ nh → nh + 1 ≤ j37 + n37 → j22 + 1 ≤ j37 → rC nh ax ay az j7 j22 U (j37 - (j22 + 1)) V → invC V → Kw X 0 0 (wB ba fa ra cI cJ cF hb ps (nI V.1) co ec (nI nh) sx V.2.2.1 V.2.1 xs ys zs ax ay az al el eh mo V.2.2.2.1 V.2.2.2.2.1 V.2.2.2.2.2.1 V.2.2.2.2.2.2.1 V.2.2.2.2.2.2.2 sz rn) 37 [(0, .ref (ba 5)), (1, .int (nI j7)), (2, .int (nI j22)), (3, .int (nI j37))] [] by
            exact k_lv [1, 2, 3, 0] rfl (L37 (nh + 1) (j22 + 1) U (by omega) (by omega) (Nat.le_refl _) (by rw [Nat.sub_self]; rfl) g22_2)
          intro n37
          induction n37 with
          | zero => intro j37 V a1 a2; exact absurd a2 (by omega)
          | succ n37 ih37 =>
            intro j37 V b37 c37 g37_0 g37_1 g37_2
            refine k_iload_n C 3 dX1_findFaces_37 rfl rfl ?_
            refine k_aload_n C 0 dX1_findFaces_38 rfl rfl ?_
            refine k_get C hinX1 5 0 rfl rfl (by decide) lk2 rfl rfl dX1_findFaces_39 ?_
            refine k_getN C hinX2 6 3 rfl rfl (by decide) lk3 rfl rfl dX1_findFaces_42 ?_
            refine k_icmp_geN C (by omega) (by omega) 61 dX1_findFaces_45 (by decide) (fun h_3 => ?_) (fun h_3 => ?_)
            · refine k_iinc C (v := (nI (j22 + 1))) (lv' := [(2, .int (nI (j22 + 1))), (0, .ref (ba 5)), (1, .int (nI j7)), (3, .int (nI j37))]) 2 dX1_findFaces_61 rfl (nI_1 _) (by decide) rfl ?_
              refine k_goto C 22 dX1_findFaces_64 (by decide) ?_
              exact k_lv [1, 2, 0] rfl (ih22 (j22 + 1) V (by omega) (by omega) (by omega) (rB_s g22_0 g22_1 (by rw [show nh - (j22 + 1) = j37 - (j22 + 1) by omega]; exact g37_1)) g37_2)
            · refine k_aload_n C 0 dX1_findFaces_48 rfl rfl ?_
              refine k_iload_n C 1 dX1_findFaces_49 rfl rfl ?_
              refine k_iload_n C 2 dX1_findFaces_50 rfl rfl ?_
              refine k_iload_n C 3 dX1_findFaces_51 rfl rfl ?_
              refine k_callVV C (ar := 3) (As := [.int (nI j7), .int (nI j22), .int (nI j37)]) (rest := []) (h1_tryPlane (kxL X) (kxD X) cI cJ cF cD (by omega) g37_2 (by omega) (by omega) (by omega)) gX1_findFaces_X1_tryPlane rfl rfl rfl (by decide +kernel) ⟨Nat.le_of_ble_eq_true rfl, Nat.le_of_ble_eq_true rfl⟩ 5 rfl rfl rfl rfl (Nat.le_of_ble_eq_true rfl) dX1_findFaces_52 (Nat.zero_le _) (Nat.zero_le _) (fun w hw => ?_)
              obtain ⟨S9, hS9, rfl⟩ := hw
              refine k_iinc C (v := (nI (j37 + 1))) (lv' := [(3, .int (nI (j37 + 1))), (0, .ref (ba 5)), (1, .int (nI j7)), (2, .int (nI j22))]) 3 dX1_findFaces_55 rfl (nI_1 _) (by decide) rfl ?_
              refine k_goto C 37 dX1_findFaces_58 (by decide) ?_
              exact k_lv [1, 2, 3, 0] rfl (ih37 (j37 + 1) S9 (by omega) (by omega) (by omega) (rC_s g37_0 g37_1 hS9) (tryR_inv hS9 g37_2))
set_option maxHeartbeats 4000000 in
set_option maxRecDepth 100000 in
theorem h1_findCorners (l : Launch) (D : va_G) (cI cJ cF cD : ClassId) {ba fa ra : Nat → Nat} {hb : Int32} {ps : Int32} {co : Int32} {ec : Int32} {sx : Int64} {xs : Nat → Int32} {ys : Nat → Int32} {zs : Nat → Int32} {ax : Nat → Int32} {ay : Nat → Int32} {az : Nat → Int32} {al : Nat → Int32} {el : Nat → Nat} {eh : Nat → Nat} {mo : Nat → Int64} {sz : Nat → Nat} {rn : Nat → Nat → Nat} {S : CT} {nh : Nat} (hh : nh ≤ 24) (hS : invC S) : CtV l D (tyG cI cJ cF cD) yX1_findCorners wsX1_findCorners ({ frames := 1, cells := 0, slots := 0, locals := 21 }) [.ref (ba 5)] (wB ba fa ra cI cJ cF hb ps (nI S.1) co ec (nI nh) sx S.2.2.1 S.2.1 xs ys zs ax ay az al el eh mo S.2.2.2.1 S.2.2.2.2.1 S.2.2.2.2.2.1 S.2.2.2.2.2.2.1 S.2.2.2.2.2.2.2 sz rn) (fun w => w = (wB ba fa ra cI cJ cF hb ps (nI S.1) (coI S nh) ec (nI nh) sx S.2.2.1 S.2.1 xs ys zs ax ay az al el eh mo S.2.2.2.1 S.2.2.2.2.1 S.2.2.2.2.2.1 S.2.2.2.2.2.2.1 S.2.2.2.2.2.2.2 sz rn)) := by
  refine ctV_of (cc := cX1_findCorners) (maxL := 4) (by decide) rfl (Nat.le_of_ble_eq_true rfl) ?_
  intro X hXl hXd C hret
  have lk0 : Cond.fieldLink RX1 68 "HullBuilder$Hull" "corners" "I" ∈ wsX1_findCorners := by decide +kernel
  have hinX1 : ∀ w ∈ wsX10, w ∈ wsX1_findCorners := by decide +kernel
  have lk2 : Cond.fieldLink RX1 12 "HullBuilder$Hull" "at" "LHullBuilder$Points;" ∈ wsX1_findCorners := by decide +kernel
  have lk3 : Cond.fieldLinkNest RX1 43 "HullBuilder$Points" "size" "I" "HullBuilder" ∈ kNW := by decide +kernel
  have hinX2 : ∀ w ∈ wsX20, w ∈ wsX1_findCorners := by decide +kernel
  have lk5 : Cond.fieldLink RX1 65 "HullBuilder$Hull" "faceCount" "I" ∈ wsX1_findCorners := by decide +kernel
  have lk6 : Cond.fieldLink RX1 20 "HullBuilder$Hull" "faces" "[LHullBuilder$Face;" ∈ wsX1_findCorners := by decide +kernel
  have lk7 : Cond.fieldLinkNest RX1 98 "HullBuilder$Face" "held" "I" "HullBuilder" ∈ kNW := by decide +kernel
  have hinX0 : ∀ w ∈ wsX00, w ∈ wsX1_findCorners := by decide +kernel
  have lk9 : Cond.methodLinkNest RX1 101 yX3_holds "HullBuilder" ∈ kNW := by decide +kernel
  have lk10 : Cond.initialized RX3 ∈ wsX1_findCorners := by decide +kernel
  have lk11 : Cond.static yX3_holds ∈ wsX1_findCorners := by decide +kernel
  have hS1 := hS.1
  show Kw X 0 0 (wB ba fa ra cI cJ cF hb ps (nI S.1) co ec (nI nh) sx S.2.2.1 S.2.1 xs ys zs ax ay az al el eh mo S.2.2.2.1 S.2.2.2.2.1 S.2.2.2.2.2.1 S.2.2.2.2.2.2.1 S.2.2.2.2.2.2.2 sz rn) 0 [(0, .ref (ba 5))] []
  refine k_aload_n C 0 dX1_findCorners_0 rfl rfl ?_
  refine k_iconst C (v := (nI 0)) dX1_findCorners_1 (by decide) ?_
  refine k_put C (ws' := (wB ba fa ra cI cJ cF hb ps (nI S.1) (nI 0) ec (nI nh) sx S.2.2.1 S.2.1 xs ys zs ax ay az al el eh mo S.2.2.2.1 S.2.2.2.2.1 S.2.2.2.2.2.1 S.2.2.2.2.2.2.1 S.2.2.2.2.2.2.2 sz rn)) hinX1 tyX1 tyX1_ok nmX1 5 4 rfl rfl (by decide) lk0 rfl rfl rfl rfl (Nat.le_of_ble_eq_true rfl) rfl dX1_findCorners_2 ?_
  refine k_iconst C (v := (nI 0)) dX1_findCorners_5 (by decide) ?_
  refine k_istore_n C (lv' := [(1, .int (nI 0)), (0, .ref (ba 5))]) dX1_findCorners_6 rfl (by decide) rfl ?_
  suffices L7 : ∀ (n7 j7 : Nat), j7 ≤ nh → nh + 1 ≤ j7 + n7 → Kw X 0 0 (wB ba fa ra cI cJ cF hb ps (nI S.1) (coI S j7) ec (nI nh) sx S.2.2.1 S.2.1 xs ys zs ax ay az al el eh mo S.2.2.2.1 S.2.2.2.2.1 S.2.2.2.2.2.1 S.2.2.2.2.2.2.1 S.2.2.2.2.2.2.2 sz rn) 7 [(0, .ref (ba 5)), (1, .int (nI j7))] [] by
    have w6_0 : (nI 0) = (coI S 0) := rfl
    refine k_ws (ws' := (wB ba fa ra cI cJ cF hb ps (nI S.1) (coI S 0) ec (nI nh) sx S.2.2.1 S.2.1 xs ys zs ax ay az al el eh mo S.2.2.2.1 S.2.2.2.2.1 S.2.2.2.2.2.1 S.2.2.2.2.2.2.1 S.2.2.2.2.2.2.2 sz rn)) (by rw [← w6_0]) ?_
    exact k_lv [1, 0] rfl (L7 (nh + 1) 0 (by omega) (by omega))
  intro n7
  induction n7 with
  | zero => intro j7 a1 a2; exact absurd a2 (by omega)
  | succ n7 ih7 =>
    intro j7 b7 c7
    refine k_iload_n C 1 dX1_findCorners_7 rfl rfl ?_
    refine k_aload_n C 0 dX1_findCorners_8 rfl rfl ?_
    refine k_get C hinX1 5 0 rfl rfl (by decide) lk2 rfl rfl dX1_findCorners_9 ?_
    refine k_getN C hinX2 6 3 rfl rfl (by decide) lk3 rfl rfl dX1_findCorners_12 ?_
    refine k_icmp_geN C (by omega) (by omega) 78 dX1_findCorners_15 (by decide) (fun h_1 => ?_) (fun h_1 => ?_)
    · exact hret _ _ _ (by rw [show j7 = nh by omega]) dX1_findCorners_78
    · refine k_iconst C (v := (nI 0)) dX1_findCorners_18 (by decide) ?_
      refine k_istore_n C (lv' := [(2, .int (nI 0)), (0, .ref (ba 5)), (1, .int (nI j7))]) dX1_findCorners_19 rfl (by decide) rfl ?_
      refine k_iconst C (v := (nI 0)) dX1_findCorners_20 (by decide) ?_
      refine k_istore_n C (lv' := [(3, .int (nI 0)), (2, .int (nI 0)), (0, .ref (ba 5)), (1, .int (nI j7))]) dX1_findCorners_21 rfl (by decide) rfl ?_
      suffices L22 : ∀ (n22 j22 : Nat), j22 ≤ S.1 → S.1 + 1 ≤ j22 + n22 → Kw X 0 0 (wB ba fa ra cI cJ cF hb ps (nI S.1) (coI S j7) ec (nI nh) sx S.2.2.1 S.2.1 xs ys zs ax ay az al el eh mo S.2.2.2.1 S.2.2.2.2.1 S.2.2.2.2.2.1 S.2.2.2.2.2.2.1 S.2.2.2.2.2.2.2 sz rn) 22 [(0, .ref (ba 5)), (1, .int (nI j7)), (2, .int (nI (cntB j22 (fun f => hldB (S.2.2.2.2.2.2.2 (S.2.1 f)) j7)))), (3, .int (nI j22))] [] by
        have e26_0 : (nI 0) = (nI (cntB 0 (fun f => hldB (S.2.2.2.2.2.2.2 (S.2.1 f)) j7))) := rfl
        exact k_lv [2, 3, 1, 0] (by rw [← e26_0]; rfl) (L22 (S.1 + 1) 0 (by omega) (by omega))
      intro n22
      induction n22 with
      | zero => intro j22 a1 a2; exact absurd a2 (by omega)
      | succ n22 ih22 =>
        intro j22 b22 c22
        refine k_iload_n C 3 dX1_findCorners_22 rfl rfl ?_
        refine k_aload_n C 0 dX1_findCorners_23 rfl rfl ?_
        refine k_get C hinX1 5 3 rfl rfl (by decide) lk5 rfl rfl dX1_findCorners_24 ?_
        refine k_icmp_geN C (by omega) (by omega) 55 dX1_findCorners_27 (by decide) (fun h_2 => ?_) (fun h_2 => ?_)
        · have hcl : cntB j22 (fun f => hldB (S.2.2.2.2.2.2.2 (S.2.1 f)) j7) ≤ j22 := cntB_le
          refine k_iload_n C 2 dX1_findCorners_55 rfl rfl ?_
          refine k_iconst C (v := (nI 3)) dX1_findCorners_56 (by decide) ?_
          refine k_icmp_ltN C (by omega) (by omega) 72 dX1_findCorners_57 (by decide) (fun h_3 => ?_) (fun h_3 => ?_)
          · refine k_iinc C (v := (nI (j7 + 1))) (lv' := [(1, .int (nI (j7 + 1))), (0, .ref (ba 5)), (2, .int (nI (cntB j22 (fun f => hldB (S.2.2.2.2.2.2.2 (S.2.1 f)) j7)))), (3, .int (nI j22))]) 1 dX1_findCorners_72 rfl (nI_1 _) (by decide) rfl ?_
            refine k_goto C 7 dX1_findCorners_75 (by decide) ?_
            have w45_0 : (coI S j7) = (coI S (j7 + 1)) := by rw [coI, ← show j22 = S.1 by omega, if_neg (by omega)]
            refine k_ws (ws' := (wB ba fa ra cI cJ cF hb ps (nI S.1) (coI S (j7 + 1)) ec (nI nh) sx S.2.2.1 S.2.1 xs ys zs ax ay az al el eh mo S.2.2.2.1 S.2.2.2.2.1 S.2.2.2.2.2.1 S.2.2.2.2.2.2.1 S.2.2.2.2.2.2.2 sz rn)) (by rw [← w45_0]) ?_
            exact k_lv [1, 0] rfl (ih7 (j7 + 1) (by omega) (by omega))
          · refine k_aload_n C 0 dX1_findCorners_60 rfl rfl ?_
            refine k_dup C dX1_findCorners_61 rfl ?_
            refine k_get C hinX1 5 4 rfl rfl (by decide) lk0 rfl rfl dX1_findCorners_62 ?_
            refine k_iconst C (v := (nI 1)) dX1_findCorners_65 (by decide) ?_
            refine k_iload_n C 1 dX1_findCorners_66 rfl rfl ?_
            refine k_ishl C dX1_findCorners_67 ?_
            refine k_ior C dX1_findCorners_68 ?_
            refine k_put C (ws' := (wB ba fa ra cI cJ cF hb ps (nI S.1) ((coI S j7) ||| ((nI 1) <<< ((nI j7) &&& 31))) ec (nI nh) sx S.2.2.1 S.2.1 xs ys zs ax ay az al el eh mo S.2.2.2.1 S.2.2.2.2.1 S.2.2.2.2.2.1 S.2.2.2.2.2.2.1 S.2.2.2.2.2.2.2 sz rn)) hinX1 tyX1 tyX1_ok nmX1 5 4 rfl rfl (by decide) lk0 rfl rfl rfl rfl (Nat.le_of_ble_eq_true rfl) rfl dX1_findCorners_69 ?_
            refine k_iinc C (v := (nI (j7 + 1))) (lv' := [(1, .int (nI (j7 + 1))), (0, .ref (ba 5)), (2, .int (nI (cntB j22 (fun f => hldB (S.2.2.2.2.2.2.2 (S.2.1 f)) j7)))), (3, .int (nI j22))]) 1 dX1_findCorners_72 rfl (nI_1 _) (by decide) rfl ?_
            refine k_goto C 7 dX1_findCorners_75 (by decide) ?_
            have w58_0 : ((coI S j7) ||| ((nI 1) <<< ((nI j7) &&& 31))) = (coI S (j7 + 1)) := by rw [coI, ← show j22 = S.1 by omega, if_pos (by omega)]
            refine k_ws (ws' := (wB ba fa ra cI cJ cF hb ps (nI S.1) (coI S (j7 + 1)) ec (nI nh) sx S.2.2.1 S.2.1 xs ys zs ax ay az al el eh mo S.2.2.2.1 S.2.2.2.2.1 S.2.2.2.2.2.1 S.2.2.2.2.2.2.1 S.2.2.2.2.2.2.2 sz rn)) (by rw [← w58_0]) ?_
            exact k_lv [1, 0] rfl (ih7 (j7 + 1) (by omega) (by omega))
        · refine k_aload_n C 0 dX1_findCorners_30 rfl rfl ?_
          refine k_get C hinX1 5 1 rfl rfl (by decide) lk6 rfl rfl dX1_findCorners_31 ?_
          refine k_iload_n C 3 dX1_findCorners_34 rfl rfl ?_
          refine k_aald C (j := j22) 10 2 rfl rfl (by omega) (by decide) rfl dX1_findCorners_35 ?_
          refine k_getN C hinX0 (15 + (S.2.1 j22)) 4 (wB_f (hS.2.1 _)) rfl (by decide) lk7 rfl rfl dX1_findCorners_36 ?_
          refine k_iload_n C 1 dX1_findCorners_39 rfl rfl ?_
          refine k_callSNI C (ar := 2) (As := [.int (S.2.2.2.2.2.2.2 (S.2.1 j22)), .int (nI j7)]) (rest := []) (h3_holds (kxL X) (kxD X) cI cJ cF cD _ (S.2.2.2.2.2.2.2 (S.2.1 j22)) j7) ggX1_findCorners_X3_holds rfl rfl rfl lk9 lk10 lk11 (by decide +kernel) ⟨Nat.le_of_ble_eq_true rfl, Nat.le_of_ble_eq_true rfl⟩ rfl rfl (Nat.le_of_ble_eq_true rfl) dX1_findCorners_40 (Nat.zero_le _) (Nat.zero_le _) (fun r w hw => ?_)
          obtain ⟨rfl, rfl⟩ := hw
          refine k_if_eqB C 49 dX1_findCorners_43 (by decide) (fun h_4 => ?_) (fun h_4 => ?_)
          · refine k_iinc C (v := (nI (j22 + 1))) (lv' := [(3, .int (nI (j22 + 1))), (0, .ref (ba 5)), (1, .int (nI j7)), (2, .int (nI (cntB j22 (fun f => hldB (S.2.2.2.2.2.2.2 (S.2.1 f)) j7))))]) 3 dX1_findCorners_49 rfl (nI_1 _) (by decide) rfl ?_
            refine k_goto C 22 dX1_findCorners_52 (by decide) ?_
            have e72_0 : (nI (cntB j22 (fun f => hldB (S.2.2.2.2.2.2.2 (S.2.1 f)) j7))) = (nI (cntB (j22 + 1) (fun f => hldB (S.2.2.2.2.2.2.2 (S.2.1 f)) j7))) := by rw [cntB_s, if_neg (by simp [h_2, h_4])]; rfl
            exact k_lv [1, 2, 3, 0] (by rw [← e72_0]; rfl) (ih22 (j22 + 1) (by omega) (by omega))
          · refine k_iinc C (v := (nI ((cntB j22 (fun f => hldB (S.2.2.2.2.2.2.2 (S.2.1 f)) j7)) + 1))) (lv' := [(2, .int (nI ((cntB j22 (fun f => hldB (S.2.2.2.2.2.2.2 (S.2.1 f)) j7)) + 1))), (0, .ref (ba 5)), (1, .int (nI j7)), (3, .int (nI j22))]) 2 dX1_findCorners_46 rfl (nI_1 _) (by decide) rfl ?_
            refine k_iinc C (v := (nI (j22 + 1))) (lv' := [(3, .int (nI (j22 + 1))), (2, .int (nI ((cntB j22 (fun f => hldB (S.2.2.2.2.2.2.2 (S.2.1 f)) j7)) + 1))), (0, .ref (ba 5)), (1, .int (nI j7))]) 3 dX1_findCorners_49 rfl (nI_1 _) (by decide) rfl ?_
            refine k_goto C 22 dX1_findCorners_52 (by decide) ?_
            have e77_0 : (nI ((cntB j22 (fun f => hldB (S.2.2.2.2.2.2.2 (S.2.1 f)) j7)) + 1)) = (nI (cntB (j22 + 1) (fun f => hldB (S.2.2.2.2.2.2.2 (S.2.1 f)) j7))) := by rw [cntB_s, if_pos (by simp [h_2, h_4])]
            exact k_lv [2, 3, 1, 0] (by rw [← e77_0]; rfl) (ih22 (j22 + 1) (by omega) (by omega))
