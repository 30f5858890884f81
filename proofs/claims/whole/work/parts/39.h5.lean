/-! ===== the class: its contracts ===== -/
set_option maxHeartbeats 4000000 in
set_option maxRecDepth 100000 in
theorem h1_wrap (l : Launch) (D : va_G) (cI cJ cF cD : ClassId) {ba fa ra : Nat → Nat} {hb : Int32} {co : Int32} {ec : Int32} {asz : Int32} {sx : Int64} {xs : Nat → Int32} {ys : Nat → Int32} {zs : Nat → Int32} {ax : Nat → Int32} {ay : Nat → Int32} {az : Nat → Int32} {al : Nat → Int32} {el : Nat → Nat} {eh : Nat → Nat} {mo : Nat → Int64} {sz : Nat → Nat} {rn : Nat → Nat → Nat} {S : CT} {np : Nat} (hnp : np ≤ 24) (hS : invC S) (hrn : ∀ x k, rn x k < 24) (hsz : ∀ x, sz x ≤ 24) (hW : ∀ S8 : CT, rA np (cpI ax xs np) (cpI ay ys np) (cpI az zs np) (0, S.2) np S8 → invC S8 → ∃ v0 ml : Nat → Nat, wrpOK np S8 v0 ml) : CtV l D (tyG cI cJ cF cD) yX1_wrap wsX1_wrap ({ frames := 4, cells := 0, slots := 0, locals := 99 }) [.ref (ba 5), .ref (ba 1)] (wB ba fa ra cI cJ cF hb (nI np) (nI S.1) co ec asz sx S.2.2.1 S.2.1 xs ys zs ax ay az al el eh mo S.2.2.2.1 S.2.2.2.2.1 S.2.2.2.2.2.1 S.2.2.2.2.2.2.1 S.2.2.2.2.2.2.2 sz rn) (fun w => ∃ (S8 : CT) (v0 ml : Nat → Nat), rA np (cpI ax xs np) (cpI ay ys np) (cpI az zs np) (0, S.2) np S8 ∧ invC S8 ∧ wrpOK np S8 v0 ml ∧ w = (wB ba fa ra cI cJ cF hb (nI np) (nI S8.1) (coI S8 np) (nI ((edgC (wyA (filI al (-1) 576) (ordS (rkN (grA S8.2.1 ml (hsS np (cpI ax xs np) (cpI ay ys np) (cpI az zs np) S8 (coI S8 np) v0) rn S8.1)) S8.2.1 (S8.1 - 1)) (gzA S8.2.1 ml sz S8.1) (grA S8.2.1 ml (hsS np (cpI ax xs np) (cpI ay ys np) (cpI az zs np) S8 (coI S8 np) v0) rn S8.1) S8.1) np (0, el, eh) np).1)) (nI np) ((msG (cpI ax xs np) (cpI ay ys np) (cpI az zs np) (ordS (rkN (grA S8.2.1 ml (hsS np (cpI ax xs np) (cpI ay ys np) (cpI az zs np) S8 (coI S8 np) v0) rn S8.1)) S8.2.1 (S8.1 - 1)) (gzA S8.2.1 ml sz S8.1) (grA S8.2.1 ml (hsS np (cpI ax xs np) (cpI ay ys np) (cpI az zs np) S8 (coI S8 np) v0) rn S8.1) (0, filL mo 0 3) S8.1).1) S8.2.2.1 (ordS (rkN (grA S8.2.1 ml (hsS np (cpI ax xs np) (cpI ay ys np) (cpI az zs np) S8 (coI S8 np) v0) rn S8.1)) S8.2.1 (S8.1 - 1)) xs ys zs (cpI ax xs np) (cpI ay ys np) (cpI az zs np) (wyA (filI al (-1) 576) (ordS (rkN (grA S8.2.1 ml (hsS np (cpI ax xs np) (cpI ay ys np) (cpI az zs np) S8 (coI S8 np) v0) rn S8.1)) S8.2.1 (S8.1 - 1)) (gzA S8.2.1 ml sz S8.1) (grA S8.2.1 ml (hsS np (cpI ax xs np) (cpI ay ys np) (cpI az zs np) S8 (coI S8 np) v0) rn S8.1) S8.1) ((edgC (wyA (filI al (-1) 576) (ordS (rkN (grA S8.2.1 ml (hsS np (cpI ax xs np) (cpI ay ys np) (cpI az zs np) S8 (coI S8 np) v0) rn S8.1)) S8.2.1 (S8.1 - 1)) (gzA S8.2.1 ml sz S8.1) (grA S8.2.1 ml (hsS np (cpI ax xs np) (cpI ay ys np) (cpI az zs np) S8 (coI S8 np) v0) rn S8.1) S8.1) np (0, el, eh) np).2.1) ((edgC (wyA (filI al (-1) 576) (ordS (rkN (grA S8.2.1 ml (hsS np (cpI ax xs np) (cpI ay ys np) (cpI az zs np) S8 (coI S8 np) v0) rn S8.1)) S8.2.1 (S8.1 - 1)) (gzA S8.2.1 ml sz S8.1) (grA S8.2.1 ml (hsS np (cpI ax xs np) (cpI ay ys np) (cpI az zs np) S8 (coI S8 np) v0) rn S8.1) S8.1) np (0, el, eh) np).2.2) ((msG (cpI ax xs np) (cpI ay ys np) (cpI az zs np) (ordS (rkN (grA S8.2.1 ml (hsS np (cpI ax xs np) (cpI ay ys np) (cpI az zs np) S8 (coI S8 np) v0) rn S8.1)) S8.2.1 (S8.1 - 1)) (gzA S8.2.1 ml sz S8.1) (grA S8.2.1 ml (hsS np (cpI ax xs np) (cpI ay ys np) (cpI az zs np) S8 (coI S8 np) v0) rn S8.1) (0, filL mo 0 3) S8.1).2) S8.2.2.2.1 S8.2.2.2.2.1 S8.2.2.2.2.2.1 S8.2.2.2.2.2.2.1 S8.2.2.2.2.2.2.2 (gzA S8.2.1 ml sz S8.1) (grA S8.2.1 ml (hsS np (cpI ax xs np) (cpI ay ys np) (cpI az zs np) S8 (coI S8 np) v0) rn S8.1))) := by
  refine ctV_of (cc := cX1_wrap) (maxL := 3) (by decide) rfl (Nat.le_of_ble_eq_true rfl) ?_
  intro X hXl hXd C hret
  have lk0 : Cond.fieldLink RX1 12 "HullBuilder$Hull" "at" "LHullBuilder$Points;" ∈ wsX1_wrap := by decide +kernel
  have hinX1 : ∀ w ∈ wsX10, w ∈ wsX1_wrap := by decide +kernel
  have lk2 : Cond.methodLinkNest RX1 55 yX2_copyFrom "HullBuilder" ∈ kNW := by decide +kernel
  have lk3 : Cond.initialized RX2 ∈ wsX1_wrap := by decide +kernel
  have lk4 : Cond.instanceMethod yX2_copyFrom ∈ wsX1_wrap := by decide +kernel
  have lk5 : Cond.selects RX2 yX2_copyFrom yX2_copyFrom ∈ wsX1_wrap := by decide +kernel
  have lk6 : Cond.fieldLink RX1 65 "HullBuilder$Hull" "faceCount" "I" ∈ wsX1_wrap := by decide +kernel
  have lk7 : Cond.fieldLink RX1 20 "HullBuilder$Hull" "faces" "[LHullBuilder$Face;" ∈ wsX1_wrap := by decide +kernel
  have lk8 : Cond.fieldLink RX1 68 "HullBuilder$Hull" "corners" "I" ∈ wsX1_wrap := by decide +kernel
  have lk9 : Cond.methodLinkNest RX1 71 yX0_goRound "HullBuilder" ∈ kNW := by decide +kernel
  have lk10 : Cond.initialized RX0 ∈ wsX1_wrap := by decide +kernel
  have lk11 : Cond.instanceMethod yX0_goRound ∈ wsX1_wrap := by decide +kernel
  have lk12 : Cond.selects RX0 yX0_goRound yX0_goRound ∈ wsX1_wrap := by decide +kernel
  show Kw X 0 0 (wB ba fa ra cI cJ cF hb (nI np) (nI S.1) co ec asz sx S.2.2.1 S.2.1 xs ys zs ax ay az al el eh mo S.2.2.2.1 S.2.2.2.2.1 S.2.2.2.2.2.1 S.2.2.2.2.2.2.1 S.2.2.2.2.2.2.2 sz rn) 0 [(0, .ref (ba 5)), (1, .ref (ba 1))] []
  refine k_aload_n C 0 dX1_wrap_0 rfl rfl ?_
  refine k_get C hinX1 5 0 rfl rfl (by decide) lk0 rfl rfl dX1_wrap_1 ?_
  refine k_aload_n C 1 dX1_wrap_4 rfl rfl ?_
  refine k_callVNV C (ar := 1) (As := [.ref (ba 1)]) (rest := []) (h2_copyFrom (kxL X) (kxD X) cI cJ cF cD (by omega)) ggX1_wrap_X2_copyFrom rfl rfl rfl lk2 lk3 lk4 lk5 (by decide +kernel) ⟨Nat.le_of_ble_eq_true rfl, Nat.le_of_ble_eq_true rfl⟩ 6 rfl rfl rfl rfl (Nat.le_of_ble_eq_true rfl) dX1_wrap_5 (Nat.zero_le _) (Nat.zero_le _) (fun w hw => ?_)
  subst hw
  refine k_aload_n C 0 dX1_wrap_8 rfl rfl ?_
  refine k_callVV C (ar := 0) (As := []) (rest := []) (h1_findFaces (kxL X) (kxD X) cI cJ cF cD (by omega) hS) gX1_wrap_X1_findFaces rfl rfl rfl (by decide +kernel) ⟨Nat.le_of_ble_eq_true rfl, Nat.le_of_ble_eq_true rfl⟩ 5 rfl rfl rfl rfl (Nat.le_of_ble_eq_true rfl) dX1_wrap_9 (Nat.zero_le _) (Nat.zero_le _) (fun w hw => ?_)
  obtain ⟨S8, hA8, hI8, rfl⟩ := hw
  obtain ⟨v0, ml, hW8⟩ := hW S8 hA8 hI8
  have h81 := hI8.1
  have h8n := hW8.2.1
  refine k_aload_n C 0 dX1_wrap_12 rfl rfl ?_
  refine k_callVV C (ar := 0) (As := []) (rest := []) (h1_findCorners (kxL X) (kxD X) cI cJ cF cD (by omega) hI8) gX1_wrap_X1_findCorners rfl rfl rfl (by decide +kernel) ⟨Nat.le_of_ble_eq_true rfl, Nat.le_of_ble_eq_true rfl⟩ 5 rfl rfl rfl rfl (Nat.le_of_ble_eq_true rfl) dX1_wrap_13 (Nat.zero_le _) (Nat.zero_le _) (fun w hw => ?_)
  subst hw
  refine k_iconst C (v := (nI 0)) dX1_wrap_16 (by decide) ?_
  refine k_istore_n C (lv' := [(2, .int (nI 0)), (0, .ref (ba 5)), (1, .ref (ba 1))]) dX1_wrap_17 rfl (by decide) rfl ?_
  suffices L18 : ∀ (n18 j18 : Nat), j18 ≤ S8.1 → S8.1 + 1 ≤ j18 + n18 → Kw X 0 0 (wB ba fa ra cI cJ cF hb (nI np) (nI S8.1) (coI S8 np) ec (nI np) sx S8.2.2.1 S8.2.1 xs ys zs (cpI ax xs np) (cpI ay ys np) (cpI az zs np) al el eh mo S8.2.2.2.1 S8.2.2.2.2.1 S8.2.2.2.2.2.1 S8.2.2.2.2.2.2.1 S8.2.2.2.2.2.2.2 (gzA S8.2.1 ml sz j18) (grA S8.2.1 ml (hsS np (cpI ax xs np) (cpI ay ys np) (cpI az zs np) S8 (coI S8 np) v0) rn j18)) 18 [(0, .ref (ba 5)), (1, .ref (ba 1)), (2, .int (nI j18))] [] by
    have w17_0 : sz = (gzA S8.2.1 ml sz 0) := rfl
    have w18_1 : rn = (grA S8.2.1 ml (hsS np (cpI ax xs np) (cpI ay ys np) (cpI az zs np) S8 (coI S8 np) v0) rn 0) := rfl
    refine k_ws (ws' := (wB ba fa ra cI cJ cF hb (nI np) (nI S8.1) (coI S8 np) ec (nI np) sx S8.2.2.1 S8.2.1 xs ys zs (cpI ax xs np) (cpI ay ys np) (cpI az zs np) al el eh mo S8.2.2.2.1 S8.2.2.2.2.1 S8.2.2.2.2.2.1 S8.2.2.2.2.2.2.1 S8.2.2.2.2.2.2.2 (gzA S8.2.1 ml sz 0) (grA S8.2.1 ml (hsS np (cpI ax xs np) (cpI ay ys np) (cpI az zs np) S8 (coI S8 np) v0) rn 0))) (by rw [← w17_0, ← w18_1]) ?_
    exact k_lv [1, 2, 0] rfl (L18 (S8.1 + 1) 0 (by omega) (by omega))
  intro n18
  induction n18 with
  | zero => intro j18 a1 a2; exact absurd a2 (by omega)
  | succ n18 ih18 =>
    intro j18 b18 c18
    refine k_iload_n C 2 dX1_wrap_18 rfl rfl ?_
    refine k_aload_n C 0 dX1_wrap_19 rfl rfl ?_
    refine k_get C hinX1 5 3 rfl rfl (by decide) lk6 rfl rfl dX1_wrap_20 ?_
    refine k_icmp_geN C (by omega) (by omega) 49 dX1_wrap_23 (by decide) (fun h_1 => ?_) (fun h_1 => ?_)
    · have ej : j18 = S8.1 := by omega
      refine k_ws (ws' := (wB ba fa ra cI cJ cF hb (nI np) (nI S8.1) (coI S8 np) ec (nI np) sx S8.2.2.1 S8.2.1 xs ys zs (cpI ax xs np) (cpI ay ys np) (cpI az zs np) al el eh mo S8.2.2.2.1 S8.2.2.2.2.1 S8.2.2.2.2.2.1 S8.2.2.2.2.2.2.1 S8.2.2.2.2.2.2.2 (gzA S8.2.1 ml sz S8.1) (grA S8.2.1 ml (hsS np (cpI ax xs np) (cpI ay ys np) (cpI az zs np) S8 (coI S8 np) v0) rn S8.1))) (by rw [ej]) ?_
      refine k_lv (lv' := [(0, .ref (ba 5)), (1, .ref (ba 1))]) [0, 1] rfl ?_
      have hz8 := gzA_le (pm := S8.2.1) hsz (fun f hf => (hW8.2.2 f hf).1) _ (Nat.le_refl _)
      have hr8 := grA_lt (pm := S8.2.1) (ml := ml) (hs := (hsS np (cpI ax xs np) (cpI ay ys np) (cpI az zs np) S8 (coI S8 np) v0)) hrn (fun f hf k => hsN_lt (hW8.2.2 f hf).2.1 hnp k) _ (Nat.le_refl _)
      refine k_aload_n C 0 dX1_wrap_49 rfl rfl ?_
      refine k_callVV C (ar := 0) (As := []) (rest := []) (h1_orderFaces (kxL X) (kxD X) cI cJ cF cD h81 h8n hI8.2.1 hr8) gX1_wrap_X1_orderFaces rfl rfl rfl (by decide +kernel) ⟨Nat.le_of_ble_eq_true rfl, Nat.le_of_ble_eq_true rfl⟩ 5 rfl rfl rfl rfl (Nat.le_of_ble_eq_true rfl) dX1_wrap_50 (Nat.zero_le _) (Nat.zero_le _) (fun w hw => ?_)
      subst hw
      refine k_aload_n C 0 dX1_wrap_53 rfl rfl ?_
      refine k_callVV C (ar := 0) (As := []) (rest := []) (h1_findEdges (kxL X) (kxD X) cI cJ cF cD (by omega) h81 (ordS_lt hI8.2.1 _) hr8 hz8) gX1_wrap_X1_findEdges rfl rfl rfl (by decide +kernel) ⟨Nat.le_of_ble_eq_true rfl, Nat.le_of_ble_eq_true rfl⟩ 5 rfl rfl rfl rfl (Nat.le_of_ble_eq_true rfl) dX1_wrap_54 (Nat.zero_le _) (Nat.zero_le _) (fun w hw => ?_)
      subst hw
      refine k_aload_n C 0 dX1_wrap_57 rfl rfl ?_
      refine k_callVV C (ar := 0) (As := []) (rest := []) (h1_measure (kxL X) (kxD X) cI cJ cF cD h81 (ordS_lt hI8.2.1 _) hr8 hz8) gX1_wrap_X1_measure rfl rfl rfl (by decide +kernel) ⟨Nat.le_of_ble_eq_true rfl, Nat.le_of_ble_eq_true rfl⟩ 5 rfl rfl rfl rfl (Nat.le_of_ble_eq_true rfl) dX1_wrap_58 (Nat.zero_le _) (Nat.zero_le _) (fun w hw => ?_)
      subst hw
      exact hret _ _ _ (⟨S8, v0, ml, hA8, hI8, hW8, rfl⟩) dX1_wrap_61
    · have hf8 := hW8.2.2 j18 (by omega)
      refine k_aload_n C 0 dX1_wrap_26 rfl rfl ?_
      refine k_get C hinX1 5 1 rfl rfl (by decide) lk7 rfl rfl dX1_wrap_27 ?_
      refine k_iload_n C 2 dX1_wrap_30 rfl rfl ?_
      refine k_aald C (j := j18) 10 2 rfl rfl (by omega) (by decide) rfl dX1_wrap_31 ?_
      refine k_aload_n C 0 dX1_wrap_32 rfl rfl ?_
      refine k_get C hinX1 5 0 rfl rfl (by decide) lk0 rfl rfl dX1_wrap_33 ?_
      refine k_aload_n C 0 dX1_wrap_36 rfl rfl ?_
      refine k_get C hinX1 5 4 rfl rfl (by decide) lk8 rfl rfl dX1_wrap_37 ?_
      refine k_callVNV C (ar := 2) (As := [.ref (ba 6), .int (coI S8 np)]) (rest := []) (h0_goRound (kxL X) (kxD X) cI cJ cF cD (v0 := v0 j18) (m := ml j18) (coI S8 np) (hI8.2.1 _) (by omega) hf8.1 hf8.2.1 hf8.2.2.1 hf8.2.2.2) ggX1_wrap_X0_goRound rfl rfl rfl lk9 lk10 lk11 lk12 (by decide +kernel) ⟨Nat.le_of_ble_eq_true rfl, Nat.le_of_ble_eq_true rfl⟩ (15 + (S8.2.1 j18)) (wB_f (hI8.2.1 _)) rfl rfl rfl (Nat.le_of_ble_eq_true rfl) dX1_wrap_40 (Nat.zero_le _) (Nat.zero_le _) (fun w hw => ?_)
      subst hw
      refine k_iinc C (v := (nI (j18 + 1))) (lv' := [(2, .int (nI (j18 + 1))), (0, .ref (ba 5)), (1, .ref (ba 1))]) 2 dX1_wrap_43 rfl (nI_1 _) (by decide) rfl ?_
      refine k_goto C 18 dX1_wrap_46 (by decide) ?_
      exact k_lv [1, 2, 0] rfl (ih18 (j18 + 1) (by omega) (by omega))
set_option maxHeartbeats 4000000 in
set_option maxRecDepth 100000 in
theorem h1_furthest (l : Launch) (D : va_G) (cI cJ cF cD : ClassId) {ba fa ra : Nat → Nat} {hb : Int32} {ps : Int32} {fc : Int32} {co : Int32} {ec : Int32} {sx : Int64} {tr : Nat} {pm : Nat → Nat} {xs : Nat → Int32} {ys : Nat → Int32} {zs : Nat → Int32} {ax : Nat → Int32} {ay : Nat → Int32} {az : Nat → Int32} {al : Nat → Int32} {el : Nat → Nat} {eh : Nat → Nat} {mo : Nat → Int64} {nx : Nat → Int64} {ny : Nat → Int64} {nz : Nat → Int64} {dd : Nat → Int64} {hd : Nat → Int32} {sz : Nat → Nat} {rn : Nat → Nat → Nat} {nh : Nat} (x y z : Int64) (hh : nh ≤ 24) : CtI l D (tyG cI cJ cF cD) yX1_furthest wsX1_furthest ({ frames := 1, cells := 0, slots := 0, locals := 21 }) [.ref (ba 5), .long x, .long y, .long z] (wB ba fa ra cI cJ cF hb ps fc co ec (nI nh) sx tr pm xs ys zs ax ay az al el eh mo nx ny nz dd hd sz rn) (fun r w => r = ((frN co (fun k => x * (ax k).toInt64 + y * (ay k).toInt64 + z * (az k).toInt64) nh).1) ∧ w = (wB ba fa ra cI cJ cF hb ps fc co ec (nI nh) sx tr pm xs ys zs ax ay az al el eh mo nx ny nz dd hd sz rn)) := by
  refine ctI_of (cc := cX1_furthest) (maxL := 13) (by decide) rfl (Nat.le_of_ble_eq_true rfl) ?_
  intro X hXl hXd C hret
  have lk0 : Cond.fieldLink RX1 12 "HullBuilder$Hull" "at" "LHullBuilder$Points;" ∈ wsX1_furthest := by decide +kernel
  have hinX1 : ∀ w ∈ wsX10, w ∈ wsX1_furthest := by decide +kernel
  have lk2 : Cond.fieldLinkNest RX1 43 "HullBuilder$Points" "size" "I" "HullBuilder" ∈ kNW := by decide +kernel
  have hinX2 : ∀ w ∈ wsX20, w ∈ wsX1_furthest := by decide +kernel
  have lk4 : Cond.fieldLinkNest RX1 139 "HullBuilder$Points" "xs" "[I" "HullBuilder" ∈ kNW := by decide +kernel
  have lk5 : Cond.fieldLinkNest RX1 142 "HullBuilder$Points" "ys" "[I" "HullBuilder" ∈ kNW := by decide +kernel
  have lk6 : Cond.fieldLinkNest RX1 145 "HullBuilder$Points" "zs" "[I" "HullBuilder" ∈ kNW := by decide +kernel
  have lk7 : Cond.fieldLink RX1 68 "HullBuilder$Hull" "corners" "I" ∈ wsX1_furthest := by decide +kernel
  have lk8 : Cond.methodLinkNest RX1 101 yX3_holds "HullBuilder" ∈ kNW := by decide +kernel
  have lk9 : Cond.initialized RX3 ∈ wsX1_furthest := by decide +kernel
  have lk10 : Cond.static yX3_holds ∈ wsX1_furthest := by decide +kernel
  show Kw X 0 0 (wB ba fa ra cI cJ cF hb ps fc co ec (nI nh) sx tr pm xs ys zs ax ay az al el eh mo nx ny nz dd hd sz rn) 0 [(0, .ref (ba 5)), (1, .long x), (3, .long y), (5, .long z)] []
  refine k_iconst C (v := (-1)) dX1_furthest_0 (by decide) ?_
  refine k_istore C (lv' := [(7, .int (-1)), (0, .ref (ba 5)), (1, .long x), (3, .long y), (5, .long z)]) dX1_furthest_1 (by decide) rfl ?_
  refine k_lconst C (v := 0) dX1_furthest_3 (by decide) ?_
  refine k_lstore C (lv' := [(8, .long 0), (7, .int (-1)), (0, .ref (ba 5)), (1, .long x), (3, .long y), (5, .long z)]) dX1_furthest_4 (by decide) rfl ?_
  refine k_iconst C (v := (nI 0)) dX1_furthest_6 (by decide) ?_
  refine k_istore C (lv' := [(10, .int (nI 0)), (8, .long 0), (7, .int (-1)), (0, .ref (ba 5)), (1, .long x), (3, .long y), (5, .long z)]) dX1_furthest_7 (by decide) rfl ?_
  suffices L9 : ∀ (n9 j9 : Nat), j9 ≤ nh → nh + 1 ≤ j9 + n9 → Kw X 0 0 (wB ba fa ra cI cJ cF hb ps fc co ec (nI nh) sx tr pm xs ys zs ax ay az al el eh mo nx ny nz dd hd sz rn) 9 [(0, .ref (ba 5)), (1, .long x), (3, .long y), (5, .long z), (7, .int ((frN co (fun k => x * (ax k).toInt64 + y * (ay k).toInt64 + z * (az k).toInt64) j9).1)), (8, .long ((frN co (fun k => x * (ax k).toInt64 + y * (ay k).toInt64 + z * (az k).toInt64) j9).2)), (10, .int (nI j9))] [] by
    have e7_0 : (-1) = ((frN co (fun k => x * (ax k).toInt64 + y * (ay k).toInt64 + z * (az k).toInt64) 0).1) := rfl
    have e8_1 : 0 = ((frN co (fun k => x * (ax k).toInt64 + y * (ay k).toInt64 + z * (az k).toInt64) 0).2) := rfl
    exact k_lv [3, 4, 5, 6, 2, 1, 0] (by rw [← e7_0, ← e8_1]; rfl) (L9 (nh + 1) 0 (by omega) (by omega))
  intro n9
  induction n9 with
  | zero => intro j9 a1 a2; exact absurd a2 (by omega)
  | succ n9 ih9 =>
    intro j9 b9 c9
    refine k_iload C 6 dX1_furthest_9 rfl ?_
    refine k_aload_n C 0 dX1_furthest_11 rfl rfl ?_
    refine k_get C hinX1 5 0 rfl rfl (by decide) lk0 rfl rfl dX1_furthest_12 ?_
    refine k_getN C hinX2 6 3 rfl rfl (by decide) lk2 rfl rfl dX1_furthest_15 ?_
    refine k_icmp_geN C (by omega) (by omega) 105 dX1_furthest_18 (by decide) (fun h_1 => ?_) (fun h_1 => ?_)
    · refine k_iload C 4 dX1_furthest_105 rfl ?_
      exact hret _ _ _ _ ⟨by rw [show j9 = nh by omega], rfl⟩ dX1_furthest_107
    · refine k_lload_n C 1 dX1_furthest_21 rfl rfl ?_
      refine k_aload_n C 0 dX1_furthest_22 rfl rfl ?_
      refine k_get C hinX1 5 0 rfl rfl (by decide) lk0 rfl rfl dX1_furthest_23 ?_
      refine k_getN C hinX2 6 0 rfl rfl (by decide) lk4 rfl rfl dX1_furthest_26 ?_
      refine k_iload C 6 dX1_furthest_29 rfl ?_
      refine k_iald C (j := j9) 7 0 rfl rfl (by omega) (by decide) dX1_furthest_31 ?_
      refine k_i2l C dX1_furthest_32 ?_
      refine k_lmul C dX1_furthest_33 ?_
      refine k_lload_n C 2 dX1_furthest_34 rfl rfl ?_
      refine k_aload_n C 0 dX1_furthest_35 rfl rfl ?_
      refine k_get C hinX1 5 0 rfl rfl (by decide) lk0 rfl rfl dX1_furthest_36 ?_
      refine k_getN C hinX2 6 1 rfl rfl (by decide) lk5 rfl rfl dX1_furthest_39 ?_
      refine k_iload C 6 dX1_furthest_42 rfl ?_
      refine k_iald C (j := j9) 8 0 rfl rfl (by omega) (by decide) dX1_furthest_44 ?_
      refine k_i2l C dX1_furthest_45 ?_
      refine k_lmul C dX1_furthest_46 ?_
      refine k_ladd C dX1_furthest_47 ?_
      refine k_lload C 3 dX1_furthest_48 rfl ?_
      refine k_aload_n C 0 dX1_furthest_50 rfl rfl ?_
      refine k_get C hinX1 5 0 rfl rfl (by decide) lk0 rfl rfl dX1_furthest_51 ?_
      refine k_getN C hinX2 6 2 rfl rfl (by decide) lk6 rfl rfl dX1_furthest_54 ?_
      refine k_iload C 6 dX1_furthest_57 rfl ?_
      refine k_iald C (j := j9) 9 0 rfl rfl (by omega) (by decide) dX1_furthest_59 ?_
      refine k_i2l C dX1_furthest_60 ?_
      refine k_lmul C dX1_furthest_61 ?_
      refine k_ladd C dX1_furthest_62 ?_
      refine k_lstore C (lv' := [(11, .long (((x * ((ax j9).toInt64)) + (y * ((ay j9).toInt64))) + (z * ((az j9).toInt64)))), (0, .ref (ba 5)), (1, .long x), (3, .long y), (5, .long z), (7, .int ((frN co (fun k => x * (ax k).toInt64 + y * (ay k).toInt64 + z * (az k).toInt64) j9).1)), (8, .long ((frN co (fun k => x * (ax k).toInt64 + y * (ay k).toInt64 + z * (az k).toInt64) j9).2)), (10, .int (nI j9))]) dX1_furthest_63 (by decide) rfl ?_
      refine k_aload_n C 1 dX1_furthest_65 rfl rfl ?_
      refine k_get C hinX1 5 4 rfl rfl (by decide) lk7 rfl rfl dX1_furthest_66 ?_
      refine k_iload C 7 dX1_furthest_69 rfl ?_
      refine k_callSNI C (ar := 2) (As := [.int co, .int (nI j9)]) (rest := []) (h3_holds (kxL X) (kxD X) cI cJ cF cD _ co j9) ggX1_furthest_X3_holds rfl rfl rfl lk8 lk9 lk10 (by decide +kernel) ⟨Nat.le_of_ble_eq_true rfl, Nat.le_of_ble_eq_true rfl⟩ rfl rfl (Nat.le_of_ble_eq_true rfl) dX1_furthest_71 (Nat.zero_le _) (Nat.zero_le _) (fun r w hw => ?_)
      obtain ⟨rfl, rfl⟩ := hw
      refine k_if_eqB C 99 dX1_furthest_74 (by decide) (fun h_2 => ?_) (fun h_2 => ?_)
      · refine k_iinc C (v := (nI (j9 + 1))) (lv' := [(10, .int (nI (j9 + 1))), (11, .long (((x * ((ax j9).toInt64)) + (y * ((ay j9).toInt64))) + (z * ((az j9).toInt64)))), (0, .ref (ba 5)), (1, .long x), (3, .long y), (5, .long z), (7, .int ((frN co (fun k => x * (ax k).toInt64 + y * (ay k).toInt64 + z * (az k).toInt64) j9).1)), (8, .long ((frN co (fun k => x * (ax k).toInt64 + y * (ay k).toInt64 + z * (az k).toInt64) j9).2))]) 7 dX1_furthest_99 rfl (nI_1 _) (by decide) rfl ?_
        refine k_goto C 9 dX1_furthest_102 (by decide) ?_
        have e59_0 : ((frN co (fun k => x * (ax k).toInt64 + y * (ay k).toInt64 + z * (az k).toInt64) j9).1) = ((frN co (fun k => x * (ax k).toInt64 + y * (ay k).toInt64 + z * (az k).toInt64) (j9 + 1)).1) := by rw [frN, if_neg (by simp [h_1, h_2])]
        have e60_1 : ((frN co (fun k => x * (ax k).toInt64 + y * (ay k).toInt64 + z * (az k).toInt64) j9).2) = ((frN co (fun k => x * (ax k).toInt64 + y * (ay k).toInt64 + z * (az k).toInt64) (j9 + 1)).2) := by rw [frN, if_neg (by simp [h_1, h_2])]
        exact k_lv [2, 3, 4, 5, 6, 7, 0] (by rw [← e59_0, ← e60_1]; rfl) (ih9 (j9 + 1) (by omega) (by omega))
      · refine k_iload C 5 dX1_furthest_77 rfl ?_
        refine k_iconst C (v := (-1)) dX1_furthest_79 (by decide) ?_
        refine k_icmp_eq C 91 dX1_furthest_80 (by decide) (fun h_3 => ?_) (fun h_3 => ?_)
        · refine k_iload C 7 dX1_furthest_91 rfl ?_
          refine k_istore C (lv' := [(7, .int (nI j9)), (11, .long (((x * ((ax j9).toInt64)) + (y * ((ay j9).toInt64))) + (z * ((az j9).toInt64)))), (0, .ref (ba 5)), (1, .long x), (3, .long y), (5, .long z), (8, .long ((frN co (fun k => x * (ax k).toInt64 + y * (ay k).toInt64 + z * (az k).toInt64) j9).2)), (10, .int (nI j9))]) dX1_furthest_93 (by decide) rfl ?_
          refine k_lload C 1 dX1_furthest_95 rfl ?_
          refine k_lstore C (lv' := [(8, .long (((x * ((ax j9).toInt64)) + (y * ((ay j9).toInt64))) + (z * ((az j9).toInt64)))), (7, .int (nI j9)), (11, .long (((x * ((ax j9).toInt64)) + (y * ((ay j9).toInt64))) + (z * ((az j9).toInt64)))), (0, .ref (ba 5)), (1, .long x), (3, .long y), (5, .long z), (10, .int (nI j9))]) dX1_furthest_97 (by decide) rfl ?_
          refine k_iinc C (v := (nI (j9 + 1))) (lv' := [(10, .int (nI (j9 + 1))), (8, .long (((x * ((ax j9).toInt64)) + (y * ((ay j9).toInt64))) + (z * ((az j9).toInt64)))), (7, .int (nI j9)), (11, .long (((x * ((ax j9).toInt64)) + (y * ((ay j9).toInt64))) + (z * ((az j9).toInt64)))), (0, .ref (ba 5)), (1, .long x), (3, .long y), (5, .long z)]) 7 dX1_furthest_99 rfl (nI_1 _) (by decide) rfl ?_
          refine k_goto C 9 dX1_furthest_102 (by decide) ?_
          have e72_0 : (nI j9) = ((frN co (fun k => x * (ax k).toInt64 + y * (ay k).toInt64 + z * (az k).toInt64) (j9 + 1)).1) := by rw [frN, if_pos (by simp [h_1, h_2, h_3])]
          have e73_1 : (((x * ((ax j9).toInt64)) + (y * ((ay j9).toInt64))) + (z * ((az j9).toInt64))) = ((frN co (fun k => x * (ax k).toInt64 + y * (ay k).toInt64 + z * (az k).toInt64) (j9 + 1)).2) := by rw [frN, if_pos (by simp [h_1, h_2, h_3])]
          exact k_lv [4, 5, 6, 7, 2, 1, 0] (by rw [← e72_0, ← e73_1]; rfl) (ih9 (j9 + 1) (by omega) (by omega))
        · refine k_lload C 0 dX1_furthest_83 rfl ?_
          refine k_lload C 6 dX1_furthest_85 rfl ?_
          refine k_lc_le C 99 dX1_furthest_87 dX1_furthest_88 (by decide) (fun h_4 => ?_) (fun h_4 => ?_)
          · refine k_iinc C (v := (nI (j9 + 1))) (lv' := [(10, .int (nI (j9 + 1))), (11, .long (((x * ((ax j9).toInt64)) + (y * ((ay j9).toInt64))) + (z * ((az j9).toInt64)))), (0, .ref (ba 5)), (1, .long x), (3, .long y), (5, .long z), (7, .int ((frN co (fun k => x * (ax k).toInt64 + y * (ay k).toInt64 + z * (az k).toInt64) j9).1)), (8, .long ((frN co (fun k => x * (ax k).toInt64 + y * (ay k).toInt64 + z * (az k).toInt64) j9).2))]) 7 dX1_furthest_99 rfl (nI_1 _) (by decide) rfl ?_
            refine k_goto C 9 dX1_furthest_102 (by decide) ?_
            have e81_0 : ((frN co (fun k => x * (ax k).toInt64 + y * (ay k).toInt64 + z * (az k).toInt64) j9).1) = ((frN co (fun k => x * (ax k).toInt64 + y * (ay k).toInt64 + z * (az k).toInt64) (j9 + 1)).1) := by rw [frN, if_neg (by simp [h_1, h_2, h_3, h_4])]
            have e82_1 : ((frN co (fun k => x * (ax k).toInt64 + y * (ay k).toInt64 + z * (az k).toInt64) j9).2) = ((frN co (fun k => x * (ax k).toInt64 + y * (ay k).toInt64 + z * (az k).toInt64) (j9 + 1)).2) := by rw [frN, if_neg (by simp [h_1, h_2, h_3, h_4])]
            exact k_lv [2, 3, 4, 5, 6, 7, 0] (by rw [← e81_0, ← e82_1]; rfl) (ih9 (j9 + 1) (by omega) (by omega))
          · refine k_iload C 7 dX1_furthest_91 rfl ?_
            refine k_istore C (lv' := [(7, .int (nI j9)), (11, .long (((x * ((ax j9).toInt64)) + (y * ((ay j9).toInt64))) + (z * ((az j9).toInt64)))), (0, .ref (ba 5)), (1, .long x), (3, .long y), (5, .long z), (8, .long ((frN co (fun k => x * (ax k).toInt64 + y * (ay k).toInt64 + z * (az k).toInt64) j9).2)), (10, .int (nI j9))]) dX1_furthest_93 (by decide) rfl ?_
            refine k_lload C 1 dX1_furthest_95 rfl ?_
            refine k_lstore C (lv' := [(8, .long (((x * ((ax j9).toInt64)) + (y * ((ay j9).toInt64))) + (z * ((az j9).toInt64)))), (7, .int (nI j9)), (11, .long (((x * ((ax j9).toInt64)) + (y * ((ay j9).toInt64))) + (z * ((az j9).toInt64)))), (0, .ref (ba 5)), (1, .long x), (3, .long y), (5, .long z), (10, .int (nI j9))]) dX1_furthest_97 (by decide) rfl ?_
            refine k_iinc C (v := (nI (j9 + 1))) (lv' := [(10, .int (nI (j9 + 1))), (8, .long (((x * ((ax j9).toInt64)) + (y * ((ay j9).toInt64))) + (z * ((az j9).toInt64)))), (7, .int (nI j9)), (11, .long (((x * ((ax j9).toInt64)) + (y * ((ay j9).toInt64))) + (z * ((az j9).toInt64)))), (0, .ref (ba 5)), (1, .long x), (3, .long y), (5, .long z)]) 7 dX1_furthest_99 rfl (nI_1 _) (by decide) rfl ?_
            refine k_goto C 9 dX1_furthest_102 (by decide) ?_
            have e90_0 : (nI j9) = ((frN co (fun k => x * (ax k).toInt64 + y * (ay k).toInt64 + z * (az k).toInt64) (j9 + 1)).1) := by rw [frN, if_pos (by simp [h_1, h_2, h_3, h_4])]
            have e91_1 : (((x * ((ax j9).toInt64)) + (y * ((ay j9).toInt64))) + (z * ((az j9).toInt64))) = ((frN co (fun k => x * (ax k).toInt64 + y * (ay k).toInt64 + z * (az k).toInt64) (j9 + 1)).2) := by rw [frN, if_pos (by simp [h_1, h_2, h_3, h_4])]
            exact k_lv [4, 5, 6, 7, 2, 1, 0] (by rw [← e90_0, ← e91_1]; rfl) (ih9 (j9 + 1) (by omega) (by omega))
set_option maxHeartbeats 4000000 in
set_option maxRecDepth 100000 in
theorem h1_stepFrom (l : Launch) (D : va_G) (cI cJ cF cD : ClassId) {ba fa ra : Nat → Nat} {hb : Int32} {ps : Int32} {fc : Int32} {co : Int32} {asz : Int32} {sx : Int64} {tr : Nat} {pm : Nat → Nat} {xs : Nat → Int32} {ys : Nat → Int32} {zs : Nat → Int32} {ax : Nat → Int32} {ay : Nat → Int32} {az : Nat → Int32} {al : Nat → Int32} {el : Nat → Nat} {eh : Nat → Nat} {mo : Nat → Int64} {nx : Nat → Int64} {ny : Nat → Int64} {nz : Nat → Int64} {dd : Nat → Int64} {hd : Nat → Int32} {sz : Nat → Nat} {rn : Nat → Nat → Nat} {ne : Nat} (s9 : Int32) (hne : ne ≤ 66) : CtI l D (tyG cI cJ cF cD) yX1_stepFrom wsX1_stepFrom ({ frames := 0, cells := 0, slots := 0, locals := 0 }) [.ref (ba 5), .int s9] (wB ba fa ra cI cJ cF hb ps fc co (nI ne) asz sx tr pm xs ys zs ax ay az al el eh mo nx ny nz dd hd sz rn) (fun r w => r = (stpI el eh s9 ne) ∧ w = (wB ba fa ra cI cJ cF hb ps fc co (nI ne) asz sx tr pm xs ys zs ax ay az al el eh mo nx ny nz dd hd sz rn)) := by
  refine ctI_of (cc := cX1_stepFrom) (maxL := 5) (by decide) rfl (Nat.le_of_ble_eq_true rfl) ?_
  intro X hXl hXd C hret
  have lk0 : Cond.fieldLink RX1 112 "HullBuilder$Hull" "edgeCount" "I" ∈ wsX1_stepFrom := by decide +kernel
  have hinX1 : ∀ w ∈ wsX10, w ∈ wsX1_stepFrom := by decide +kernel
  have lk2 : Cond.fieldLink RX1 33 "HullBuilder$Hull" "edgeLow" "[I" ∈ wsX1_stepFrom := by decide +kernel
  have lk3 : Cond.fieldLink RX1 36 "HullBuilder$Hull" "edgeHigh" "[I" ∈ wsX1_stepFrom := by decide +kernel
  show Kw X 0 0 (wB ba fa ra cI cJ cF hb ps fc co (nI ne) asz sx tr pm xs ys zs ax ay az al el eh mo nx ny nz dd hd sz rn) 0 [(0, .ref (ba 5)), (1, .int s9)] []
  refine k_iload_n C 1 dX1_stepFrom_0 rfl rfl ?_
  refine k_istore_n C (lv' := [(2, .int s9), (0, .ref (ba 5)), (1, .int s9)]) dX1_stepFrom_1 rfl (by decide) rfl ?_
  refine k_iconst C (v := (nI 0)) dX1_stepFrom_2 (by decide) ?_
  refine k_istore_n C (lv' := [(3, .int (nI 0)), (2, .int s9), (0, .ref (ba 5)), (1, .int s9)]) dX1_stepFrom_3 rfl (by decide) rfl ?_
  suffices L4 : ∀ (n4 j4 : Nat), j4 ≤ ne → ne + 1 ≤ j4 + n4 → Kw X 0 0 (wB ba fa ra cI cJ cF hb ps fc co (nI ne) asz sx tr pm xs ys zs ax ay az al el eh mo nx ny nz dd hd sz rn) 4 [(0, .ref (ba 5)), (1, .int s9), (2, .int (stpI el eh s9 j4)), (3, .int (nI j4))] [] by
    have e5_0 : s9 = (stpI el eh s9 0) := rfl
    exact k_lv [2, 3, 1, 0] (by rw [← e5_0]; rfl) (L4 (ne + 1) 0 (by omega) (by omega))
  intro n4
  induction n4 with
  | zero => intro j4 a1 a2; exact absurd a2 (by omega)
  | succ n4 ih4 =>
    intro j4 b4 c4
    refine k_iload_n C 3 dX1_stepFrom_4 rfl rfl ?_
    refine k_aload_n C 0 dX1_stepFrom_5 rfl rfl ?_
    refine k_get C hinX1 5 8 rfl rfl (by decide) lk0 rfl rfl dX1_stepFrom_6 ?_
    refine k_icmp_geN C (by omega) (by omega) 49 dX1_stepFrom_9 (by decide) (fun h_1 => ?_) (fun h_1 => ?_)
    · refine k_iload_n C 2 dX1_stepFrom_49 rfl rfl ?_
      exact hret _ _ _ _ ⟨by rw [show j4 = ne by omega], rfl⟩ dX1_stepFrom_50
    · refine k_iconst C (v := (nI 1)) dX1_stepFrom_12 (by decide) ?_
      refine k_aload_n C 0 dX1_stepFrom_13 rfl rfl ?_
      refine k_get C hinX1 5 6 rfl rfl (by decide) lk2 rfl rfl dX1_stepFrom_14 ?_
      refine k_iload_n C 3 dX1_stepFrom_17 rfl rfl ?_
      refine k_ialdN C (j := j4) 12 0 rfl rfl (by omega) (by decide) dX1_stepFrom_18 ?_
      refine k_ishl C dX1_stepFrom_19 ?_
      refine k_iconst C (v := (nI 1)) dX1_stepFrom_20 (by decide) ?_
      refine k_aload_n C 0 dX1_stepFrom_21 rfl rfl ?_
      refine k_get C hinX1 5 7 rfl rfl (by decide) lk3 rfl rfl dX1_stepFrom_22 ?_
      refine k_iload_n C 3 dX1_stepFrom_25 rfl rfl ?_
      refine k_ialdN C (j := j4) 13 0 rfl rfl (by omega) (by decide) dX1_stepFrom_26 ?_
      refine k_ishl C dX1_stepFrom_27 ?_
      refine k_ior C dX1_stepFrom_28 ?_
      refine k_istore C (lv' := [(4, .int (((nI 1) <<< ((nI (el j4)) &&& 31)) ||| ((nI 1) <<< ((nI (eh j4)) &&& 31)))), (0, .ref (ba 5)), (1, .int s9), (2, .int (stpI el eh s9 j4)), (3, .int (nI j4))]) dX1_stepFrom_29 (by decide) rfl ?_
      refine k_iload_n C 2 dX1_stepFrom_31 rfl rfl ?_
      refine k_iload C 0 dX1_stepFrom_32 rfl ?_
      refine k_iand C dX1_stepFrom_34 ?_
      refine k_if_eq C 43 dX1_stepFrom_35 (by decide) (fun h_2 => ?_) (fun h_2 => ?_)
      · refine k_iinc C (v := (nI (j4 + 1))) (lv' := [(3, .int (nI (j4 + 1))), (4, .int (((nI 1) <<< ((nI (el j4)) &&& 31)) ||| ((nI 1) <<< ((nI (eh j4)) &&& 31)))), (0, .ref (ba 5)), (1, .int s9), (2, .int (stpI el eh s9 j4))]) 4 dX1_stepFrom_43 rfl (nI_1 _) (by decide) rfl ?_
        refine k_goto C 4 dX1_stepFrom_46 (by decide) ?_
        have e40_0 : (stpI el eh s9 j4) = (stpI el eh s9 (j4 + 1)) := by rw [stpI, if_pos (by assumption)]
        exact k_lv [2, 3, 4, 0] (by rw [← e40_0]; rfl) (ih4 (j4 + 1) (by omega) (by omega))
      · refine k_iload_n C 3 dX1_stepFrom_38 rfl rfl ?_
        refine k_iload C 0 dX1_stepFrom_39 rfl ?_
        refine k_ior C dX1_stepFrom_41 ?_
        refine k_istore_n C (lv' := [(2, .int ((stpI el eh s9 j4) ||| (((nI 1) <<< ((nI (el j4)) &&& 31)) ||| ((nI 1) <<< ((nI (eh j4)) &&& 31))))), (4, .int (((nI 1) <<< ((nI (el j4)) &&& 31)) ||| ((nI 1) <<< ((nI (eh j4)) &&& 31)))), (0, .ref (ba 5)), (1, .int s9), (3, .int (nI j4))]) dX1_stepFrom_42 rfl (by decide) rfl ?_
        refine k_iinc C (v := (nI (j4 + 1))) (lv' := [(3, .int (nI (j4 + 1))), (2, .int ((stpI el eh s9 j4) ||| (((nI 1) <<< ((nI (el j4)) &&& 31)) ||| ((nI 1) <<< ((nI (eh j4)) &&& 31))))), (4, .int (((nI 1) <<< ((nI (el j4)) &&& 31)) ||| ((nI 1) <<< ((nI (eh j4)) &&& 31)))), (0, .ref (ba 5)), (1, .int s9)]) 4 dX1_stepFrom_43 rfl (nI_1 _) (by decide) rfl ?_
        refine k_goto C 4 dX1_stepFrom_46 (by decide) ?_
        have e48_0 : ((stpI el eh s9 j4) ||| (((nI 1) <<< ((nI (el j4)) &&& 31)) ||| ((nI 1) <<< ((nI (eh j4)) &&& 31)))) = (stpI el eh s9 (j4 + 1)) := by rw [stpI, if_neg (by assumption)]; rfl
        exact k_lv [3, 4, 1, 0] (by rw [← e48_0]; rfl) (ih4 (j4 + 1) (by omega) (by omega))
set_option maxHeartbeats 4000000 in
set_option maxRecDepth 100000 in
theorem h1_walk (l : Launch) (D : va_G) (cI cJ cF cD : ClassId) {ba fa ra : Nat → Nat} {hb : Int32} {ps : Int32} {fc : Int32} {co : Int32} {asz : Int32} {sx : Int64} {tr : Nat} {pm : Nat → Nat} {xs : Nat → Int32} {ys : Nat → Int32} {zs : Nat → Int32} {ax : Nat → Int32} {ay : Nat → Int32} {az : Nat → Int32} {al : Nat → Int32} {el : Nat → Nat} {eh : Nat → Nat} {mo : Nat → Int64} {nx : Nat → Int64} {ny : Nat → Int64} {nz : Nat → Int64} {dd : Nat → Int64} {hd : Nat → Int32} {sz : Nat → Nat} {rn : Nat → Nat → Nat} {ne a b : Nat} (hne : ne ≤ 66) : CtI l D (tyG cI cJ cF cD) yX1_walk wsX1_walk ({ frames := 1, cells := 0, slots := 0, locals := 24 }) [.ref (ba 5), .int (nI a), .int (nI b)] (wB ba fa ra cI cJ cF hb ps fc co (nI ne) asz sx tr pm xs ys zs ax ay az al el eh mo nx ny nz dd hd sz rn) (fun r w => r = (wlI el eh ne (nI 1 <<< (nI a &&& 31)) b 25 0) ∧ w = (wB ba fa ra cI cJ cF hb ps fc co (nI ne) asz sx tr pm xs ys zs ax ay az al el eh mo nx ny nz dd hd sz rn)) := by
  refine ctI_of (cc := cX1_walk) (maxL := 5) (by decide) rfl (Nat.le_of_ble_eq_true rfl) ?_
  intro X hXl hXd C hret
  have lk0 : Cond.methodLinkNest RX1 101 yX3_holds "HullBuilder" ∈ kNW := by decide +kernel
  have lk1 : Cond.initialized RX3 ∈ wsX1_walk := by decide +kernel
  have lk2 : Cond.static yX3_holds ∈ wsX1_walk := by decide +kernel
  show Kw X 0 0 (wB ba fa ra cI cJ cF hb ps fc co (nI ne) asz sx tr pm xs ys zs ax ay az al el eh mo nx ny nz dd hd sz rn) 0 [(0, .ref (ba 5)), (1, .int (nI a)), (2, .int (nI b))] []
  refine k_iconst C (v := (nI 1)) dX1_walk_0 (by decide) ?_
  refine k_iload_n C 1 dX1_walk_1 rfl rfl ?_
  refine k_ishl C dX1_walk_2 ?_
  refine k_istore_n C (lv' := [(3, .int ((nI 1) <<< ((nI a) &&& 31))), (0, .ref (ba 5)), (1, .int (nI a)), (2, .int (nI b))]) dX1_walk_3 rfl (by decide) rfl ?_
  refine k_iconst C (v := (nI 0)) dX1_walk_4 (by decide) ?_
  refine k_istore C (lv' := [(4, .int (nI 0)), (3, .int ((nI 1) <<< ((nI a) &&& 31))), (0, .ref (ba 5)), (1, .int (nI a)), (2, .int (nI b))]) dX1_walk_5 (by decide) rfl ?_
  suffices L7 : ∀ (n7 j7 : Nat), j7 ≤ 24 → 24 + 1 ≤ j7 + n7 → wlI el eh ne (nI 1 <<< (nI a &&& 31)) b (25 - j7) j7 = wlI el eh ne (nI 1 <<< (nI a &&& 31)) b 25 0 → Kw X 0 0 (wB ba fa ra cI cJ cF hb ps fc co (nI ne) asz sx tr pm xs ys zs ax ay az al el eh mo nx ny nz dd hd sz rn) 7 [(0, .ref (ba 5)), (1, .int (nI a)), (2, .int (nI b)), (3, .int (reI el eh ne (nI 1 <<< (nI a &&& 31)) j7)), (4, .int (nI j7))] [] by
    have e7_0 : ((nI 1) <<< ((nI a) &&& 31)) = (reI el eh ne (nI 1 <<< (nI a &&& 31)) 0) := rfl
    exact k_lv [2, 3, 4, 1, 0] (by rw [← e7_0]; rfl) (L7 (24 + 1) 0 (by omega) (by omega) rfl)
  intro n7
  induction n7 with
  | zero => intro j7 a1 a2; exact absurd a2 (by omega)
  | succ n7 ih7 =>
    intro j7 b7 c7 g7_0
    refine k_iload C 4 dX1_walk_7 rfl ?_
    refine k_bipush C (v := (nI 24)) dX1_walk_9 (by decide) ?_
    refine k_icmp_geN C (by omega) (by omega) 37 dX1_walk_11 (by decide) (fun h_1 => ?_) (fun h_1 => ?_)
    · refine k_iconst C (v := (-1)) dX1_walk_37 (by decide) ?_
      exact hret _ _ _ _ ⟨by rw [← g7_0, show 25 - j7 = (25 - (j7 + 1)) + 1 by omega, wlI, if_neg (by omega)], rfl⟩ dX1_walk_38
    · refine k_iload_n C 3 dX1_walk_14 rfl rfl ?_
      refine k_iload_n C 2 dX1_walk_15 rfl rfl ?_
      refine k_callSNI C (ar := 2) (As := [.int (reI el eh ne (nI 1 <<< (nI a &&& 31)) j7), .int (nI b)]) (rest := []) (h3_holds (kxL X) (kxD X) cI cJ cF cD _ (reI el eh ne (nI 1 <<< (nI a &&& 31)) j7) b) ggX1_walk_X3_holds rfl rfl rfl lk0 lk1 lk2 (by decide +kernel) ⟨Nat.le_of_ble_eq_true rfl, Nat.le_of_ble_eq_true rfl⟩ rfl rfl (Nat.le_of_ble_eq_true rfl) dX1_walk_16 (Nat.zero_le _) (Nat.zero_le _) (fun r w hw => ?_)
      obtain ⟨rfl, rfl⟩ := hw
      refine k_if_eqB C 25 dX1_walk_19 (by decide) (fun h_2 => ?_) (fun h_2 => ?_)
      · refine k_aload_n C 0 dX1_walk_25 rfl rfl ?_
        refine k_iload_n C 3 dX1_walk_26 rfl rfl ?_
        refine k_callVI C (ar := 1) (As := [.int (reI el eh ne (nI 1 <<< (nI a &&& 31)) j7)]) (rest := []) (h1_stepFrom (kxL X) (kxD X) cI cJ cF cD (reI el eh ne (nI 1 <<< (nI a &&& 31)) j7) (by omega)) gX1_walk_X1_stepFrom rfl rfl rfl (by decide +kernel) ⟨Nat.le_of_ble_eq_true rfl, Nat.le_of_ble_eq_true rfl⟩ 5 rfl rfl rfl rfl (Nat.le_of_ble_eq_true rfl) dX1_walk_27 (Nat.zero_le _) (Nat.zero_le _) (fun r w hw => ?_)
        obtain ⟨rfl, rfl⟩ := hw
        refine k_istore_n C (lv' := [(3, .int (stpI el eh (reI el eh ne (nI 1 <<< (nI a &&& 31)) j7) ne)), (0, .ref (ba 5)), (1, .int (nI a)), (2, .int (nI b)), (4, .int (nI j7))]) dX1_walk_30 rfl (by decide) rfl ?_
        refine k_iinc C (v := (nI (j7 + 1))) (lv' := [(4, .int (nI (j7 + 1))), (3, .int (stpI el eh (reI el eh ne (nI 1 <<< (nI a &&& 31)) j7) ne)), (0, .ref (ba 5)), (1, .int (nI a)), (2, .int (nI b))]) 4 dX1_walk_31 rfl (nI_1 _) (by decide) rfl ?_
        refine k_goto C 7 dX1_walk_34 (by decide) ?_
        have e33_0 : (stpI el eh (reI el eh ne (nI 1 <<< (nI a &&& 31)) j7) ne) = (reI el eh ne (nI 1 <<< (nI a &&& 31)) (j7 + 1)) := rfl
        exact k_lv [2, 3, 4, 1, 0] (by rw [← e33_0]; rfl) (ih7 (j7 + 1) (by omega) (by omega) (by rw [← g7_0, show 25 - j7 = (25 - (j7 + 1)) + 1 by omega, wlI, if_pos (by omega), if_neg (Bool.eq_false_iff.mp h_2)]))
      · refine k_iload C 4 dX1_walk_22 rfl ?_
        exact hret _ _ _ _ ⟨by rw [← g7_0, show 25 - j7 = (25 - (j7 + 1)) + 1 by omega, wlI, if_pos (by omega), if_pos h_2], rfl⟩ dX1_walk_24
set_option maxHeartbeats 4000000 in
set_option maxRecDepth 100000 in
theorem h1_locate (l : Launch) (D : va_G) (cI cJ cF cD : ClassId) {ba fa ra : Nat → Nat} {hb : Int32} {ps : Int32} {co : Int32} {ec : Int32} {asz : Int32} {sx : Int64} {tr : Nat} {pm : Nat → Nat} {xs : Nat → Int32} {ys : Nat → Int32} {zs : Nat → Int32} {ax : Nat → Int32} {ay : Nat → Int32} {az : Nat → Int32} {al : Nat → Int32} {el : Nat → Nat} {eh : Nat → Nat} {mo : Nat → Int64} {nx : Nat → Int64} {ny : Nat → Int64} {nz : Nat → Int64} {dd : Nat → Int64} {hd : Nat → Int32} {sz : Nat → Nat} {rn : Nat → Nat → Nat} {nf : Nat} (x y z : Int32) (hnf : nf ≤ 44) (hpm : ∀ x, pm x < 45) : CtI l D (tyG cI cJ cF cD) yX1_locate wsX1_locate ({ frames := 1, cells := 0, slots := 0, locals := 26 }) [.ref (ba 5), .int x, .int y, .int z] (wB ba fa ra cI cJ cF hb ps (nI nf) co ec asz sx tr pm xs ys zs ax ay az al el eh mo nx ny nz dd hd sz rn) (fun r w => r = (lcI (fun f => htL (nx (pm f)) (ny (pm f)) (nz (pm f)) (dd (pm f)) x.toInt64 y.toInt64 z.toInt64) nf (nf + 1) 0 1) ∧ w = (wB ba fa ra cI cJ cF hb ps (nI nf) co ec asz sx tr pm xs ys zs ax ay az al el eh mo nx ny nz dd hd sz rn)) := by
  refine ctI_of (cc := cX1_locate) (maxL := 8) (by decide) rfl (Nat.le_of_ble_eq_true rfl) ?_
  intro X hXl hXd C hret
  have lk0 : Cond.fieldLink RX1 65 "HullBuilder$Hull" "faceCount" "I" ∈ wsX1_locate := by decide +kernel
  have hinX1 : ∀ w ∈ wsX10, w ∈ wsX1_locate := by decide +kernel
  have lk2 : Cond.fieldLink RX1 20 "HullBuilder$Hull" "faces" "[LHullBuilder$Face;" ∈ wsX1_locate := by decide +kernel
  have lk3 : Cond.methodLinkNest RX1 152 yX0_heightOf "HullBuilder" ∈ kNW := by decide +kernel
  have lk4 : Cond.initialized RX0 ∈ wsX1_locate := by decide +kernel
  have lk5 : Cond.instanceMethod yX0_heightOf ∈ wsX1_locate := by decide +kernel
  have lk6 : Cond.selects RX0 yX0_heightOf yX0_heightOf ∈ wsX1_locate := by decide +kernel
  show Kw X 0 0 (wB ba fa ra cI cJ cF hb ps (nI nf) co ec asz sx tr pm xs ys zs ax ay az al el eh mo nx ny nz dd hd sz rn) 0 [(0, .ref (ba 5)), (1, .int x), (2, .int y), (3, .int z)] []
  refine k_iconst C (v := (nI 1)) dX1_locate_0 (by decide) ?_
  refine k_istore C (lv' := [(4, .int (nI 1)), (0, .ref (ba 5)), (1, .int x), (2, .int y), (3, .int z)]) dX1_locate_1 (by decide) rfl ?_
  refine k_iconst C (v := (nI 0)) dX1_locate_3 (by decide) ?_
  refine k_istore C (lv' := [(5, .int (nI 0)), (4, .int (nI 1)), (0, .ref (ba 5)), (1, .int x), (2, .int y), (3, .int z)]) dX1_locate_4 (by decide) rfl ?_
  suffices L6 : ∀ (n6 j6 : Nat) (r9 : Int32), j6 ≤ nf → nf + 1 ≤ j6 + n6 → lcI (fun f => htL (nx (pm f)) (ny (pm f)) (nz (pm f)) (dd (pm f)) x.toInt64 y.toInt64 z.toInt64) nf (nf + 1 - j6) j6 r9 = lcI (fun f => htL (nx (pm f)) (ny (pm f)) (nz (pm f)) (dd (pm f)) x.toInt64 y.toInt64 z.toInt64) nf (nf + 1) 0 1 → Kw X 0 0 (wB ba fa ra cI cJ cF hb ps (nI nf) co ec asz sx tr pm xs ys zs ax ay az al el eh mo nx ny nz dd hd sz rn) 6 [(0, .ref (ba 5)), (1, .int x), (2, .int y), (3, .int z), (4, .int r9), (5, .int (nI j6))] [] by
    exact k_lv [2, 3, 4, 5, 1, 0] rfl (L6 (nf + 1) 0 (nI 1) (by omega) (by omega) rfl)
  intro n6
  induction n6 with
  | zero => intro j6 r9 a1 a2; exact absurd a2 (by omega)
  | succ n6 ih6 =>
    intro j6 r9 b6 c6 g6_0
    refine k_iload C 5 dX1_locate_6 rfl ?_
    refine k_aload_n C 0 dX1_locate_8 rfl rfl ?_
    refine k_get C hinX1 5 3 rfl rfl (by decide) lk0 rfl rfl dX1_locate_9 ?_
    refine k_icmp_geN C (by omega) (by omega) 58 dX1_locate_12 (by decide) (fun h_1 => ?_) (fun h_1 => ?_)
    · refine k_iload C 4 dX1_locate_58 rfl ?_
      exact hret _ _ _ _ ⟨by rw [← g6_0, show nf + 1 - j6 = (nf + 1 - (j6 + 1)) + 1 by omega, lcI, if_neg (by omega)], rfl⟩ dX1_locate_60
    · refine k_aload_n C 0 dX1_locate_15 rfl rfl ?_
      refine k_get C hinX1 5 1 rfl rfl (by decide) lk2 rfl rfl dX1_locate_16 ?_
      refine k_iload C 5 dX1_locate_19 rfl ?_
      refine k_aald C (j := j6) 10 2 rfl rfl (by omega) (by decide) rfl dX1_locate_21 ?_
      refine k_iload_n C 1 dX1_locate_22 rfl rfl ?_
      refine k_i2l C dX1_locate_23 ?_
      refine k_iload_n C 2 dX1_locate_24 rfl rfl ?_
      refine k_i2l C dX1_locate_25 ?_
      refine k_iload_n C 3 dX1_locate_26 rfl rfl ?_
      refine k_i2l C dX1_locate_27 ?_
      refine k_callVNL C (ar := 3) (As := [.long x.toInt64, .long y.toInt64, .long z.toInt64]) (rest := []) (h0_heightOf (kxL X) (kxD X) cI cJ cF cD x.toInt64 y.toInt64 z.toInt64 (hpm _)) ggX1_locate_X0_heightOf rfl rfl rfl lk3 lk4 lk5 lk6 (by decide +kernel) ⟨Nat.le_of_ble_eq_true rfl, Nat.le_of_ble_eq_true rfl⟩ (15 + (pm j6)) (wB_f (hpm _)) rfl rfl rfl (Nat.le_of_ble_eq_true rfl) dX1_locate_28 (Nat.zero_le _) (Nat.zero_le _) (fun r w hw => ?_)
      obtain ⟨rfl, rfl⟩ := hw
      refine k_lstore C (lv' := [(6, .long (htL (nx (pm j6)) (ny (pm j6)) (nz (pm j6)) (dd (pm j6)) x.toInt64 y.toInt64 z.toInt64)), (0, .ref (ba 5)), (1, .int x), (2, .int y), (3, .int z), (4, .int r9), (5, .int (nI j6))]) dX1_locate_31 (by decide) rfl ?_
      refine k_lload C 0 dX1_locate_33 rfl ?_
      refine k_lconst C (v := 0) dX1_locate_35 (by decide) ?_
      refine k_lc_le C 42 dX1_locate_36 dX1_locate_37 (by decide) (fun h_2 => ?_) (fun h_2 => ?_)
      · refine k_lload C 0 dX1_locate_42 rfl ?_
        refine k_lconst C (v := 0) dX1_locate_44 (by decide) ?_
        refine k_lc_ne C 52 dX1_locate_45 dX1_locate_46 (by decide) (fun h_3 => ?_) (fun h_3 => ?_)
        · refine k_iinc C (v := (nI (j6 + 1))) (lv' := [(5, .int (nI (j6 + 1))), (6, .long (htL (nx (pm j6)) (ny (pm j6)) (nz (pm j6)) (dd (pm j6)) x.toInt64 y.toInt64 z.toInt64)), (0, .ref (ba 5)), (1, .int x), (2, .int y), (3, .int z), (4, .int r9)]) 6 dX1_locate_52 rfl (nI_1 _) (by decide) rfl ?_
          refine k_goto C 6 dX1_locate_55 (by decide) ?_
          exact k_lv [2, 3, 4, 5, 6, 0] rfl (ih6 (j6 + 1) r9 (by omega) (by omega) (by rw [← g6_0, show nf + 1 - j6 = (nf + 1 - (j6 + 1)) + 1 by omega, lcI, if_pos (by omega), if_neg h_2, if_neg h_3]))
        · refine k_iconst C (v := (nI 0)) dX1_locate_49 (by decide) ?_
          refine k_istore C (lv' := [(4, .int (nI 0)), (6, .long (htL (nx (pm j6)) (ny (pm j6)) (nz (pm j6)) (dd (pm j6)) x.toInt64 y.toInt64 z.toInt64)), (0, .ref (ba 5)), (1, .int x), (2, .int y), (3, .int z), (5, .int (nI j6))]) dX1_locate_50 (by decide) rfl ?_
          refine k_iinc C (v := (nI (j6 + 1))) (lv' := [(5, .int (nI (j6 + 1))), (4, .int (nI 0)), (6, .long (htL (nx (pm j6)) (ny (pm j6)) (nz (pm j6)) (dd (pm j6)) x.toInt64 y.toInt64 z.toInt64)), (0, .ref (ba 5)), (1, .int x), (2, .int y), (3, .int z)]) 6 dX1_locate_52 rfl (nI_1 _) (by decide) rfl ?_
          refine k_goto C 6 dX1_locate_55 (by decide) ?_
          exact k_lv [3, 4, 5, 6, 1, 0] rfl (ih6 (j6 + 1) (nI 0) (by omega) (by omega) (by rw [← g6_0, show nf + 1 - j6 = (nf + 1 - (j6 + 1)) + 1 by omega, lcI, if_pos (by omega), if_neg h_2, if_pos h_3]; rfl))
      · refine k_iconst C (v := (-1)) dX1_locate_40 (by decide) ?_
        exact hret _ _ _ _ ⟨by rw [← g6_0, show nf + 1 - j6 = (nf + 1 - (j6 + 1)) + 1 by omega, lcI, if_pos (by omega), if_pos h_2], rfl⟩ dX1_locate_41
