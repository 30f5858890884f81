/-! ===== the class: its contracts ===== -/
set_option maxHeartbeats 4000000 in
set_option maxRecDepth 100000 in
theorem h3_of (l : Launch) (D : va_G) (cI cJ cF cD : ClassId) (htr9 : l.stackTraces = false) {ba fa ra : Nat → Nat} {hb : Int32} {co : Int32} {sx : Int64} {tr : Nat} {pm : Nat → Nat} {xs : Nat → Int32} {ys : Nat → Int32} {zs : Nat → Int32} {ax : Nat → Int32} {ay : Nat → Int32} {az : Nat → Int32} {al : Nat → Int32} {el : Nat → Nat} {eh : Nat → Nat} {mo : Nat → Int64} {nx : Nat → Int64} {ny : Nat → Int64} {nz : Nat → Int64} {dd : Nat → Int64} {hd : Nat → Int32} {sz : Nat → Nat} {rn : Nat → Nat → Nat} {nf nh ne np : Nat} (q wh : Int32) (hnf : nf ≤ 44) (hh : nh ≤ 24) (hne : ne ≤ 66) (hnp : np ≤ 24) (hpm : ∀ x, pm x < 45) (hrn : ∀ x k, rn x k < 24) (hsz : ∀ x, sz x ≤ 24) (hel : ∀ x, el x < 24) (heh : ∀ x, eh x < 24) : CxI l D (tyG cI cJ cF cD) yX3_of wsX3_of ({ frames := 7, cells := 2, slots := 12, locals := 111 }) [.ref (ba 0), .int q, .int wh] (wB ba fa ra cI cJ cF hb (nI np) (nI nf) co (nI ne) (nI nh) sx tr pm xs ys zs ax ay az al el eh mo nx ny nz dd hd sz rn) (fun r w => (rngB np q && rngB 3 wh) = true ∧ r = (ofV xs ys zs q.toNatClampNeg wh.toNatClampNeg) ∧ w = (wB ba fa ra cI cJ cF hb (nI np) (nI nf) co (nI ne) (nI nh) sx tr pm xs ys zs ax ay az al el eh mo nx ny nz dd hd sz rn)) (fun E w => (E = eIB ∧ (rngB np q && rngB 3 wh) = false) ∧ w = (wB ba fa ra cI cJ cF hb (nI np) (nI nf) co (nI ne) (nI nh) sx tr pm xs ys zs ax ay az al el eh mo nx ny nz dd hd sz rn)) 2 12 := by
  refine cxI_of (cc := cX3_of) (maxL := 3) htr9 (by decide) rfl (Nat.le_of_ble_eq_true rfl) ?_
  intro X hXl hXd C TX hret hout hthr
  have lk0 : Cond.fieldLink RX3 12 "HullBuilder" "points" "LHullBuilder$Points;" ∈ wsX3_of := by decide +kernel
  have hinX3 : ∀ w ∈ wsX30, w ∈ wsX3_of := by decide +kernel
  have lk2 : Cond.fieldLinkNest RX3 42 "HullBuilder$Points" "size" "I" "HullBuilder" ∈ kNW := by decide +kernel
  have hinX2 : ∀ w ∈ wsX20, w ∈ wsX3_of := by decide +kernel
  have lk4 : Cond.methodLinkNest RX3 75 yX2_coordinate "HullBuilder" ∈ kNW := by decide +kernel
  have lk5 : Cond.initialized RX2 ∈ wsX3_of := by decide +kernel
  have lk6 : Cond.instanceMethod yX2_coordinate ∈ wsX3_of := by decide +kernel
  have lk7 : Cond.selects RX2 yX2_coordinate yX2_coordinate ∈ wsX3_of := by decide +kernel
  show Kw X 0 0 (wB ba fa ra cI cJ cF hb (nI np) (nI nf) co (nI ne) (nI nh) sx tr pm xs ys zs ax ay az al el eh mo nx ny nz dd hd sz rn) 0 [(0, .ref (ba 0)), (1, .int q), (2, .int wh)] []
  refine k_iload_n C 1 dX3_of_0 rfl rfl ?_
  refine k_aload_n C 0 dX3_of_1 rfl rfl ?_
  refine k_get C hinX3 0 0 rfl rfl (by decide) lk0 rfl rfl dX3_of_2 ?_
  refine k_getN C hinX2 1 3 rfl rfl (by decide) lk2 rfl rfl dX3_of_5 ?_
  refine kx_callSV C TX (ar := 2) (As := [.int q, .int (nI np)]) (rest := []) (h3_requirePlace (kxL X) (kxD X) cI cJ cF cD TX.2.2 _ q np) gX3_of_X3_requirePlace rfl rfl rfl (by decide +kernel) ⟨Nat.le_of_ble_eq_true rfl, Nat.le_of_ble_eq_true rfl⟩ rfl rfl (Nat.le_of_ble_eq_true rfl) dX3_of_8 (Nat.le_of_ble_eq_true rfl) (Nat.le_of_ble_eq_true rfl) (fun E w hx => hout _ _ _ _ _ _ (by obtain ⟨rfl, hc, rfl⟩ := hx; exact ⟨⟨rfl, by simp [hc]⟩, rfl⟩) (Nat.le_of_ble_eq_true rfl) (Nat.le_of_ble_eq_true rfl)) (fun w hw => ?_)
  obtain ⟨h_1, rfl⟩ := hw
  obtain ⟨jq, hjq, eq, cq⟩ := rngB_t (by omega) h_1
  refine k_iload_n C 2 dX3_of_11 rfl rfl ?_
  refine k_iconst C (v := (nI 3)) dX3_of_12 (by decide) ?_
  refine kx_callSV C TX (ar := 2) (As := [.int wh, .int (nI 3)]) (rest := []) (h3_requirePlace (kxL X) (kxD X) cI cJ cF cD TX.2.2 _ wh 3) gX3_of_X3_requirePlace rfl rfl rfl (by decide +kernel) ⟨Nat.le_of_ble_eq_true rfl, Nat.le_of_ble_eq_true rfl⟩ rfl rfl (Nat.le_of_ble_eq_true rfl) dX3_of_13 (Nat.le_of_ble_eq_true rfl) (Nat.le_of_ble_eq_true rfl) (fun E w hx => hout _ _ _ _ _ _ (by obtain ⟨rfl, hc, rfl⟩ := hx; exact ⟨⟨rfl, by simp [hc, h_1]⟩, rfl⟩) (Nat.le_of_ble_eq_true rfl) (Nat.le_of_ble_eq_true rfl)) (fun w hw => ?_)
  obtain ⟨h_2, rfl⟩ := hw
  obtain ⟨jw, hjw, ew, cw⟩ := rngB_t (by omega) h_2
  refine k_aload_n C 0 dX3_of_16 rfl rfl ?_
  refine k_get C hinX3 0 0 rfl rfl (by decide) lk0 rfl rfl dX3_of_17 ?_
  refine k_iload_n C 1 dX3_of_20 rfl rfl ?_
  refine k_topi (nI jq) eq ?_
  refine k_iload_n C 2 dX3_of_21 rfl rfl ?_
  refine k_topi (nI jw) ew ?_
  refine k_callVNI C (ar := 2) (As := [.int (nI jq), .int (nI jw)]) (rest := []) (h2_coordinate (kxL X) (kxD X) cI cJ cF cD (by omega) (by omega) (by omega)) ggX3_of_X2_coordinate rfl rfl rfl lk4 lk5 lk6 lk7 (by decide +kernel) ⟨Nat.le_of_ble_eq_true rfl, Nat.le_of_ble_eq_true rfl⟩ 1 rfl rfl rfl rfl (Nat.le_of_ble_eq_true rfl) dX3_of_22 (Nat.le_of_ble_eq_true rfl) (Nat.le_of_ble_eq_true rfl) (fun r w hw => ?_)
  obtain ⟨rfl, rfl⟩ := hw
  exact hret _ _ _ _ _ _ (⟨by simp [h_1, h_2], by rw [cq, cw], rfl⟩) (Nat.le_of_ble_eq_true rfl) (Nat.le_of_ble_eq_true rfl) dX3_of_25
set_option maxHeartbeats 4000000 in
set_option maxRecDepth 100000 in
theorem h3_face (l : Launch) (D : va_G) (cI cJ cF cD : ClassId) (htr9 : l.stackTraces = false) {ba fa ra : Nat → Nat} {hb : Int32} {co : Int32} {sx : Int64} {tr : Nat} {pm : Nat → Nat} {xs : Nat → Int32} {ys : Nat → Int32} {zs : Nat → Int32} {ax : Nat → Int32} {ay : Nat → Int32} {az : Nat → Int32} {al : Nat → Int32} {el : Nat → Nat} {eh : Nat → Nat} {mo : Nat → Int64} {nx : Nat → Int64} {ny : Nat → Int64} {nz : Nat → Int64} {dd : Nat → Int64} {hd : Nat → Int32} {sz : Nat → Nat} {rn : Nat → Nat → Nat} {nf nh ne np : Nat} (q wh : Int32) (hnf : nf ≤ 44) (hh : nh ≤ 24) (hne : ne ≤ 66) (hnp : np ≤ 24) (hpm : ∀ x, pm x < 45) (hrn : ∀ x k, rn x k < 24) (hsz : ∀ x, sz x ≤ 24) (hel : ∀ x, el x < 24) (heh : ∀ x, eh x < 24) : CxI l D (tyG cI cJ cF cD) yX3_face wsX3_face ({ frames := 7, cells := 3, slots := 18, locals := 111 }) [.ref (ba 0), .int q, .int wh] (wB ba fa ra cI cJ cF hb (nI np) (nI nf) co (nI ne) (nI nh) sx tr pm xs ys zs ax ay az al el eh mo nx ny nz dd hd sz rn) (fun r w => (nf ≠ 0 ∧ (rngB nf q && rngB 4 wh) = true) ∧ r = (fcC nx ny nz sz (pm q.toNatClampNeg) wh.toNatClampNeg) ∧ w = (wB ba fa ra cI cJ cF hb (nI np) (nI nf) co (nI ne) (nI nh) sx tr pm xs ys zs ax ay az al el eh mo nx ny nz dd hd sz rn)) (fun E w => ((E = eIS ∧ nf = 0) ∨ (E = eIB ∧ nf ≠ 0 ∧ (rngB nf q && rngB 4 wh) = false)) ∧ w = (wB ba fa ra cI cJ cF hb (nI np) (nI nf) co (nI ne) (nI nh) sx tr pm xs ys zs ax ay az al el eh mo nx ny nz dd hd sz rn)) 3 18 := by
  refine cxI_of (cc := cX3_face) (maxL := 4) htr9 (by decide) rfl (Nat.le_of_ble_eq_true rfl) ?_
  intro X hXl hXd C TX hret hout hthr
  have lk0 : Cond.fieldLink RX3 19 "HullBuilder" "hull" "LHullBuilder$Hull;" ∈ wsX3_face := by decide +kernel
  have hinX3 : ∀ w ∈ wsX30, w ∈ wsX3_face := by decide +kernel
  have lk2 : Cond.fieldLinkNest RX3 72 "HullBuilder$Hull" "faceCount" "I" "HullBuilder" ∈ kNW := by decide +kernel
  have hinX1 : ∀ w ∈ wsX10, w ∈ wsX3_face := by decide +kernel
  have lk4 : Cond.fieldLinkNest RX3 82 "HullBuilder$Hull" "faces" "[LHullBuilder$Face;" "HullBuilder" ∈ kNW := by decide +kernel
  have lk5 : Cond.fieldLinkNest RX3 86 "HullBuilder$Face" "size" "I" "HullBuilder" ∈ kNW := by decide +kernel
  have hinX0 : ∀ w ∈ wsX00, w ∈ wsX3_face := by decide +kernel
  have lk7 : Cond.fieldLinkNest RX3 89 "HullBuilder$Face" "nx" "J" "HullBuilder" ∈ kNW := by decide +kernel
  have lk8 : Cond.fieldLinkNest RX3 93 "HullBuilder$Face" "ny" "J" "HullBuilder" ∈ kNW := by decide +kernel
  have lk9 : Cond.fieldLinkNest RX3 96 "HullBuilder$Face" "nz" "J" "HullBuilder" ∈ kNW := by decide +kernel
  show Kw X 0 0 (wB ba fa ra cI cJ cF hb (nI np) (nI nf) co (nI ne) (nI nh) sx tr pm xs ys zs ax ay az al el eh mo nx ny nz dd hd sz rn) 0 [(0, .ref (ba 0)), (1, .int q), (2, .int wh)] []
  refine k_aload_n C 0 dX3_face_0 rfl rfl ?_
  refine kx_callVV C TX (ar := 0) (As := []) (rest := []) (h3_requireHull (kxL X) (kxD X) cI cJ cF cD TX.2.2 hnf) gX3_face_X3_requireHull rfl rfl rfl (by decide +kernel) ⟨Nat.le_of_ble_eq_true rfl, Nat.le_of_ble_eq_true rfl⟩ 0 rfl rfl rfl rfl (Nat.le_of_ble_eq_true rfl) dX3_face_1 (Nat.le_of_ble_eq_true rfl) (Nat.le_of_ble_eq_true rfl) (fun E w hx => hout _ _ _ _ _ _ (by obtain ⟨rfl, hc, rfl⟩ := hx; exact ⟨Or.inl ⟨rfl, hc⟩, rfl⟩) (Nat.le_of_ble_eq_true rfl) (Nat.le_of_ble_eq_true rfl)) (fun w hw => ?_)
  obtain ⟨h_1, rfl⟩ := hw
  refine k_iload_n C 1 dX3_face_4 rfl rfl ?_
  refine k_aload_n C 0 dX3_face_5 rfl rfl ?_
  refine k_get C hinX3 0 1 rfl rfl (by decide) lk0 rfl rfl dX3_face_6 ?_
  refine k_getN C hinX1 5 3 rfl rfl (by decide) lk2 rfl rfl dX3_face_9 ?_
  refine kx_callSV C TX (ar := 2) (As := [.int q, .int (nI nf)]) (rest := []) (h3_requirePlace (kxL X) (kxD X) cI cJ cF cD TX.2.2 _ q nf) gX3_face_X3_requirePlace rfl rfl rfl (by decide +kernel) ⟨Nat.le_of_ble_eq_true rfl, Nat.le_of_ble_eq_true rfl⟩ rfl rfl (Nat.le_of_ble_eq_true rfl) dX3_face_12 (Nat.le_of_ble_eq_true rfl) (Nat.le_of_ble_eq_true rfl) (fun E w hx => hout _ _ _ _ _ _ (by obtain ⟨rfl, hc, rfl⟩ := hx; exact ⟨Or.inr ⟨rfl, h_1, by simp [hc]⟩, rfl⟩) (Nat.le_of_ble_eq_true rfl) (Nat.le_of_ble_eq_true rfl)) (fun w hw => ?_)
  obtain ⟨h_2, rfl⟩ := hw
  obtain ⟨jq, hjq, eq, cq⟩ := rngB_t (by omega) h_2
  refine k_iload_n C 2 dX3_face_15 rfl rfl ?_
  refine k_iconst C (v := (nI 4)) dX3_face_16 (by decide) ?_
  refine kx_callSV C TX (ar := 2) (As := [.int wh, .int (nI 4)]) (rest := []) (h3_requirePlace (kxL X) (kxD X) cI cJ cF cD TX.2.2 _ wh 4) gX3_face_X3_requirePlace rfl rfl rfl (by decide +kernel) ⟨Nat.le_of_ble_eq_true rfl, Nat.le_of_ble_eq_true rfl⟩ rfl rfl (Nat.le_of_ble_eq_true rfl) dX3_face_17 (Nat.le_of_ble_eq_true rfl) (Nat.le_of_ble_eq_true rfl) (fun E w hx => hout _ _ _ _ _ _ (by obtain ⟨rfl, hc, rfl⟩ := hx; exact ⟨Or.inr ⟨rfl, h_1, by simp [hc, h_2]⟩, rfl⟩) (Nat.le_of_ble_eq_true rfl) (Nat.le_of_ble_eq_true rfl)) (fun w hw => ?_)
  obtain ⟨h_3, rfl⟩ := hw
  obtain ⟨jw, hjw, ew, cw⟩ := rngB_t (by omega) h_3
  refine k_aload_n C 0 dX3_face_20 rfl rfl ?_
  refine k_get C hinX3 0 1 rfl rfl (by decide) lk0 rfl rfl dX3_face_21 ?_
  refine k_getN C hinX1 5 1 rfl rfl (by decide) lk4 rfl rfl dX3_face_24 ?_
  refine k_iload_n C 1 dX3_face_27 rfl rfl ?_
  refine k_topi (nI jq) eq ?_
  refine k_aald C (j := jq) 10 2 rfl rfl (by omega) (by decide) rfl dX3_face_28 ?_
  refine k_astore_n C (lv' := [(3, .ref (fa (pm jq))), (0, .ref (ba 0)), (1, .int q), (2, .int wh)]) dX3_face_29 rfl (by decide) rfl ?_
  refine k_iload_n C 3 dX3_face_30 rfl rfl ?_
  refine k_topi (nI jw) ew ?_
  rcases (show jw = 0 ∨ jw = 1 ∨ jw = 2 ∨ jw = 3 by omega) with hsw | hsw | hsw | hsw
  · refine k_topi (nI 0) (by rw [hsw]) ?_
    refine k_tableIn C 56 dX3_face_31 (by decide) (by decide) rfl (by decide) ?_
    refine k_aload_n C 0 dX3_face_56 rfl rfl ?_
    refine k_getN C hinX0 (15 + (pm jq)) 6 (wB_f (hpm _)) rfl (by decide) lk5 rfl rfl dX3_face_57 ?_
    exact hret _ _ _ _ _ _ (⟨⟨h_1, by simp [h_2, h_3]⟩, by rw [cq, cw]; simp [fcC, hsw], rfl⟩) (Nat.le_of_ble_eq_true rfl) (Nat.le_of_ble_eq_true rfl) dX3_face_60
  · refine k_topi (nI 1) (by rw [hsw]) ?_
    refine k_tableIn C 61 dX3_face_31 (by decide) (by decide) rfl (by decide) ?_
    refine k_aload_n C 0 dX3_face_61 rfl rfl ?_
    refine k_getN C hinX0 (15 + (pm jq)) 0 (wB_f (hpm _)) rfl (by decide) lk7 rfl rfl dX3_face_62 ?_
    refine k_l2i C dX3_face_65 ?_
    exact hret _ _ _ _ _ _ (⟨⟨h_1, by simp [h_2, h_3]⟩, by rw [cq, cw]; simp [fcC, hsw], rfl⟩) (Nat.le_of_ble_eq_true rfl) (Nat.le_of_ble_eq_true rfl) dX3_face_66
  · refine k_topi (nI 2) (by rw [hsw]) ?_
    refine k_tableIn C 67 dX3_face_31 (by decide) (by decide) rfl (by decide) ?_
    refine k_aload_n C 0 dX3_face_67 rfl rfl ?_
    refine k_getN C hinX0 (15 + (pm jq)) 1 (wB_f (hpm _)) rfl (by decide) lk8 rfl rfl dX3_face_68 ?_
    refine k_l2i C dX3_face_71 ?_
    exact hret _ _ _ _ _ _ (⟨⟨h_1, by simp [h_2, h_3]⟩, by rw [cq, cw]; simp [fcC, hsw], rfl⟩) (Nat.le_of_ble_eq_true rfl) (Nat.le_of_ble_eq_true rfl) dX3_face_72
  · refine k_topi (nI 3) (by rw [hsw]) ?_
    refine k_tableOut C 73 dX3_face_31 (by decide) (by decide) ?_
    refine k_aload_n C 0 dX3_face_73 rfl rfl ?_
    refine k_getN C hinX0 (15 + (pm jq)) 2 (wB_f (hpm _)) rfl (by decide) lk9 rfl rfl dX3_face_74 ?_
    refine k_l2i C dX3_face_77 ?_
    exact hret _ _ _ _ _ _ (⟨⟨h_1, by simp [h_2, h_3]⟩, by rw [cq, cw]; simp [fcC, hsw], rfl⟩) (Nat.le_of_ble_eq_true rfl) (Nat.le_of_ble_eq_true rfl) dX3_face_78
set_option maxHeartbeats 4000000 in
set_option maxRecDepth 100000 in
theorem h3_offset (l : Launch) (D : va_G) (cI cJ cF cD : ClassId) (htr9 : l.stackTraces = false) {ba fa ra : Nat → Nat} {hb : Int32} {co : Int32} {sx : Int64} {tr : Nat} {pm : Nat → Nat} {xs : Nat → Int32} {ys : Nat → Int32} {zs : Nat → Int32} {ax : Nat → Int32} {ay : Nat → Int32} {az : Nat → Int32} {al : Nat → Int32} {el : Nat → Nat} {eh : Nat → Nat} {mo : Nat → Int64} {nx : Nat → Int64} {ny : Nat → Int64} {nz : Nat → Int64} {dd : Nat → Int64} {hd : Nat → Int32} {sz : Nat → Nat} {rn : Nat → Nat → Nat} {nf nh ne np : Nat} (q : Int32) (hnf : nf ≤ 44) (hh : nh ≤ 24) (hne : ne ≤ 66) (hnp : np ≤ 24) (hpm : ∀ x, pm x < 45) (hrn : ∀ x k, rn x k < 24) (hsz : ∀ x, sz x ≤ 24) (hel : ∀ x, el x < 24) (heh : ∀ x, eh x < 24) : CxL l D (tyG cI cJ cF cD) yX3_offset wsX3_offset ({ frames := 7, cells := 2, slots := 12, locals := 111 }) [.ref (ba 0), .int q] (wB ba fa ra cI cJ cF hb (nI np) (nI nf) co (nI ne) (nI nh) sx tr pm xs ys zs ax ay az al el eh mo nx ny nz dd hd sz rn) (fun r w => (nf ≠ 0 ∧ (rngB nf q) = true) ∧ r = (dd (pm q.toNatClampNeg)) ∧ w = (wB ba fa ra cI cJ cF hb (nI np) (nI nf) co (nI ne) (nI nh) sx tr pm xs ys zs ax ay az al el eh mo nx ny nz dd hd sz rn)) (fun E w => ((E = eIS ∧ nf = 0) ∨ (E = eIB ∧ nf ≠ 0 ∧ (rngB nf q) = false)) ∧ w = (wB ba fa ra cI cJ cF hb (nI np) (nI nf) co (nI ne) (nI nh) sx tr pm xs ys zs ax ay az al el eh mo nx ny nz dd hd sz rn)) 2 12 := by
  refine cxL_of (cc := cX3_offset) (maxL := 2) htr9 (by decide) rfl (Nat.le_of_ble_eq_true rfl) ?_
  intro X hXl hXd C TX hret hout hthr
  have lk0 : Cond.fieldLink RX3 19 "HullBuilder" "hull" "LHullBuilder$Hull;" ∈ wsX3_offset := by decide +kernel
  have hinX3 : ∀ w ∈ wsX30, w ∈ wsX3_offset := by decide +kernel
  have lk2 : Cond.fieldLinkNest RX3 72 "HullBuilder$Hull" "faceCount" "I" "HullBuilder" ∈ kNW := by decide +kernel
  have hinX1 : ∀ w ∈ wsX10, w ∈ wsX3_offset := by decide +kernel
  have lk4 : Cond.fieldLinkNest RX3 82 "HullBuilder$Hull" "faces" "[LHullBuilder$Face;" "HullBuilder" ∈ kNW := by decide +kernel
  have lk5 : Cond.fieldLinkNest RX3 99 "HullBuilder$Face" "distance" "J" "HullBuilder" ∈ kNW := by decide +kernel
  have hinX0 : ∀ w ∈ wsX00, w ∈ wsX3_offset := by decide +kernel
  show Kw X 0 0 (wB ba fa ra cI cJ cF hb (nI np) (nI nf) co (nI ne) (nI nh) sx tr pm xs ys zs ax ay az al el eh mo nx ny nz dd hd sz rn) 0 [(0, .ref (ba 0)), (1, .int q)] []
  refine k_aload_n C 0 dX3_offset_0 rfl rfl ?_
  refine kx_callVV C TX (ar := 0) (As := []) (rest := []) (h3_requireHull (kxL X) (kxD X) cI cJ cF cD TX.2.2 hnf) gX3_offset_X3_requireHull rfl rfl rfl (by decide +kernel) ⟨Nat.le_of_ble_eq_true rfl, Nat.le_of_ble_eq_true rfl⟩ 0 rfl rfl rfl rfl (Nat.le_of_ble_eq_true rfl) dX3_offset_1 (Nat.le_of_ble_eq_true rfl) (Nat.le_of_ble_eq_true rfl) (fun E w hx => hout _ _ _ _ _ _ (by obtain ⟨rfl, hc, rfl⟩ := hx; exact ⟨Or.inl ⟨rfl, hc⟩, rfl⟩) (Nat.le_of_ble_eq_true rfl) (Nat.le_of_ble_eq_true rfl)) (fun w hw => ?_)
  obtain ⟨h_1, rfl⟩ := hw
  refine k_iload_n C 1 dX3_offset_4 rfl rfl ?_
  refine k_aload_n C 0 dX3_offset_5 rfl rfl ?_
  refine k_get C hinX3 0 1 rfl rfl (by decide) lk0 rfl rfl dX3_offset_6 ?_
  refine k_getN C hinX1 5 3 rfl rfl (by decide) lk2 rfl rfl dX3_offset_9 ?_
  refine kx_callSV C TX (ar := 2) (As := [.int q, .int (nI nf)]) (rest := []) (h3_requirePlace (kxL X) (kxD X) cI cJ cF cD TX.2.2 _ q nf) gX3_offset_X3_requirePlace rfl rfl rfl (by decide +kernel) ⟨Nat.le_of_ble_eq_true rfl, Nat.le_of_ble_eq_true rfl⟩ rfl rfl (Nat.le_of_ble_eq_true rfl) dX3_offset_12 (Nat.le_of_ble_eq_true rfl) (Nat.le_of_ble_eq_true rfl) (fun E w hx => hout _ _ _ _ _ _ (by obtain ⟨rfl, hc, rfl⟩ := hx; exact ⟨Or.inr ⟨rfl, h_1, by simp [hc]⟩, rfl⟩) (Nat.le_of_ble_eq_true rfl) (Nat.le_of_ble_eq_true rfl)) (fun w hw => ?_)
  obtain ⟨h_2, rfl⟩ := hw
  obtain ⟨jq, hjq, eq, cq⟩ := rngB_t (by omega) h_2
  refine k_aload_n C 0 dX3_offset_15 rfl rfl ?_
  refine k_get C hinX3 0 1 rfl rfl (by decide) lk0 rfl rfl dX3_offset_16 ?_
  refine k_getN C hinX1 5 1 rfl rfl (by decide) lk4 rfl rfl dX3_offset_19 ?_
  refine k_iload_n C 1 dX3_offset_22 rfl rfl ?_
  refine k_topi (nI jq) eq ?_
  refine k_aald C (j := jq) 10 2 rfl rfl (by omega) (by decide) rfl dX3_offset_23 ?_
  refine k_getN C hinX0 (15 + (pm jq)) 3 (wB_f (hpm _)) rfl (by decide) lk5 rfl rfl dX3_offset_24 ?_
  exact hret _ _ _ _ _ _ (⟨⟨h_1, h_2⟩, by rw [cq], rfl⟩) (Nat.le_of_ble_eq_true rfl) (Nat.le_of_ble_eq_true rfl) dX3_offset_27
set_option maxHeartbeats 4000000 in
set_option maxRecDepth 100000 in
theorem h3_corner (l : Launch) (D : va_G) (cI cJ cF cD : ClassId) (htr9 : l.stackTraces = false) {ba fa ra : Nat → Nat} {hb : Int32} {co : Int32} {sx : Int64} {tr : Nat} {pm : Nat → Nat} {xs : Nat → Int32} {ys : Nat → Int32} {zs : Nat → Int32} {ax : Nat → Int32} {ay : Nat → Int32} {az : Nat → Int32} {al : Nat → Int32} {el : Nat → Nat} {eh : Nat → Nat} {mo : Nat → Int64} {nx : Nat → Int64} {ny : Nat → Int64} {nz : Nat → Int64} {dd : Nat → Int64} {hd : Nat → Int32} {sz : Nat → Nat} {rn : Nat → Nat → Nat} {nf nh ne np : Nat} (q wh : Int32) (hnf : nf ≤ 44) (hh : nh ≤ 24) (hne : ne ≤ 66) (hnp : np ≤ 24) (hpm : ∀ x, pm x < 45) (hrn : ∀ x k, rn x k < 24) (hsz : ∀ x, sz x ≤ 24) (hel : ∀ x, el x < 24) (heh : ∀ x, eh x < 24) : CxI l D (tyG cI cJ cF cD) yX3_corner wsX3_corner ({ frames := 7, cells := 3, slots := 18, locals := 111 }) [.ref (ba 0), .int q, .int wh] (wB ba fa ra cI cJ cF hb (nI np) (nI nf) co (nI ne) (nI nh) sx tr pm xs ys zs ax ay az al el eh mo nx ny nz dd hd sz rn) (fun r w => (nf ≠ 0 ∧ (rngB nf q && rngB (sz (pm q.toNatClampNeg)) wh) = true) ∧ r = (nI (rn (pm q.toNatClampNeg) wh.toNatClampNeg)) ∧ w = (wB ba fa ra cI cJ cF hb (nI np) (nI nf) co (nI ne) (nI nh) sx tr pm xs ys zs ax ay az al el eh mo nx ny nz dd hd sz rn)) (fun E w => ((E = eIS ∧ nf = 0) ∨ (E = eIB ∧ nf ≠ 0 ∧ (rngB nf q && rngB (sz (pm q.toNatClampNeg)) wh) = false)) ∧ w = (wB ba fa ra cI cJ cF hb (nI np) (nI nf) co (nI ne) (nI nh) sx tr pm xs ys zs ax ay az al el eh mo nx ny nz dd hd sz rn)) 3 18 := by
  refine cxI_of (cc := cX3_corner) (maxL := 3) htr9 (by decide) rfl (Nat.le_of_ble_eq_true rfl) ?_
  intro X hXl hXd C TX hret hout hthr
  have lk0 : Cond.fieldLink RX3 19 "HullBuilder" "hull" "LHullBuilder$Hull;" ∈ wsX3_corner := by decide +kernel
  have hinX3 : ∀ w ∈ wsX30, w ∈ wsX3_corner := by decide +kernel
  have lk2 : Cond.fieldLinkNest RX3 72 "HullBuilder$Hull" "faceCount" "I" "HullBuilder" ∈ kNW := by decide +kernel
  have hinX1 : ∀ w ∈ wsX10, w ∈ wsX3_corner := by decide +kernel
  have lk4 : Cond.fieldLinkNest RX3 82 "HullBuilder$Hull" "faces" "[LHullBuilder$Face;" "HullBuilder" ∈ kNW := by decide +kernel
  have lk5 : Cond.fieldLinkNest RX3 86 "HullBuilder$Face" "size" "I" "HullBuilder" ∈ kNW := by decide +kernel
  have hinX0 : ∀ w ∈ wsX00, w ∈ wsX3_corner := by decide +kernel
  have lk7 : Cond.fieldLinkNest RX3 102 "HullBuilder$Face" "ring" "[I" "HullBuilder" ∈ kNW := by decide +kernel
  show Kw X 0 0 (wB ba fa ra cI cJ cF hb (nI np) (nI nf) co (nI ne) (nI nh) sx tr pm xs ys zs ax ay az al el eh mo nx ny nz dd hd sz rn) 0 [(0, .ref (ba 0)), (1, .int q), (2, .int wh)] []
  refine k_aload_n C 0 dX3_corner_0 rfl rfl ?_
  refine kx_callVV C TX (ar := 0) (As := []) (rest := []) (h3_requireHull (kxL X) (kxD X) cI cJ cF cD TX.2.2 hnf) gX3_corner_X3_requireHull rfl rfl rfl (by decide +kernel) ⟨Nat.le_of_ble_eq_true rfl, Nat.le_of_ble_eq_true rfl⟩ 0 rfl rfl rfl rfl (Nat.le_of_ble_eq_true rfl) dX3_corner_1 (Nat.le_of_ble_eq_true rfl) (Nat.le_of_ble_eq_true rfl) (fun E w hx => hout _ _ _ _ _ _ (by obtain ⟨rfl, hc, rfl⟩ := hx; exact ⟨Or.inl ⟨rfl, hc⟩, rfl⟩) (Nat.le_of_ble_eq_true rfl) (Nat.le_of_ble_eq_true rfl)) (fun w hw => ?_)
  obtain ⟨h_1, rfl⟩ := hw
  refine k_iload_n C 1 dX3_corner_4 rfl rfl ?_
  refine k_aload_n C 0 dX3_corner_5 rfl rfl ?_
  refine k_get C hinX3 0 1 rfl rfl (by decide) lk0 rfl rfl dX3_corner_6 ?_
  refine k_getN C hinX1 5 3 rfl rfl (by decide) lk2 rfl rfl dX3_corner_9 ?_
  refine kx_callSV C TX (ar := 2) (As := [.int q, .int (nI nf)]) (rest := []) (h3_requirePlace (kxL X) (kxD X) cI cJ cF cD TX.2.2 _ q nf) gX3_corner_X3_requirePlace rfl rfl rfl (by decide +kernel) ⟨Nat.le_of_ble_eq_true rfl, Nat.le_of_ble_eq_true rfl⟩ rfl rfl (Nat.le_of_ble_eq_true rfl) dX3_corner_12 (Nat.le_of_ble_eq_true rfl) (Nat.le_of_ble_eq_true rfl) (fun E w hx => hout _ _ _ _ _ _ (by obtain ⟨rfl, hc, rfl⟩ := hx; exact ⟨Or.inr ⟨rfl, h_1, by simp [hc]⟩, rfl⟩) (Nat.le_of_ble_eq_true rfl) (Nat.le_of_ble_eq_true rfl)) (fun w hw => ?_)
  obtain ⟨h_2, rfl⟩ := hw
  obtain ⟨jq, hjq, eq, cq⟩ := rngB_t (by omega) h_2
  refine k_iload_n C 2 dX3_corner_15 rfl rfl ?_
  have hs9 := hsz (pm jq)
  refine k_aload_n C 0 dX3_corner_16 rfl rfl ?_
  refine k_get C hinX3 0 1 rfl rfl (by decide) lk0 rfl rfl dX3_corner_17 ?_
  refine k_getN C hinX1 5 1 rfl rfl (by decide) lk4 rfl rfl dX3_corner_20 ?_
  refine k_iload_n C 1 dX3_corner_23 rfl rfl ?_
  refine k_topi (nI jq) eq ?_
  refine k_aald C (j := jq) 10 2 rfl rfl (by omega) (by decide) rfl dX3_corner_24 ?_
  refine k_getN C hinX0 (15 + (pm jq)) 6 (wB_f (hpm _)) rfl (by decide) lk5 rfl rfl dX3_corner_25 ?_
  refine kx_callSV C TX (ar := 2) (As := [.int wh, .int (nI (sz (pm jq)))]) (rest := []) (h3_requirePlace (kxL X) (kxD X) cI cJ cF cD TX.2.2 _ wh (sz (pm jq))) gX3_corner_X3_requirePlace rfl rfl rfl (by decide +kernel) ⟨Nat.le_of_ble_eq_true rfl, Nat.le_of_ble_eq_true rfl⟩ rfl rfl (Nat.le_of_ble_eq_true rfl) dX3_corner_28 (Nat.le_of_ble_eq_true rfl) (Nat.le_of_ble_eq_true rfl) (fun E w hx => hout _ _ _ _ _ _ (by obtain ⟨rfl, hc, rfl⟩ := hx; exact ⟨Or.inr ⟨rfl, h_1, by rw [cq]; simp [hc, h_2]⟩, rfl⟩) (Nat.le_of_ble_eq_true rfl) (Nat.le_of_ble_eq_true rfl)) (fun w hw => ?_)
  obtain ⟨h_3, rfl⟩ := hw
  obtain ⟨jw, hjw, ew, cw⟩ := rngB_t (by omega) h_3
  refine k_aload_n C 0 dX3_corner_31 rfl rfl ?_
  refine k_get C hinX3 0 1 rfl rfl (by decide) lk0 rfl rfl dX3_corner_32 ?_
  refine k_getN C hinX1 5 1 rfl rfl (by decide) lk4 rfl rfl dX3_corner_35 ?_
  refine k_iload_n C 1 dX3_corner_38 rfl rfl ?_
  refine k_topi (nI jq) eq ?_
  refine k_aald C (j := jq) 10 2 rfl rfl (by omega) (by decide) rfl dX3_corner_39 ?_
  refine k_getN C hinX0 (15 + (pm jq)) 5 (wB_f (hpm _)) rfl (by decide) lk7 rfl rfl dX3_corner_40 ?_
  refine k_iload_n C 2 dX3_corner_43 rfl rfl ?_
  refine k_topi (nI jw) ew ?_
  refine k_ialdN C (j := jw) (60 + (pm jq)) 0 (wB_r (hpm _)) rfl (by omega) (by decide) dX3_corner_44 ?_
  exact hret _ _ _ _ _ _ (⟨⟨h_1, by rw [cq]; simp [h_2, h_3]⟩, by rw [cq, cw], rfl⟩) (Nat.le_of_ble_eq_true rfl) (Nat.le_of_ble_eq_true rfl) dX3_corner_45
set_option maxHeartbeats 4000000 in
set_option maxRecDepth 100000 in
theorem h3_edge (l : Launch) (D : va_G) (cI cJ cF cD : ClassId) (htr9 : l.stackTraces = false) {ba fa ra : Nat → Nat} {hb : Int32} {co : Int32} {sx : Int64} {tr : Nat} {pm : Nat → Nat} {xs : Nat → Int32} {ys : Nat → Int32} {zs : Nat → Int32} {ax : Nat → Int32} {ay : Nat → Int32} {az : Nat → Int32} {al : Nat → Int32} {el : Nat → Nat} {eh : Nat → Nat} {mo : Nat → Int64} {nx : Nat → Int64} {ny : Nat → Int64} {nz : Nat → Int64} {dd : Nat → Int64} {hd : Nat → Int32} {sz : Nat → Nat} {rn : Nat → Nat → Nat} {nf nh ne np : Nat} (q wh : Int32) (hnf : nf ≤ 44) (hh : nh ≤ 24) (hne : ne ≤ 66) (hnp : np ≤ 24) (hpm : ∀ x, pm x < 45) (hrn : ∀ x k, rn x k < 24) (hsz : ∀ x, sz x ≤ 24) (hel : ∀ x, el x < 24) (heh : ∀ x, eh x < 24) : CxI l D (tyG cI cJ cF cD) yX3_edge wsX3_edge ({ frames := 7, cells := 3, slots := 18, locals := 111 }) [.ref (ba 0), .int q, .int wh] (wB ba fa ra cI cJ cF hb (nI np) (nI nf) co (nI ne) (nI nh) sx tr pm xs ys zs ax ay az al el eh mo nx ny nz dd hd sz rn) (fun r w => (nf ≠ 0 ∧ (rngB ne q && rngB 4 wh) = true) ∧ r = (egC el eh al q.toNatClampNeg wh.toNatClampNeg) ∧ w = (wB ba fa ra cI cJ cF hb (nI np) (nI nf) co (nI ne) (nI nh) sx tr pm xs ys zs ax ay az al el eh mo nx ny nz dd hd sz rn)) (fun E w => ((E = eIS ∧ nf = 0) ∨ (E = eIB ∧ nf ≠ 0 ∧ (rngB ne q && rngB 4 wh) = false)) ∧ w = (wB ba fa ra cI cJ cF hb (nI np) (nI nf) co (nI ne) (nI nh) sx tr pm xs ys zs ax ay az al el eh mo nx ny nz dd hd sz rn)) 3 18 := by
  refine cxI_of (cc := cX3_edge) (maxL := 5) htr9 (by decide) rfl (Nat.le_of_ble_eq_true rfl) ?_
  intro X hXl hXd C TX hret hout hthr
  have lk0 : Cond.fieldLink RX3 19 "HullBuilder" "hull" "LHullBuilder$Hull;" ∈ wsX3_edge := by decide +kernel
  have hinX3 : ∀ w ∈ wsX30, w ∈ wsX3_edge := by decide +kernel
  have lk2 : Cond.fieldLinkNest RX3 106 "HullBuilder$Hull" "edgeCount" "I" "HullBuilder" ∈ kNW := by decide +kernel
  have hinX1 : ∀ w ∈ wsX10, w ∈ wsX3_edge := by decide +kernel
  have lk4 : Cond.fieldLinkNest RX3 109 "HullBuilder$Hull" "edgeLow" "[I" "HullBuilder" ∈ kNW := by decide +kernel
  have lk5 : Cond.fieldLinkNest RX3 112 "HullBuilder$Hull" "edgeHigh" "[I" "HullBuilder" ∈ kNW := by decide +kernel
  have lk6 : Cond.fieldLinkNest RX3 115 "HullBuilder$Hull" "faceAlong" "[I" "HullBuilder" ∈ kNW := by decide +kernel
  show Kw X 0 0 (wB ba fa ra cI cJ cF hb (nI np) (nI nf) co (nI ne) (nI nh) sx tr pm xs ys zs ax ay az al el eh mo nx ny nz dd hd sz rn) 0 [(0, .ref (ba 0)), (1, .int q), (2, .int wh)] []
  refine k_aload_n C 0 dX3_edge_0 rfl rfl ?_
  refine kx_callVV C TX (ar := 0) (As := []) (rest := []) (h3_requireHull (kxL X) (kxD X) cI cJ cF cD TX.2.2 hnf) gX3_edge_X3_requireHull rfl rfl rfl (by decide +kernel) ⟨Nat.le_of_ble_eq_true rfl, Nat.le_of_ble_eq_true rfl⟩ 0 rfl rfl rfl rfl (Nat.le_of_ble_eq_true rfl) dX3_edge_1 (Nat.le_of_ble_eq_true rfl) (Nat.le_of_ble_eq_true rfl) (fun E w hx => hout _ _ _ _ _ _ (by obtain ⟨rfl, hc, rfl⟩ := hx; exact ⟨Or.inl ⟨rfl, hc⟩, rfl⟩) (Nat.le_of_ble_eq_true rfl) (Nat.le_of_ble_eq_true rfl)) (fun w hw => ?_)
  obtain ⟨h_1, rfl⟩ := hw
  refine k_iload_n C 1 dX3_edge_4 rfl rfl ?_
  refine k_aload_n C 0 dX3_edge_5 rfl rfl ?_
  refine k_get C hinX3 0 1 rfl rfl (by decide) lk0 rfl rfl dX3_edge_6 ?_
  refine k_getN C hinX1 5 8 rfl rfl (by decide) lk2 rfl rfl dX3_edge_9 ?_
  refine kx_callSV C TX (ar := 2) (As := [.int q, .int (nI ne)]) (rest := []) (h3_requirePlace (kxL X) (kxD X) cI cJ cF cD TX.2.2 _ q ne) gX3_edge_X3_requirePlace rfl rfl rfl (by decide +kernel) ⟨Nat.le_of_ble_eq_true rfl, Nat.le_of_ble_eq_true rfl⟩ rfl rfl (Nat.le_of_ble_eq_true rfl) dX3_edge_12 (Nat.le_of_ble_eq_true rfl) (Nat.le_of_ble_eq_true rfl) (fun E w hx => hout _ _ _ _ _ _ (by obtain ⟨rfl, hc, rfl⟩ := hx; exact ⟨Or.inr ⟨rfl, h_1, by simp [hc]⟩, rfl⟩) (Nat.le_of_ble_eq_true rfl) (Nat.le_of_ble_eq_true rfl)) (fun w hw => ?_)
  obtain ⟨h_2, rfl⟩ := hw
  obtain ⟨jq, hjq, eq, cq⟩ := rngB_t (by omega) h_2
  refine k_iload_n C 2 dX3_edge_15 rfl rfl ?_
  refine k_iconst C (v := (nI 4)) dX3_edge_16 (by decide) ?_
  refine kx_callSV C TX (ar := 2) (As := [.int wh, .int (nI 4)]) (rest := []) (h3_requirePlace (kxL X) (kxD X) cI cJ cF cD TX.2.2 _ wh 4) gX3_edge_X3_requirePlace rfl rfl rfl (by decide +kernel) ⟨Nat.le_of_ble_eq_true rfl, Nat.le_of_ble_eq_true rfl⟩ rfl rfl (Nat.le_of_ble_eq_true rfl) dX3_edge_17 (Nat.le_of_ble_eq_true rfl) (Nat.le_of_ble_eq_true rfl) (fun E w hx => hout _ _ _ _ _ _ (by obtain ⟨rfl, hc, rfl⟩ := hx; exact ⟨Or.inr ⟨rfl, h_1, by simp [hc, h_2]⟩, rfl⟩) (Nat.le_of_ble_eq_true rfl) (Nat.le_of_ble_eq_true rfl)) (fun w hw => ?_)
  obtain ⟨h_3, rfl⟩ := hw
  obtain ⟨jw, hjw, ew, cw⟩ := rngB_t (by omega) h_3
  refine k_aload_n C 0 dX3_edge_20 rfl rfl ?_
  refine k_get C hinX3 0 1 rfl rfl (by decide) lk0 rfl rfl dX3_edge_21 ?_
  refine k_getN C hinX1 5 6 rfl rfl (by decide) lk4 rfl rfl dX3_edge_24 ?_
  refine k_iload_n C 1 dX3_edge_27 rfl rfl ?_
  refine k_topi (nI jq) eq ?_
  refine k_ialdN C (j := jq) 12 0 rfl rfl (by omega) (by decide) dX3_edge_28 ?_
  refine k_istore_n C (lv' := [(3, .int (nI (el jq))), (0, .ref (ba 0)), (1, .int q), (2, .int wh)]) dX3_edge_29 rfl (by decide) rfl ?_
  refine k_aload_n C 1 dX3_edge_30 rfl rfl ?_
  refine k_get C hinX3 0 1 rfl rfl (by decide) lk0 rfl rfl dX3_edge_31 ?_
  refine k_getN C hinX1 5 7 rfl rfl (by decide) lk5 rfl rfl dX3_edge_34 ?_
  refine k_iload_n C 2 dX3_edge_37 rfl rfl ?_
  refine k_topi (nI jq) eq ?_
  refine k_ialdN C (j := jq) 13 0 rfl rfl (by omega) (by decide) dX3_edge_38 ?_
  refine k_istore C (lv' := [(4, .int (nI (eh jq))), (3, .int (nI (el jq))), (0, .ref (ba 0)), (1, .int q), (2, .int wh)]) dX3_edge_39 (by decide) rfl ?_
  have he1 := hel jq
  have he2 := heh jq
  refine k_iload_n C 4 dX3_edge_41 rfl rfl ?_
  refine k_topi (nI jw) ew ?_
  rcases (show jw = 0 ∨ jw = 1 ∨ jw = 2 ∨ jw = 3 by omega) with hsw | hsw | hsw | hsw
  · refine k_topi (nI 0) (by rw [hsw]) ?_
    refine k_tableIn C 68 dX3_edge_42 (by decide) (by decide) rfl (by decide) ?_
    refine k_iload_n C 1 dX3_edge_68 rfl rfl ?_
    exact hret _ _ _ _ _ _ (⟨⟨h_1, by simp [h_2, h_3]⟩, by rw [cq, cw]; simp [egC, hsw], rfl⟩) (Nat.le_of_ble_eq_true rfl) (Nat.le_of_ble_eq_true rfl) dX3_edge_69
  · refine k_topi (nI 1) (by rw [hsw]) ?_
    refine k_tableIn C 70 dX3_edge_42 (by decide) (by decide) rfl (by decide) ?_
    refine k_iload C 0 dX3_edge_70 rfl ?_
    exact hret _ _ _ _ _ _ (⟨⟨h_1, by simp [h_2, h_3]⟩, by rw [cq, cw]; simp [egC, hsw], rfl⟩) (Nat.le_of_ble_eq_true rfl) (Nat.le_of_ble_eq_true rfl) dX3_edge_72
  · refine k_topi (nI 2) (by rw [hsw]) ?_
    refine k_tableIn C 73 dX3_edge_42 (by decide) (by decide) rfl (by decide) ?_
    refine k_aload_n C 2 dX3_edge_73 rfl rfl ?_
    refine k_get C hinX3 0 1 rfl rfl (by decide) lk0 rfl rfl dX3_edge_74 ?_
    refine k_getN C hinX1 5 5 rfl rfl (by decide) lk6 rfl rfl dX3_edge_77 ?_
    refine k_iload_n C 1 dX3_edge_80 rfl rfl ?_
    refine k_iload C 0 dX3_edge_81 rfl ?_
    refine k_callSI C (ar := 2) (As := [.int (nI (el jq)), .int (nI (eh jq))]) (rest := [.ref (ba 11)]) (h3_way (kxL X) (kxD X) cI cJ cF cD _ (el jq) (eh jq)) gX3_edge_X3_way rfl rfl rfl (by decide +kernel) ⟨Nat.le_of_ble_eq_true rfl, Nat.le_of_ble_eq_true rfl⟩ rfl rfl (Nat.le_of_ble_eq_true rfl) dX3_edge_83 (Nat.le_of_ble_eq_true rfl) (Nat.le_of_ble_eq_true rfl) (fun r w hw => ?_)
    obtain ⟨rfl, rfl⟩ := hw
    refine k_iald C (j := ((el jq) * 24 + (eh jq))) 11 0 rfl rfl (by omega) (by decide) dX3_edge_86 ?_
    exact hret _ _ _ _ _ _ (⟨⟨h_1, by simp [h_2, h_3]⟩, by rw [cq, cw]; simp [egC, hsw], rfl⟩) (Nat.le_of_ble_eq_true rfl) (Nat.le_of_ble_eq_true rfl) dX3_edge_87
  · refine k_topi (nI 3) (by rw [hsw]) ?_
    refine k_tableOut C 88 dX3_edge_42 (by decide) (by decide) ?_
    refine k_aload_n C 2 dX3_edge_88 rfl rfl ?_
    refine k_get C hinX3 0 1 rfl rfl (by decide) lk0 rfl rfl dX3_edge_89 ?_
    refine k_getN C hinX1 5 5 rfl rfl (by decide) lk6 rfl rfl dX3_edge_92 ?_
    refine k_iload C 0 dX3_edge_95 rfl ?_
    refine k_iload_n C 1 dX3_edge_97 rfl rfl ?_
    refine k_callSI C (ar := 2) (As := [.int (nI (eh jq)), .int (nI (el jq))]) (rest := [.ref (ba 11)]) (h3_way (kxL X) (kxD X) cI cJ cF cD _ (eh jq) (el jq)) gX3_edge_X3_way rfl rfl rfl (by decide +kernel) ⟨Nat.le_of_ble_eq_true rfl, Nat.le_of_ble_eq_true rfl⟩ rfl rfl (Nat.le_of_ble_eq_true rfl) dX3_edge_98 (Nat.le_of_ble_eq_true rfl) (Nat.le_of_ble_eq_true rfl) (fun r w hw => ?_)
    obtain ⟨rfl, rfl⟩ := hw
    refine k_iald C (j := ((eh jq) * 24 + (el jq))) 11 0 rfl rfl (by omega) (by decide) dX3_edge_101 ?_
    exact hret _ _ _ _ _ _ (⟨⟨h_1, by simp [h_2, h_3]⟩, by rw [cq, cw]; simp [egC, hsw], rfl⟩) (Nat.le_of_ble_eq_true rfl) (Nat.le_of_ble_eq_true rfl) dX3_edge_102
set_option maxHeartbeats 4000000 in
set_option maxRecDepth 100000 in
theorem h3_support (l : Launch) (D : va_G) (cI cJ cF cD : ClassId) (htr9 : l.stackTraces = false) {ba fa ra : Nat → Nat} {hb : Int32} {co : Int32} {sx : Int64} {tr : Nat} {pm : Nat → Nat} {xs : Nat → Int32} {ys : Nat → Int32} {zs : Nat → Int32} {ax : Nat → Int32} {ay : Nat → Int32} {az : Nat → Int32} {al : Nat → Int32} {el : Nat → Nat} {eh : Nat → Nat} {mo : Nat → Int64} {nx : Nat → Int64} {ny : Nat → Int64} {nz : Nat → Int64} {dd : Nat → Int64} {hd : Nat → Int32} {sz : Nat → Nat} {rn : Nat → Nat → Nat} {nf nh ne np : Nat} (x y z : Int32) (hnf : nf ≤ 44) (hh : nh ≤ 24) (hne : ne ≤ 66) (hnp : np ≤ 24) (hpm : ∀ x, pm x < 45) (hrn : ∀ x k, rn x k < 24) (hsz : ∀ x, sz x ≤ 24) (hel : ∀ x, el x < 24) (heh : ∀ x, eh x < 24) : CxI l D (tyG cI cJ cF cD) yX3_support wsX3_support ({ frames := 7, cells := 2, slots := 12, locals := 113 }) [.ref (ba 0), .int x, .int y, .int z] (wB ba fa ra cI cJ cF hb (nI np) (nI nf) co (nI ne) (nI nh) sx tr pm xs ys zs ax ay az al el eh mo nx ny nz dd hd sz rn) (fun r w => (nf ≠ 0 ∧ (withinB x (nI 65536) && withinB y (nI 65536) && withinB z (nI 65536)) = true) ∧ r = ((frN co (fun k => x.toInt64 * (ax k).toInt64 + y.toInt64 * (ay k).toInt64 + z.toInt64 * (az k).toInt64) nh).1) ∧ w = (wB ba fa ra cI cJ cF hb (nI np) (nI nf) co (nI ne) (nI nh) sx tr pm xs ys zs ax ay az al el eh mo nx ny nz dd hd sz rn)) (fun E w => ((E = eIS ∧ nf = 0) ∨ (E = eIA ∧ nf ≠ 0 ∧ (withinB x (nI 65536) && withinB y (nI 65536) && withinB z (nI 65536)) = false)) ∧ w = (wB ba fa ra cI cJ cF hb (nI np) (nI nf) co (nI ne) (nI nh) sx tr pm xs ys zs ax ay az al el eh mo nx ny nz dd hd sz rn)) 2 12 := by
  refine cxI_of (cc := cX3_support) (maxL := 4) htr9 (by decide) rfl (Nat.le_of_ble_eq_true rfl) ?_
  intro X hXl hXd C TX hret hout hthr
  have lk0 : Cond.constant RX3 121 (65536) ∈ wsX3_support := by decide +kernel
  have lk1 : Cond.fieldLink RX3 19 "HullBuilder" "hull" "LHullBuilder$Hull;" ∈ wsX3_support := by decide +kernel
  have hinX3 : ∀ w ∈ wsX30, w ∈ wsX3_support := by decide +kernel
  have lk3 : Cond.methodLinkNest RX3 122 yX1_furthest "HullBuilder" ∈ kNW := by decide +kernel
  have lk4 : Cond.initialized RX1 ∈ wsX3_support := by decide +kernel
  have lk5 : Cond.instanceMethod yX1_furthest ∈ wsX3_support := by decide +kernel
  have lk6 : Cond.selects RX1 yX1_furthest yX1_furthest ∈ wsX3_support := by decide +kernel
  show Kw X 0 0 (wB ba fa ra cI cJ cF hb (nI np) (nI nf) co (nI ne) (nI nh) sx tr pm xs ys zs ax ay az al el eh mo nx ny nz dd hd sz rn) 0 [(0, .ref (ba 0)), (1, .int x), (2, .int y), (3, .int z)] []
  refine k_aload_n C 0 dX3_support_0 rfl rfl ?_
  refine kx_callVV C TX (ar := 0) (As := []) (rest := []) (h3_requireHull (kxL X) (kxD X) cI cJ cF cD TX.2.2 hnf) gX3_support_X3_requireHull rfl rfl rfl (by decide +kernel) ⟨Nat.le_of_ble_eq_true rfl, Nat.le_of_ble_eq_true rfl⟩ 0 rfl rfl rfl rfl (Nat.le_of_ble_eq_true rfl) dX3_support_1 (Nat.le_of_ble_eq_true rfl) (Nat.le_of_ble_eq_true rfl) (fun E w hx => hout _ _ _ _ _ _ (by obtain ⟨rfl, hc, rfl⟩ := hx; exact ⟨Or.inl ⟨rfl, hc⟩, rfl⟩) (Nat.le_of_ble_eq_true rfl) (Nat.le_of_ble_eq_true rfl)) (fun w hw => ?_)
  obtain ⟨h_1, rfl⟩ := hw
  refine k_iload_n C 1 dX3_support_4 rfl rfl ?_
  refine k_iload_n C 2 dX3_support_5 rfl rfl ?_
  refine k_iload_n C 3 dX3_support_6 rfl rfl ?_
  refine k_ldc C (v := (nI 65536)) dX3_support_7 lk0 ?_
  refine kx_callSV C TX (ar := 4) (As := [.int x, .int y, .int z, .int (nI 65536)]) (rest := []) (h3_requireReach (kxL X) (kxD X) cI cJ cF cD TX.2.2 _ x y z (nI 65536)) gX3_support_X3_requireReach rfl rfl rfl (by decide +kernel) ⟨Nat.le_of_ble_eq_true rfl, Nat.le_of_ble_eq_true rfl⟩ rfl rfl (Nat.le_of_ble_eq_true rfl) dX3_support_9 (Nat.le_of_ble_eq_true rfl) (Nat.le_of_ble_eq_true rfl) (fun E w hx => hout _ _ _ _ _ _ (by obtain ⟨rfl, hc, rfl⟩ := hx; exact ⟨Or.inr ⟨rfl, h_1, by simp [hc]⟩, rfl⟩) (Nat.le_of_ble_eq_true rfl) (Nat.le_of_ble_eq_true rfl)) (fun w hw => ?_)
  obtain ⟨h_2, rfl⟩ := hw
  refine k_aload_n C 0 dX3_support_12 rfl rfl ?_
  refine k_get C hinX3 0 1 rfl rfl (by decide) lk1 rfl rfl dX3_support_13 ?_
  refine k_iload_n C 1 dX3_support_16 rfl rfl ?_
  refine k_i2l C dX3_support_17 ?_
  refine k_iload_n C 2 dX3_support_18 rfl rfl ?_
  refine k_i2l C dX3_support_19 ?_
  refine k_iload_n C 3 dX3_support_20 rfl rfl ?_
  refine k_i2l C dX3_support_21 ?_
  refine k_callVNI C (ar := 3) (As := [.long x.toInt64, .long y.toInt64, .long z.toInt64]) (rest := []) (h1_furthest (kxL X) (kxD X) cI cJ cF cD x.toInt64 y.toInt64 z.toInt64 (by omega)) ggX3_support_X1_furthest rfl rfl rfl lk3 lk4 lk5 lk6 (by decide +kernel) ⟨Nat.le_of_ble_eq_true rfl, Nat.le_of_ble_eq_true rfl⟩ 5 rfl rfl rfl rfl (Nat.le_of_ble_eq_true rfl) dX3_support_22 (Nat.le_of_ble_eq_true rfl) (Nat.le_of_ble_eq_true rfl) (fun r w hw => ?_)
  obtain ⟨rfl, rfl⟩ := hw
  exact hret _ _ _ _ _ _ (⟨⟨h_1, h_2⟩, rfl, rfl⟩) (Nat.le_of_ble_eq_true rfl) (Nat.le_of_ble_eq_true rfl) dX3_support_25
set_option maxHeartbeats 4000000 in
set_option maxRecDepth 100000 in
theorem h3_side (l : Launch) (D : va_G) (cI cJ cF cD : ClassId) (htr9 : l.stackTraces = false) {ba fa ra : Nat → Nat} {hb : Int32} {co : Int32} {sx : Int64} {tr : Nat} {pm : Nat → Nat} {xs : Nat → Int32} {ys : Nat → Int32} {zs : Nat → Int32} {ax : Nat → Int32} {ay : Nat → Int32} {az : Nat → Int32} {al : Nat → Int32} {el : Nat → Nat} {eh : Nat → Nat} {mo : Nat → Int64} {nx : Nat → Int64} {ny : Nat → Int64} {nz : Nat → Int64} {dd : Nat → Int64} {hd : Nat → Int32} {sz : Nat → Nat} {rn : Nat → Nat → Nat} {nf nh ne np : Nat} (x y z : Int32) (hnf : nf ≤ 44) (hh : nh ≤ 24) (hne : ne ≤ 66) (hnp : np ≤ 24) (hpm : ∀ x, pm x < 45) (hrn : ∀ x k, rn x k < 24) (hsz : ∀ x, sz x ≤ 24) (hel : ∀ x, el x < 24) (heh : ∀ x, eh x < 24) : CxI l D (tyG cI cJ cF cD) yX3_side wsX3_side ({ frames := 7, cells := 2, slots := 12, locals := 113 }) [.ref (ba 0), .int x, .int y, .int z] (wB ba fa ra cI cJ cF hb (nI np) (nI nf) co (nI ne) (nI nh) sx tr pm xs ys zs ax ay az al el eh mo nx ny nz dd hd sz rn) (fun r w => (nf ≠ 0 ∧ (withinB x (nI 65536) && withinB y (nI 65536) && withinB z (nI 65536)) = true) ∧ r = (lcI (fun f => htL (nx (pm f)) (ny (pm f)) (nz (pm f)) (dd (pm f)) x.toInt64 y.toInt64 z.toInt64) nf (nf + 1) 0 1) ∧ w = (wB ba fa ra cI cJ cF hb (nI np) (nI nf) co (nI ne) (nI nh) sx tr pm xs ys zs ax ay az al el eh mo nx ny nz dd hd sz rn)) (fun E w => ((E = eIS ∧ nf = 0) ∨ (E = eIA ∧ nf ≠ 0 ∧ (withinB x (nI 65536) && withinB y (nI 65536) && withinB z (nI 65536)) = false)) ∧ w = (wB ba fa ra cI cJ cF hb (nI np) (nI nf) co (nI ne) (nI nh) sx tr pm xs ys zs ax ay az al el eh mo nx ny nz dd hd sz rn)) 2 12 := by
  refine cxI_of (cc := cX3_side) (maxL := 4) htr9 (by decide) rfl (Nat.le_of_ble_eq_true rfl) ?_
  intro X hXl hXd C TX hret hout hthr
  have lk0 : Cond.constant RX3 121 (65536) ∈ wsX3_side := by decide +kernel
  have lk1 : Cond.fieldLink RX3 19 "HullBuilder" "hull" "LHullBuilder$Hull;" ∈ wsX3_side := by decide +kernel
  have hinX3 : ∀ w ∈ wsX30, w ∈ wsX3_side := by decide +kernel
  have lk3 : Cond.methodLinkNest RX3 132 yX1_locate "HullBuilder" ∈ kNW := by decide +kernel
  have lk4 : Cond.initialized RX1 ∈ wsX3_side := by decide +kernel
  have lk5 : Cond.instanceMethod yX1_locate ∈ wsX3_side := by decide +kernel
  have lk6 : Cond.selects RX1 yX1_locate yX1_locate ∈ wsX3_side := by decide +kernel
  show Kw X 0 0 (wB ba fa ra cI cJ cF hb (nI np) (nI nf) co (nI ne) (nI nh) sx tr pm xs ys zs ax ay az al el eh mo nx ny nz dd hd sz rn) 0 [(0, .ref (ba 0)), (1, .int x), (2, .int y), (3, .int z)] []
  refine k_aload_n C 0 dX3_side_0 rfl rfl ?_
  refine kx_callVV C TX (ar := 0) (As := []) (rest := []) (h3_requireHull (kxL X) (kxD X) cI cJ cF cD TX.2.2 hnf) gX3_side_X3_requireHull rfl rfl rfl (by decide +kernel) ⟨Nat.le_of_ble_eq_true rfl, Nat.le_of_ble_eq_true rfl⟩ 0 rfl rfl rfl rfl (Nat.le_of_ble_eq_true rfl) dX3_side_1 (Nat.le_of_ble_eq_true rfl) (Nat.le_of_ble_eq_true rfl) (fun E w hx => hout _ _ _ _ _ _ (by obtain ⟨rfl, hc, rfl⟩ := hx; exact ⟨Or.inl ⟨rfl, hc⟩, rfl⟩) (Nat.le_of_ble_eq_true rfl) (Nat.le_of_ble_eq_true rfl)) (fun w hw => ?_)
  obtain ⟨h_1, rfl⟩ := hw
  refine k_iload_n C 1 dX3_side_4 rfl rfl ?_
  refine k_iload_n C 2 dX3_side_5 rfl rfl ?_
  refine k_iload_n C 3 dX3_side_6 rfl rfl ?_
  refine k_ldc C (v := (nI 65536)) dX3_side_7 lk0 ?_
  refine kx_callSV C TX (ar := 4) (As := [.int x, .int y, .int z, .int (nI 65536)]) (rest := []) (h3_requireReach (kxL X) (kxD X) cI cJ cF cD TX.2.2 _ x y z (nI 65536)) gX3_side_X3_requireReach rfl rfl rfl (by decide +kernel) ⟨Nat.le_of_ble_eq_true rfl, Nat.le_of_ble_eq_true rfl⟩ rfl rfl (Nat.le_of_ble_eq_true rfl) dX3_side_9 (Nat.le_of_ble_eq_true rfl) (Nat.le_of_ble_eq_true rfl) (fun E w hx => hout _ _ _ _ _ _ (by obtain ⟨rfl, hc, rfl⟩ := hx; exact ⟨Or.inr ⟨rfl, h_1, by simp [hc]⟩, rfl⟩) (Nat.le_of_ble_eq_true rfl) (Nat.le_of_ble_eq_true rfl)) (fun w hw => ?_)
  obtain ⟨h_2, rfl⟩ := hw
  refine k_aload_n C 0 dX3_side_12 rfl rfl ?_
  refine k_get C hinX3 0 1 rfl rfl (by decide) lk1 rfl rfl dX3_side_13 ?_
  refine k_iload_n C 1 dX3_side_16 rfl rfl ?_
  refine k_iload_n C 2 dX3_side_17 rfl rfl ?_
  refine k_iload_n C 3 dX3_side_18 rfl rfl ?_
  refine k_callVNI C (ar := 3) (As := [.int x, .int y, .int z]) (rest := []) (h1_locate (kxL X) (kxD X) cI cJ cF cD x y z (by omega) hpm) ggX3_side_X1_locate rfl rfl rfl lk3 lk4 lk5 lk6 (by decide +kernel) ⟨Nat.le_of_ble_eq_true rfl, Nat.le_of_ble_eq_true rfl⟩ 5 rfl rfl rfl rfl (Nat.le_of_ble_eq_true rfl) dX3_side_19 (Nat.le_of_ble_eq_true rfl) (Nat.le_of_ble_eq_true rfl) (fun r w hw => ?_)
  obtain ⟨rfl, rfl⟩ := hw
  exact hret _ _ _ _ _ _ (⟨⟨h_1, h_2⟩, rfl, rfl⟩) (Nat.le_of_ble_eq_true rfl) (Nat.le_of_ble_eq_true rfl) dX3_side_22
set_option maxHeartbeats 4000000 in
set_option maxRecDepth 100000 in
theorem h3_steps (l : Launch) (D : va_G) (cI cJ cF cD : ClassId) (htr9 : l.stackTraces = false) {ba fa ra : Nat → Nat} {hb : Int32} {co : Int32} {sx : Int64} {tr : Nat} {pm : Nat → Nat} {xs : Nat → Int32} {ys : Nat → Int32} {zs : Nat → Int32} {ax : Nat → Int32} {ay : Nat → Int32} {az : Nat → Int32} {al : Nat → Int32} {el : Nat → Nat} {eh : Nat → Nat} {mo : Nat → Int64} {nx : Nat → Int64} {ny : Nat → Int64} {nz : Nat → Int64} {dd : Nat → Int64} {hd : Nat → Int32} {sz : Nat → Nat} {rn : Nat → Nat → Nat} {nf nh ne np : Nat} (q s9 : Int32) (hnf : nf ≤ 44) (hh : nh ≤ 24) (hne : ne ≤ 66) (hnp : np ≤ 24) (hpm : ∀ x, pm x < 45) (hrn : ∀ x k, rn x k < 24) (hsz : ∀ x, sz x ≤ 24) (hel : ∀ x, el x < 24) (heh : ∀ x, eh x < 24) : CxI l D (tyG cI cJ cF cD) yX3_steps wsX3_steps ({ frames := 8, cells := 5, slots := 30, locals := 132 }) [.ref (ba 0), .int q, .int s9] (wB ba fa ra cI cJ cF hb (nI np) (nI nf) co (nI ne) (nI nh) sx tr pm xs ys zs ax ay az al el eh mo nx ny nz dd hd sz rn) (fun r w => (nf ≠ 0 ∧ ((rngB 24 q && hldB co q.toNatClampNeg) && (rngB 24 s9 && hldB co s9.toNatClampNeg)) = true) ∧ r = (wlI el eh ne (nI 1 <<< (nI q.toNatClampNeg &&& 31)) s9.toNatClampNeg 25 0) ∧ w = (wB ba fa ra cI cJ cF hb (nI np) (nI nf) co (nI ne) (nI nh) sx tr pm xs ys zs ax ay az al el eh mo nx ny nz dd hd sz rn)) (fun E w => ((E = eIS ∧ nf = 0) ∨ (E = eIB ∧ nf ≠ 0 ∧ ((rngB 24 q && hldB co q.toNatClampNeg) && (rngB 24 s9 && hldB co s9.toNatClampNeg)) = false)) ∧ w = (wB ba fa ra cI cJ cF hb (nI np) (nI nf) co (nI ne) (nI nh) sx tr pm xs ys zs ax ay az al el eh mo nx ny nz dd hd sz rn)) 5 30 := by
  refine cxI_of (cc := cX3_steps) (maxL := 3) htr9 (by decide) rfl (Nat.le_of_ble_eq_true rfl) ?_
  intro X hXl hXd C TX hret hout hthr
  have lk0 : Cond.fieldLink RX3 19 "HullBuilder" "hull" "LHullBuilder$Hull;" ∈ wsX3_steps := by decide +kernel
  have hinX3 : ∀ w ∈ wsX30, w ∈ wsX3_steps := by decide +kernel
  have lk2 : Cond.methodLinkNest RX3 129 yX1_walk "HullBuilder" ∈ kNW := by decide +kernel
  have lk3 : Cond.initialized RX1 ∈ wsX3_steps := by decide +kernel
  have lk4 : Cond.instanceMethod yX1_walk ∈ wsX3_steps := by decide +kernel
  have lk5 : Cond.selects RX1 yX1_walk yX1_walk ∈ wsX3_steps := by decide +kernel
  show Kw X 0 0 (wB ba fa ra cI cJ cF hb (nI np) (nI nf) co (nI ne) (nI nh) sx tr pm xs ys zs ax ay az al el eh mo nx ny nz dd hd sz rn) 0 [(0, .ref (ba 0)), (1, .int q), (2, .int s9)] []
  refine k_aload_n C 0 dX3_steps_0 rfl rfl ?_
  refine kx_callVV C TX (ar := 0) (As := []) (rest := []) (h3_requireHull (kxL X) (kxD X) cI cJ cF cD TX.2.2 hnf) gX3_steps_X3_requireHull rfl rfl rfl (by decide +kernel) ⟨Nat.le_of_ble_eq_true rfl, Nat.le_of_ble_eq_true rfl⟩ 0 rfl rfl rfl rfl (Nat.le_of_ble_eq_true rfl) dX3_steps_1 (Nat.le_of_ble_eq_true rfl) (Nat.le_of_ble_eq_true rfl) (fun E w hx => hout _ _ _ _ _ _ (by obtain ⟨rfl, hc, rfl⟩ := hx; exact ⟨Or.inl ⟨rfl, hc⟩, rfl⟩) (Nat.le_of_ble_eq_true rfl) (Nat.le_of_ble_eq_true rfl)) (fun w hw => ?_)
  obtain ⟨h_1, rfl⟩ := hw
  refine k_aload_n C 0 dX3_steps_4 rfl rfl ?_
  refine k_iload_n C 1 dX3_steps_5 rfl rfl ?_
  refine kx_callVV C TX (ar := 1) (As := [.int q]) (rest := []) (h3_requireCorner (kxL X) (kxD X) cI cJ cF cD TX.2.2 q hnf) gX3_steps_X3_requireCorner rfl rfl rfl (by decide +kernel) ⟨Nat.le_of_ble_eq_true rfl, Nat.le_of_ble_eq_true rfl⟩ 0 rfl rfl rfl rfl (Nat.le_of_ble_eq_true rfl) dX3_steps_6 (Nat.le_of_ble_eq_true rfl) (Nat.le_of_ble_eq_true rfl) (fun E w hx => hout _ _ _ _ _ _ (by obtain ⟨rfl, hc, rfl⟩ := hx; exact ⟨Or.inr ⟨rfl, h_1, by simp [hc]⟩, rfl⟩) (Nat.le_of_ble_eq_true rfl) (Nat.le_of_ble_eq_true rfl)) (fun w hw => ?_)
  obtain ⟨h_2, rfl⟩ := hw
  refine k_aload_n C 0 dX3_steps_9 rfl rfl ?_
  refine k_iload_n C 2 dX3_steps_10 rfl rfl ?_
  refine kx_callVV C TX (ar := 1) (As := [.int s9]) (rest := []) (h3_requireCorner (kxL X) (kxD X) cI cJ cF cD TX.2.2 s9 hnf) gX3_steps_X3_requireCorner rfl rfl rfl (by decide +kernel) ⟨Nat.le_of_ble_eq_true rfl, Nat.le_of_ble_eq_true rfl⟩ 0 rfl rfl rfl rfl (Nat.le_of_ble_eq_true rfl) dX3_steps_11 (Nat.le_of_ble_eq_true rfl) (Nat.le_of_ble_eq_true rfl) (fun E w hx => hout _ _ _ _ _ _ (by obtain ⟨rfl, hc, rfl⟩ := hx; exact ⟨Or.inr ⟨rfl, h_1, by simp [hc, h_2]⟩, rfl⟩) (Nat.le_of_ble_eq_true rfl) (Nat.le_of_ble_eq_true rfl)) (fun w hw => ?_)
  obtain ⟨h_3, rfl⟩ := hw
  have k2 := h_2
  have k3 := h_3
  rw [Bool.and_eq_true] at k2 k3
  obtain ⟨jq, hjq, eq_, cq⟩ := rngB_t (by omega) k2.1
  obtain ⟨js, hjs, es, cs⟩ := rngB_t (by omega) k3.1
  refine k_aload_n C 0 dX3_steps_14 rfl rfl ?_
  refine k_get C hinX3 0 1 rfl rfl (by decide) lk0 rfl rfl dX3_steps_15 ?_
  refine k_iload_n C 1 dX3_steps_18 rfl rfl ?_
  refine k_topi (nI jq) eq_ ?_
  refine k_iload_n C 2 dX3_steps_19 rfl rfl ?_
  refine k_topi (nI js) es ?_
  refine k_callVNI C (ar := 2) (As := [.int (nI jq), .int (nI js)]) (rest := []) (h1_walk (kxL X) (kxD X) cI cJ cF cD (by omega)) ggX3_steps_X1_walk rfl rfl rfl lk2 lk3 lk4 lk5 (by decide +kernel) ⟨Nat.le_of_ble_eq_true rfl, Nat.le_of_ble_eq_true rfl⟩ 5 rfl rfl rfl rfl (Nat.le_of_ble_eq_true rfl) dX3_steps_20 (Nat.le_of_ble_eq_true rfl) (Nat.le_of_ble_eq_true rfl) (fun r w hw => ?_)
  obtain ⟨rfl, rfl⟩ := hw
  exact hret _ _ _ _ _ _ (⟨⟨h_1, by rw [h_2, h_3]; rfl⟩, by rw [cq, cs], rfl⟩) (Nat.le_of_ble_eq_true rfl) (Nat.le_of_ble_eq_true rfl) dX3_steps_23
set_option maxHeartbeats 4000000 in
set_option maxRecDepth 100000 in
theorem h3_volume (l : Launch) (D : va_G) (cI cJ cF cD : ClassId) (htr9 : l.stackTraces = false) {ba fa ra : Nat → Nat} {hb : Int32} {co : Int32} {sx : Int64} {tr : Nat} {pm : Nat → Nat} {xs : Nat → Int32} {ys : Nat → Int32} {zs : Nat → Int32} {ax : Nat → Int32} {ay : Nat → Int32} {az : Nat → Int32} {al : Nat → Int32} {el : Nat → Nat} {eh : Nat → Nat} {mo : Nat → Int64} {nx : Nat → Int64} {ny : Nat → Int64} {nz : Nat → Int64} {dd : Nat → Int64} {hd : Nat → Int32} {sz : Nat → Nat} {rn : Nat → Nat → Nat} {nf nh ne np : Nat} (hnf : nf ≤ 44) (hh : nh ≤ 24) (hne : ne ≤ 66) (hnp : np ≤ 24) (hpm : ∀ x, pm x < 45) (hrn : ∀ x k, rn x k < 24) (hsz : ∀ x, sz x ≤ 24) (hel : ∀ x, el x < 24) (heh : ∀ x, eh x < 24) : CxL l D (tyG cI cJ cF cD) yX3_volume wsX3_volume ({ frames := 7, cells := 1, slots := 6, locals := 110 }) [.ref (ba 0)] (wB ba fa ra cI cJ cF hb (nI np) (nI nf) co (nI ne) (nI nh) sx tr pm xs ys zs ax ay az al el eh mo nx ny nz dd hd sz rn) (fun r w => nf ≠ 0 ∧ r = (sx) ∧ w = (wB ba fa ra cI cJ cF hb (nI np) (nI nf) co (nI ne) (nI nh) sx tr pm xs ys zs ax ay az al el eh mo nx ny nz dd hd sz rn)) (fun E w => (E = eIS ∧ nf = 0) ∧ w = (wB ba fa ra cI cJ cF hb (nI np) (nI nf) co (nI ne) (nI nh) sx tr pm xs ys zs ax ay az al el eh mo nx ny nz dd hd sz rn)) 1 6 := by
  refine cxL_of (cc := cX3_volume) (maxL := 1) htr9 (by decide) rfl (Nat.le_of_ble_eq_true rfl) ?_
  intro X hXl hXd C TX hret hout hthr
  have lk0 : Cond.fieldLink RX3 19 "HullBuilder" "hull" "LHullBuilder$Hull;" ∈ wsX3_volume := by decide +kernel
  have hinX3 : ∀ w ∈ wsX30, w ∈ wsX3_volume := by decide +kernel
  have lk2 : Cond.fieldLinkNest RX3 135 "HullBuilder$Hull" "sixVolumes" "J" "HullBuilder" ∈ kNW := by decide +kernel
  have hinX1 : ∀ w ∈ wsX10, w ∈ wsX3_volume := by decide +kernel
  show Kw X 0 0 (wB ba fa ra cI cJ cF hb (nI np) (nI nf) co (nI ne) (nI nh) sx tr pm xs ys zs ax ay az al el eh mo nx ny nz dd hd sz rn) 0 [(0, .ref (ba 0))] []
  refine k_aload_n C 0 dX3_volume_0 rfl rfl ?_
  refine kx_callVV C TX (ar := 0) (As := []) (rest := []) (h3_requireHull (kxL X) (kxD X) cI cJ cF cD TX.2.2 hnf) gX3_volume_X3_requireHull rfl rfl rfl (by decide +kernel) ⟨Nat.le_of_ble_eq_true rfl, Nat.le_of_ble_eq_true rfl⟩ 0 rfl rfl rfl rfl (Nat.le_of_ble_eq_true rfl) dX3_volume_1 (Nat.le_of_ble_eq_true rfl) (Nat.le_of_ble_eq_true rfl) (fun E w hx => hout _ _ _ _ _ _ (by obtain ⟨rfl, hc, rfl⟩ := hx; exact ⟨⟨rfl, hc⟩, rfl⟩) (Nat.le_of_ble_eq_true rfl) (Nat.le_of_ble_eq_true rfl)) (fun w hw => ?_)
  obtain ⟨h_1, rfl⟩ := hw
  refine k_aload_n C 0 dX3_volume_4 rfl rfl ?_
  refine k_get C hinX3 0 1 rfl rfl (by decide) lk0 rfl rfl dX3_volume_5 ?_
  refine k_getN C hinX1 5 9 rfl rfl (by decide) lk2 rfl rfl dX3_volume_8 ?_
  exact hret _ _ _ _ _ _ (⟨h_1, rfl, rfl⟩) (Nat.le_of_ble_eq_true rfl) (Nat.le_of_ble_eq_true rfl) dX3_volume_11
set_option maxHeartbeats 4000000 in
set_option maxRecDepth 100000 in
theorem h3_centre (l : Launch) (D : va_G) (cI cJ cF cD : ClassId) (htr9 : l.stackTraces = false) {ba fa ra : Nat → Nat} {hb : Int32} {co : Int32} {sx : Int64} {tr : Nat} {pm : Nat → Nat} {xs : Nat → Int32} {ys : Nat → Int32} {zs : Nat → Int32} {ax : Nat → Int32} {ay : Nat → Int32} {az : Nat → Int32} {al : Nat → Int32} {el : Nat → Nat} {eh : Nat → Nat} {mo : Nat → Int64} {nx : Nat → Int64} {ny : Nat → Int64} {nz : Nat → Int64} {dd : Nat → Int64} {hd : Nat → Int32} {sz : Nat → Nat} {rn : Nat → Nat → Nat} {nf nh ne np : Nat} (wh : Int32) (hnf : nf ≤ 44) (hh : nh ≤ 24) (hne : ne ≤ 66) (hnp : np ≤ 24) (hpm : ∀ x, pm x < 45) (hrn : ∀ x k, rn x k < 24) (hsz : ∀ x, sz x ≤ 24) (hel : ∀ x, el x < 24) (heh : ∀ x, eh x < 24) : CxL l D (tyG cI cJ cF cD) yX3_centre wsX3_centre ({ frames := 7, cells := 2, slots := 12, locals := 111 }) [.ref (ba 0), .int wh] (wB ba fa ra cI cJ cF hb (nI np) (nI nf) co (nI ne) (nI nh) sx tr pm xs ys zs ax ay az al el eh mo nx ny nz dd hd sz rn) (fun r w => (nf ≠ 0 ∧ (rngB 3 wh) = true) ∧ r = (mo wh.toNatClampNeg) ∧ w = (wB ba fa ra cI cJ cF hb (nI np) (nI nf) co (nI ne) (nI nh) sx tr pm xs ys zs ax ay az al el eh mo nx ny nz dd hd sz rn)) (fun E w => ((E = eIS ∧ nf = 0) ∨ (E = eIB ∧ nf ≠ 0 ∧ (rngB 3 wh) = false)) ∧ w = (wB ba fa ra cI cJ cF hb (nI np) (nI nf) co (nI ne) (nI nh) sx tr pm xs ys zs ax ay az al el eh mo nx ny nz dd hd sz rn)) 2 12 := by
  refine cxL_of (cc := cX3_centre) (maxL := 2) htr9 (by decide) rfl (Nat.le_of_ble_eq_true rfl) ?_
  intro X hXl hXd C TX hret hout hthr
  have lk0 : Cond.fieldLink RX3 19 "HullBuilder" "hull" "LHullBuilder$Hull;" ∈ wsX3_centre := by decide +kernel
  have hinX3 : ∀ w ∈ wsX30, w ∈ wsX3_centre := by decide +kernel
  have lk2 : Cond.fieldLinkNest RX3 138 "HullBuilder$Hull" "moments" "[J" "HullBuilder" ∈ kNW := by decide +kernel
  have hinX1 : ∀ w ∈ wsX10, w ∈ wsX3_centre := by decide +kernel
  show Kw X 0 0 (wB ba fa ra cI cJ cF hb (nI np) (nI nf) co (nI ne) (nI nh) sx tr pm xs ys zs ax ay az al el eh mo nx ny nz dd hd sz rn) 0 [(0, .ref (ba 0)), (1, .int wh)] []
  refine k_aload_n C 0 dX3_centre_0 rfl rfl ?_
  refine kx_callVV C TX (ar := 0) (As := []) (rest := []) (h3_requireHull (kxL X) (kxD X) cI cJ cF cD TX.2.2 hnf) gX3_centre_X3_requireHull rfl rfl rfl (by decide +kernel) ⟨Nat.le_of_ble_eq_true rfl, Nat.le_of_ble_eq_true rfl⟩ 0 rfl rfl rfl rfl (Nat.le_of_ble_eq_true rfl) dX3_centre_1 (Nat.le_of_ble_eq_true rfl) (Nat.le_of_ble_eq_true rfl) (fun E w hx => hout _ _ _ _ _ _ (by obtain ⟨rfl, hc, rfl⟩ := hx; exact ⟨Or.inl ⟨rfl, hc⟩, rfl⟩) (Nat.le_of_ble_eq_true rfl) (Nat.le_of_ble_eq_true rfl)) (fun w hw => ?_)
  obtain ⟨h_1, rfl⟩ := hw
  refine k_iload_n C 1 dX3_centre_4 rfl rfl ?_
  refine k_iconst C (v := (nI 3)) dX3_centre_5 (by decide) ?_
  refine kx_callSV C TX (ar := 2) (As := [.int wh, .int (nI 3)]) (rest := []) (h3_requirePlace (kxL X) (kxD X) cI cJ cF cD TX.2.2 _ wh 3) gX3_centre_X3_requirePlace rfl rfl rfl (by decide +kernel) ⟨Nat.le_of_ble_eq_true rfl, Nat.le_of_ble_eq_true rfl⟩ rfl rfl (Nat.le_of_ble_eq_true rfl) dX3_centre_6 (Nat.le_of_ble_eq_true rfl) (Nat.le_of_ble_eq_true rfl) (fun E w hx => hout _ _ _ _ _ _ (by obtain ⟨rfl, hc, rfl⟩ := hx; exact ⟨Or.inr ⟨rfl, h_1, by simp [hc]⟩, rfl⟩) (Nat.le_of_ble_eq_true rfl) (Nat.le_of_ble_eq_true rfl)) (fun w hw => ?_)
  obtain ⟨h_2, rfl⟩ := hw
  obtain ⟨jw, hjw, ew, cw⟩ := rngB_t (by omega) h_2
  refine k_aload_n C 0 dX3_centre_9 rfl rfl ?_
  refine k_get C hinX3 0 1 rfl rfl (by decide) lk0 rfl rfl dX3_centre_10 ?_
  refine k_getN C hinX1 5 10 rfl rfl (by decide) lk2 rfl rfl dX3_centre_13 ?_
  refine k_iload_n C 1 dX3_centre_16 rfl rfl ?_
  refine k_topi (nI jw) ew ?_
  refine k_lald C (j := jw) 14 1 rfl rfl (by omega) (by decide) dX3_centre_17 ?_
  exact hret _ _ _ _ _ _ (⟨⟨h_1, h_2⟩, by rw [cw], rfl⟩) (Nat.le_of_ble_eq_true rfl) (Nat.le_of_ble_eq_true rfl) dX3_centre_18
set_option maxHeartbeats 4000000 in
set_option maxRecDepth 100000 in
theorem h3_middle (l : Launch) (D : va_G) (cI cJ cF cD : ClassId) (htr9 : l.stackTraces = false) {ba fa ra : Nat → Nat} {hb : Int32} {co : Int32} {sx : Int64} {tr : Nat} {pm : Nat → Nat} {xs : Nat → Int32} {ys : Nat → Int32} {zs : Nat → Int32} {ax : Nat → Int32} {ay : Nat → Int32} {az : Nat → Int32} {al : Nat → Int32} {el : Nat → Nat} {eh : Nat → Nat} {mo : Nat → Int64} {nx : Nat → Int64} {ny : Nat → Int64} {nz : Nat → Int64} {dd : Nat → Int64} {hd : Nat → Int32} {sz : Nat → Nat} {rn : Nat → Nat → Nat} {nf nh ne np : Nat} (wh : Int32) (hnf : nf ≤ 44) (hh : nh ≤ 24) (hne : ne ≤ 66) (hnp : np ≤ 24) (hpm : ∀ x, pm x < 45) (hrn : ∀ x k, rn x k < 24) (hsz : ∀ x, sz x ≤ 24) (hel : ∀ x, el x < 24) (heh : ∀ x, eh x < 24) (hn1 : nf ≠ 0 → vf_n64 (FP.dmul c4D (FP.l2d sx))) (hn2 : nf ≠ 0 → ∀ k, vf_n64 (FP.ddiv (FP.l2d (mo k)) (FP.dmul c4D (FP.l2d sx)))) : CxD l D (tyG cI cJ cF cD) yX3_middle wsX3_middle ({ frames := 7, cells := 2, slots := 12, locals := 111 }) [.ref (ba 0), .int wh] (wB ba fa ra cI cJ cF hb (nI np) (nI nf) co (nI ne) (nI nh) sx tr pm xs ys zs ax ay az al el eh mo nx ny nz dd hd sz rn) (fun r w => (nf ≠ 0 ∧ (rngB 3 wh) = true) ∧ r = (mdC sx (mo wh.toNatClampNeg)) ∧ w = (wB ba fa ra cI cJ cF hb (nI np) (nI nf) co (nI ne) (nI nh) sx tr pm xs ys zs ax ay az al el eh mo nx ny nz dd hd sz rn)) (fun E w => ((E = eIS ∧ nf = 0) ∨ (E = eIB ∧ nf ≠ 0 ∧ (rngB 3 wh) = false)) ∧ w = (wB ba fa ra cI cJ cF hb (nI np) (nI nf) co (nI ne) (nI nh) sx tr pm xs ys zs ax ay az al el eh mo nx ny nz dd hd sz rn)) 2 12 := by
  refine cxD_of (cc := cX3_middle) (maxL := 4) htr9 (by decide) rfl (Nat.le_of_ble_eq_true rfl) ?_
  intro X hXl hXd C TX hret hout hthr
  have lk0 : Cond.constantDouble RX3 142 (c4D) ∈ wsX3_middle := by decide +kernel
  have lk1 : Cond.fieldLink RX3 19 "HullBuilder" "hull" "LHullBuilder$Hull;" ∈ wsX3_middle := by decide +kernel
  have hinX3 : ∀ w ∈ wsX30, w ∈ wsX3_middle := by decide +kernel
  have lk3 : Cond.fieldLinkNest RX3 135 "HullBuilder$Hull" "sixVolumes" "J" "HullBuilder" ∈ kNW := by decide +kernel
  have hinX1 : ∀ w ∈ wsX10, w ∈ wsX3_middle := by decide +kernel
  have lk5 : Cond.fieldLinkNest RX3 138 "HullBuilder$Hull" "moments" "[J" "HullBuilder" ∈ kNW := by decide +kernel
  show Kw X 0 0 (wB ba fa ra cI cJ cF hb (nI np) (nI nf) co (nI ne) (nI nh) sx tr pm xs ys zs ax ay az al el eh mo nx ny nz dd hd sz rn) 0 [(0, .ref (ba 0)), (1, .int wh)] []
  refine k_aload_n C 0 dX3_middle_0 rfl rfl ?_
  refine kx_callVV C TX (ar := 0) (As := []) (rest := []) (h3_requireHull (kxL X) (kxD X) cI cJ cF cD TX.2.2 hnf) gX3_middle_X3_requireHull rfl rfl rfl (by decide +kernel) ⟨Nat.le_of_ble_eq_true rfl, Nat.le_of_ble_eq_true rfl⟩ 0 rfl rfl rfl rfl (Nat.le_of_ble_eq_true rfl) dX3_middle_1 (Nat.le_of_ble_eq_true rfl) (Nat.le_of_ble_eq_true rfl) (fun E w hx => hout _ _ _ _ _ _ (by obtain ⟨rfl, hc, rfl⟩ := hx; exact ⟨Or.inl ⟨rfl, hc⟩, rfl⟩) (Nat.le_of_ble_eq_true rfl) (Nat.le_of_ble_eq_true rfl)) (fun w hw => ?_)
  obtain ⟨h_1, rfl⟩ := hw
  refine k_iload_n C 1 dX3_middle_4 rfl rfl ?_
  refine k_iconst C (v := (nI 3)) dX3_middle_5 (by decide) ?_
  refine kx_callSV C TX (ar := 2) (As := [.int wh, .int (nI 3)]) (rest := []) (h3_requirePlace (kxL X) (kxD X) cI cJ cF cD TX.2.2 _ wh 3) gX3_middle_X3_requirePlace rfl rfl rfl (by decide +kernel) ⟨Nat.le_of_ble_eq_true rfl, Nat.le_of_ble_eq_true rfl⟩ rfl rfl (Nat.le_of_ble_eq_true rfl) dX3_middle_6 (Nat.le_of_ble_eq_true rfl) (Nat.le_of_ble_eq_true rfl) (fun E w hx => hout _ _ _ _ _ _ (by obtain ⟨rfl, hc, rfl⟩ := hx; exact ⟨Or.inr ⟨rfl, h_1, by simp [hc]⟩, rfl⟩) (Nat.le_of_ble_eq_true rfl) (Nat.le_of_ble_eq_true rfl)) (fun w hw => ?_)
  obtain ⟨h_2, rfl⟩ := hw
  obtain ⟨jw, hjw, ew, cw⟩ := rngB_t (by omega) h_2
  refine k_ldc2d C (v := c4D) dX3_middle_9 lk0 ?_
  refine k_aload_n C 0 dX3_middle_12 rfl rfl ?_
  refine k_get C hinX3 0 1 rfl rfl (by decide) lk1 rfl rfl dX3_middle_13 ?_
  refine k_getN C hinX1 5 9 rfl rfl (by decide) lk3 rfl rfl dX3_middle_16 ?_
  refine k_l2d C dX3_middle_19 ?_
  refine k_dmul C dX3_middle_20 (by first | exact hn1 h_1 | exact hn2 h_1 _) ?_
  refine k_dstore_n C (lv' := [(2, .double (FP.dmul c4D (FP.l2d sx))), (0, .ref (ba 0)), (1, .int wh)]) dX3_middle_21 rfl (by decide) rfl ?_
  refine k_dload_n C 0 dX3_middle_22 rfl rfl ?_
  refine k_dconst0 C dX3_middle_23 ?_
  refine k_dcmp C dX3_middle_24 ?_
  refine k_if_le C 43 dX3_middle_25 (by decide) (fun h_3 => ?_) (fun h_3 => ?_)
  · refine k_dconst0 C dX3_middle_43 ?_
    exact hret _ _ _ _ _ _ (⟨⟨h_1, h_2⟩, by rw [cw, mdC]; first | rw [if_pos h_3] | rw [if_neg h_3], rfl⟩) (Nat.le_of_ble_eq_true rfl) (Nat.le_of_ble_eq_true rfl) dX3_middle_44
  · refine k_aload_n C 1 dX3_middle_28 rfl rfl ?_
    refine k_get C hinX3 0 1 rfl rfl (by decide) lk1 rfl rfl dX3_middle_29 ?_
    refine k_getN C hinX1 5 10 rfl rfl (by decide) lk5 rfl rfl dX3_middle_32 ?_
    refine k_iload_n C 2 dX3_middle_35 rfl rfl ?_
    refine k_topi (nI jw) ew ?_
    refine k_lald C (j := jw) 14 1 rfl rfl (by omega) (by decide) dX3_middle_36 ?_
    refine k_l2d C dX3_middle_37 ?_
    refine k_dload_n C 0 dX3_middle_38 rfl rfl ?_
    refine k_ddiv C dX3_middle_39 (by first | exact hn1 h_1 | exact hn2 h_1 _) ?_
    refine k_goto C 44 dX3_middle_40 (by decide) ?_
    exact hret _ _ _ _ _ _ (⟨⟨h_1, h_2⟩, by rw [cw, mdC]; first | rw [if_pos h_3] | rw [if_neg h_3], rfl⟩) (Nat.le_of_ble_eq_true rfl) (Nat.le_of_ble_eq_true rfl) dX3_middle_44
set_option maxHeartbeats 4000000 in
set_option maxRecDepth 100000 in
theorem h3_count (l : Launch) (D : va_G) (cI cJ cF cD : ClassId) (htr9 : l.stackTraces = false) {ba fa ra : Nat → Nat} {hb : Int32} {co : Int32} {sx : Int64} {tr : Nat} {pm : Nat → Nat} {xs : Nat → Int32} {ys : Nat → Int32} {zs : Nat → Int32} {ax : Nat → Int32} {ay : Nat → Int32} {az : Nat → Int32} {al : Nat → Int32} {el : Nat → Nat} {eh : Nat → Nat} {mo : Nat → Int64} {nx : Nat → Int64} {ny : Nat → Int64} {nz : Nat → Int64} {dd : Nat → Int64} {hd : Nat → Int32} {sz : Nat → Nat} {rn : Nat → Nat → Nat} {nf nh ne np : Nat} (wh : Int32) (hnf : nf ≤ 44) (hh : nh ≤ 24) (hne : ne ≤ 66) (hnp : np ≤ 24) (hpm : ∀ x, pm x < 45) (hrn : ∀ x k, rn x k < 24) (hsz : ∀ x, sz x ≤ 24) (hel : ∀ x, el x < 24) (heh : ∀ x, eh x < 24) : CxI l D (tyG cI cJ cF cD) yX3_count wsX3_count ({ frames := 6, cells := 1, slots := 6, locals := 90 }) [.ref (ba 0), .int wh] (wB ba fa ra cI cJ cF hb (nI np) (nI nf) co (nI ne) (nI nh) sx tr pm xs ys zs ax ay az al el eh mo nx ny nz dd hd sz rn) (fun r w => (rngB 5 wh) = true ∧ r = (cnC np nf ne co hb wh.toNatClampNeg) ∧ w = (wB ba fa ra cI cJ cF hb (nI np) (nI nf) co (nI ne) (nI nh) sx tr pm xs ys zs ax ay az al el eh mo nx ny nz dd hd sz rn)) (fun E w => (E = eIB ∧ (rngB 5 wh) = false) ∧ w = (wB ba fa ra cI cJ cF hb (nI np) (nI nf) co (nI ne) (nI nh) sx tr pm xs ys zs ax ay az al el eh mo nx ny nz dd hd sz rn)) 1 6 := by
  refine cxI_of (cc := cX3_count) (maxL := 2) htr9 (by decide) rfl (Nat.le_of_ble_eq_true rfl) ?_
  intro X hXl hXd C TX hret hout hthr
  have kt_eIB : kThr RX3 wsX3_count eIB 153 157 := ⟨by decide +kernel, by decide +kernel, by decide +kernel, fun w h => List.mem_cons_of_mem _ (List.mem_append_right _ h), bad_IB, ot_IB⟩
  have lk1 : Cond.fieldLink RX3 12 "HullBuilder" "points" "LHullBuilder$Points;" ∈ wsX3_count := by decide +kernel
  have hinX3 : ∀ w ∈ wsX30, w ∈ wsX3_count := by decide +kernel
  have lk3 : Cond.fieldLinkNest RX3 42 "HullBuilder$Points" "size" "I" "HullBuilder" ∈ kNW := by decide +kernel
  have hinX2 : ∀ w ∈ wsX20, w ∈ wsX3_count := by decide +kernel
  have lk5 : Cond.fieldLink RX3 19 "HullBuilder" "hull" "LHullBuilder$Hull;" ∈ wsX3_count := by decide +kernel
  have lk6 : Cond.fieldLinkNest RX3 72 "HullBuilder$Hull" "faceCount" "I" "HullBuilder" ∈ kNW := by decide +kernel
  have hinX1 : ∀ w ∈ wsX10, w ∈ wsX3_count := by decide +kernel
  have lk8 : Cond.fieldLinkNest RX3 106 "HullBuilder$Hull" "edgeCount" "I" "HullBuilder" ∈ kNW := by decide +kernel
  have lk9 : Cond.fieldLinkNest RX3 144 "HullBuilder$Hull" "corners" "I" "HullBuilder" ∈ kNW := by decide +kernel
  have lk10 : Cond.fieldLink RX3 23 "HullBuilder" "hullsBuilt" "I" ∈ wsX3_count := by decide +kernel
  show Kw X 0 0 (wB ba fa ra cI cJ cF hb (nI np) (nI nf) co (nI ne) (nI nh) sx tr pm xs ys zs ax ay az al el eh mo nx ny nz dd hd sz rn) 0 [(0, .ref (ba 0)), (1, .int wh)] []
  refine k_iload_n C 1 dX3_count_0 rfl rfl ?_
  cases hr : rngB 5 wh with
  | false =>
    refine k_tableOut C 76 dX3_count_1 (rngB_out (by decide) hr (by decide)) (by decide) ?_
    exact hthr eIB "nothing is counted there" 153 155 157 _ _ _ _ _ _ (⟨⟨rfl, hr⟩, rfl⟩) kt_eIB (by decide) rfl dX3_count_76 dX3_count_79 dX3_count_80 dX3_count_82 dX3_count_85 (Nat.le_of_ble_eq_true rfl) (Nat.le_of_ble_eq_true rfl) (Nat.le_of_ble_eq_true rfl) (Nat.le_of_ble_eq_true rfl) (Nat.le_of_ble_eq_true rfl) (Nat.le_of_ble_eq_true rfl)
  | true =>
    obtain ⟨jw, hjw, ew, cw⟩ := rngB_t (by decide) hr
    refine k_topi (nI jw) ew ?_
    rcases (show jw = 0 ∨ jw = 1 ∨ jw = 2 ∨ jw = 3 ∨ jw = 4 by omega) with hsw | hsw | hsw | hsw | hsw
    · refine k_topi (nI 0) (by rw [hsw]) ?_
      refine k_tableIn C 36 dX3_count_1 (by decide) (by decide) rfl (by decide) ?_
      refine k_aload_n C 0 dX3_count_36 rfl rfl ?_
      refine k_get C hinX3 0 0 rfl rfl (by decide) lk1 rfl rfl dX3_count_37 ?_
      refine k_getN C hinX2 1 3 rfl rfl (by decide) lk3 rfl rfl dX3_count_40 ?_
      exact hret _ _ _ _ _ _ (⟨hr, by rw [cw]; simp [cnC, hsw], rfl⟩) (Nat.le_of_ble_eq_true rfl) (Nat.le_of_ble_eq_true rfl) dX3_count_43
    · refine k_topi (nI 1) (by rw [hsw]) ?_
      refine k_tableIn C 44 dX3_count_1 (by decide) (by decide) rfl (by decide) ?_
      refine k_aload_n C 0 dX3_count_44 rfl rfl ?_
      refine k_get C hinX3 0 1 rfl rfl (by decide) lk5 rfl rfl dX3_count_45 ?_
      refine k_getN C hinX1 5 3 rfl rfl (by decide) lk6 rfl rfl dX3_count_48 ?_
      exact hret _ _ _ _ _ _ (⟨hr, by rw [cw]; simp [cnC, hsw], rfl⟩) (Nat.le_of_ble_eq_true rfl) (Nat.le_of_ble_eq_true rfl) dX3_count_51
    · refine k_topi (nI 2) (by rw [hsw]) ?_
      refine k_tableIn C 52 dX3_count_1 (by decide) (by decide) rfl (by decide) ?_
      refine k_aload_n C 0 dX3_count_52 rfl rfl ?_
      refine k_get C hinX3 0 1 rfl rfl (by decide) lk5 rfl rfl dX3_count_53 ?_
      refine k_getN C hinX1 5 8 rfl rfl (by decide) lk8 rfl rfl dX3_count_56 ?_
      exact hret _ _ _ _ _ _ (⟨hr, by rw [cw]; simp [cnC, hsw], rfl⟩) (Nat.le_of_ble_eq_true rfl) (Nat.le_of_ble_eq_true rfl) dX3_count_59
    · refine k_topi (nI 3) (by rw [hsw]) ?_
      refine k_tableIn C 60 dX3_count_1 (by decide) (by decide) rfl (by decide) ?_
      refine k_aload_n C 0 dX3_count_60 rfl rfl ?_
      refine k_get C hinX3 0 1 rfl rfl (by decide) lk5 rfl rfl dX3_count_61 ?_
      refine k_getN C hinX1 5 4 rfl rfl (by decide) lk9 rfl rfl dX3_count_64 ?_
      refine k_callSI C (ar := 1) (As := [.int co]) (rest := []) (h6_bitCount_0f7a4 (kxL X) (kxD X) cI cJ cF cD _ co) gX3_count_J6_bitCount_0f7a4 rfl rfl rfl (by decide +kernel) ⟨Nat.le_of_ble_eq_true rfl, Nat.le_of_ble_eq_true rfl⟩ rfl rfl (Nat.le_of_ble_eq_true rfl) dX3_count_67 (Nat.zero_le _) (Nat.zero_le _) (fun r w hw => ?_)
      obtain ⟨rfl, rfl⟩ := hw
      exact hret _ _ _ _ _ _ (⟨hr, by rw [cw]; simp [cnC, hsw], rfl⟩) (Nat.le_of_ble_eq_true rfl) (Nat.le_of_ble_eq_true rfl) dX3_count_70
    · refine k_topi (nI 4) (by rw [hsw]) ?_
      refine k_tableIn C 71 dX3_count_1 (by decide) (by decide) rfl (by decide) ?_
      refine k_aload_n C 0 dX3_count_71 rfl rfl ?_
      refine k_get C hinX3 0 2 rfl rfl (by decide) lk10 rfl rfl dX3_count_72 ?_
      exact hret _ _ _ _ _ _ (⟨hr, by rw [cw]; simp [cnC, hsw], rfl⟩) (Nat.le_of_ble_eq_true rfl) (Nat.le_of_ble_eq_true rfl) dX3_count_75
