/-! ===== the class: its contracts ===== -/
set_option maxHeartbeats 4000000 in
set_option maxRecDepth 100000 in
theorem h3_requirePlace (l : Launch) (D : va_G) (cI cJ cF cD : ClassId) (htr9 : l.stackTraces = false) (ws9 : va_W)  (q : Int32) (e : Nat)  : CxV l D (tyG cI cJ cF cD) yX3_requirePlace wsX3_requirePlace ({ frames := 6, cells := 1, slots := 6, locals := 90 }) [.int q, .int (nI e)] ws9 (fun w => rngB e q = true ∧ w = ws9) (fun E w => E = eIB ∧ rngB e q = false ∧ w = ws9) 1 6 := by
  refine cxV_of (cc := cX3_requirePlace) (maxL := 2) htr9 (by decide) rfl (Nat.le_of_ble_eq_true rfl) ?_
  intro X hXl hXd C TX hret hout hthr
  have kt_eIB : kThr RX3 wsX3_requirePlace eIB 153 157 := ⟨by decide +kernel, by decide +kernel, by decide +kernel, fun w h => List.mem_cons_of_mem _ (List.mem_append_right _ h), bad_IB, ot_IB⟩
  show Kw X 0 0 ws9 0 [(0, .int q), (1, .int (nI e))] []
  refine k_iload_n C 0 dX3_requirePlace_0 rfl rfl ?_
  refine k_if_lt C 9 dX3_requirePlace_1 (by decide) (fun h_1 => ?_) (fun h_1 => ?_)
  · exact hthr eIB "there is no such place" 153 166 157 _ _ _ _ _ _ (⟨rfl, by simp [rngB, h_1], rfl⟩) kt_eIB (by decide) rfl dX3_requirePlace_9 dX3_requirePlace_12 dX3_requirePlace_13 dX3_requirePlace_15 dX3_requirePlace_18 (Nat.le_of_ble_eq_true rfl) (Nat.le_of_ble_eq_true rfl) (Nat.le_of_ble_eq_true rfl) (Nat.le_of_ble_eq_true rfl) (Nat.le_of_ble_eq_true rfl) (Nat.le_of_ble_eq_true rfl)
  · refine k_iload_n C 0 dX3_requirePlace_4 rfl rfl ?_
    refine k_iload_n C 1 dX3_requirePlace_5 rfl rfl ?_
    refine k_icmp_lt C 19 dX3_requirePlace_6 (by decide) (fun h_2 => ?_) (fun h_2 => ?_)
    · exact hret _ _ _ _ _ (⟨by simp [rngB, h_1, h_2], rfl⟩) (Nat.le_of_ble_eq_true rfl) (Nat.le_of_ble_eq_true rfl) dX3_requirePlace_19
    · exact hthr eIB "there is no such place" 153 166 157 _ _ _ _ _ _ (⟨rfl, by simp [rngB, Int32.not_lt.mp h_2], rfl⟩) kt_eIB (by decide) rfl dX3_requirePlace_9 dX3_requirePlace_12 dX3_requirePlace_13 dX3_requirePlace_15 dX3_requirePlace_18 (Nat.le_of_ble_eq_true rfl) (Nat.le_of_ble_eq_true rfl) (Nat.le_of_ble_eq_true rfl) (Nat.le_of_ble_eq_true rfl) (Nat.le_of_ble_eq_true rfl) (Nat.le_of_ble_eq_true rfl)
set_option maxHeartbeats 4000000 in
set_option maxRecDepth 100000 in
theorem h3_requireReach (l : Launch) (D : va_G) (cI cJ cF cD : ClassId) (htr9 : l.stackTraces = false) (ws9 : va_W)  (x y z q : Int32)  : CxV l D (tyG cI cJ cF cD) yX3_requireReach wsX3_requireReach ({ frames := 6, cells := 1, slots := 6, locals := 90 }) [.int x, .int y, .int z, .int q] ws9 (fun w => (withinB x q && withinB y q && withinB z q) = true ∧ w = ws9) (fun E w => E = eIA ∧ (withinB x q && withinB y q && withinB z q) = false ∧ w = ws9) 1 6 := by
  refine cxV_of (cc := cX3_requireReach) (maxL := 4) htr9 (by decide) rfl (Nat.le_of_ble_eq_true rfl) ?_
  intro X hXl hXd C TX hret hout hthr
  have kt_eIA : kThr RX3 wsX3_requireReach eIA 35 39 := ⟨by decide +kernel, by decide +kernel, by decide +kernel, fun w h => List.mem_cons_of_mem _ (List.mem_append_right _ h), bad_IA, ot_IA⟩
  show Kw X 0 0 ws9 0 [(0, .int x), (1, .int y), (2, .int z), (3, .int q)] []
  refine k_iload_n C 0 dX3_requireReach_0 rfl rfl ?_
  refine k_iload_n C 3 dX3_requireReach_1 rfl rfl ?_
  refine k_callSI C (ar := 2) (As := [.int x, .int q]) (rest := []) (h3_isWithin (kxL X) (kxD X) cI cJ cF cD _ x q) gX3_requireReach_X3_isWithin rfl rfl rfl (by decide +kernel) ⟨Nat.le_of_ble_eq_true rfl, Nat.le_of_ble_eq_true rfl⟩ rfl rfl (Nat.le_of_ble_eq_true rfl) dX3_requireReach_2 (Nat.zero_le _) (Nat.zero_le _) (fun r w hw => ?_)
  obtain ⟨rfl, rfl⟩ := hw
  refine k_if_eqB C 24 dX3_requireReach_5 (by decide) (fun h_1 => ?_) (fun h_1 => ?_)
  · exact hthr eIA "a coordinate is out of reach" 35 171 39 _ _ _ _ _ _ (⟨rfl, by simp [h_1], rfl⟩) kt_eIA (by decide) rfl dX3_requireReach_24 dX3_requireReach_27 dX3_requireReach_28 dX3_requireReach_30 dX3_requireReach_33 (Nat.le_of_ble_eq_true rfl) (Nat.le_of_ble_eq_true rfl) (Nat.le_of_ble_eq_true rfl) (Nat.le_of_ble_eq_true rfl) (Nat.le_of_ble_eq_true rfl) (Nat.le_of_ble_eq_true rfl)
  · refine k_iload_n C 1 dX3_requireReach_8 rfl rfl ?_
    refine k_iload_n C 3 dX3_requireReach_9 rfl rfl ?_
    refine k_callSI C (ar := 2) (As := [.int y, .int q]) (rest := []) (h3_isWithin (kxL X) (kxD X) cI cJ cF cD _ y q) gX3_requireReach_X3_isWithin rfl rfl rfl (by decide +kernel) ⟨Nat.le_of_ble_eq_true rfl, Nat.le_of_ble_eq_true rfl⟩ rfl rfl (Nat.le_of_ble_eq_true rfl) dX3_requireReach_10 (Nat.zero_le _) (Nat.zero_le _) (fun r w hw => ?_)
    obtain ⟨rfl, rfl⟩ := hw
    refine k_if_eqB C 24 dX3_requireReach_13 (by decide) (fun h_2 => ?_) (fun h_2 => ?_)
    · exact hthr eIA "a coordinate is out of reach" 35 171 39 _ _ _ _ _ _ (⟨rfl, by simp [h_1, h_2], rfl⟩) kt_eIA (by decide) rfl dX3_requireReach_24 dX3_requireReach_27 dX3_requireReach_28 dX3_requireReach_30 dX3_requireReach_33 (Nat.le_of_ble_eq_true rfl) (Nat.le_of_ble_eq_true rfl) (Nat.le_of_ble_eq_true rfl) (Nat.le_of_ble_eq_true rfl) (Nat.le_of_ble_eq_true rfl) (Nat.le_of_ble_eq_true rfl)
    · refine k_iload_n C 2 dX3_requireReach_16 rfl rfl ?_
      refine k_iload_n C 3 dX3_requireReach_17 rfl rfl ?_
      refine k_callSI C (ar := 2) (As := [.int z, .int q]) (rest := []) (h3_isWithin (kxL X) (kxD X) cI cJ cF cD _ z q) gX3_requireReach_X3_isWithin rfl rfl rfl (by decide +kernel) ⟨Nat.le_of_ble_eq_true rfl, Nat.le_of_ble_eq_true rfl⟩ rfl rfl (Nat.le_of_ble_eq_true rfl) dX3_requireReach_18 (Nat.zero_le _) (Nat.zero_le _) (fun r w hw => ?_)
      obtain ⟨rfl, rfl⟩ := hw
      refine k_if_neB C 34 dX3_requireReach_21 (by decide) (fun h_3 => ?_) (fun h_3 => ?_)
      · exact hret _ _ _ _ _ (⟨by simp [h_1, h_2, h_3], rfl⟩) (Nat.le_of_ble_eq_true rfl) (Nat.le_of_ble_eq_true rfl) dX3_requireReach_34
      · exact hthr eIA "a coordinate is out of reach" 35 171 39 _ _ _ _ _ _ (⟨rfl, by simp [h_1, h_2, h_3], rfl⟩) kt_eIA (by decide) rfl dX3_requireReach_24 dX3_requireReach_27 dX3_requireReach_28 dX3_requireReach_30 dX3_requireReach_33 (Nat.le_of_ble_eq_true rfl) (Nat.le_of_ble_eq_true rfl) (Nat.le_of_ble_eq_true rfl) (Nat.le_of_ble_eq_true rfl) (Nat.le_of_ble_eq_true rfl) (Nat.le_of_ble_eq_true rfl)
set_option maxHeartbeats 4000000 in
set_option maxRecDepth 100000 in
theorem h3_requireHull (l : Launch) (D : va_G) (cI cJ cF cD : ClassId) (htr9 : l.stackTraces = false) {ba fa ra : Nat → Nat} {hb : Int32} {ps : Int32} {co : Int32} {ec : Int32} {asz : Int32} {sx : Int64} {tr : Nat} {pm : Nat → Nat} {xs : Nat → Int32} {ys : Nat → Int32} {zs : Nat → Int32} {ax : Nat → Int32} {ay : Nat → Int32} {az : Nat → Int32} {al : Nat → Int32} {el : Nat → Nat} {eh : Nat → Nat} {mo : Nat → Int64} {nx : Nat → Int64} {ny : Nat → Int64} {nz : Nat → Int64} {dd : Nat → Int64} {hd : Nat → Int32} {sz : Nat → Nat} {rn : Nat → Nat → Nat} {nf : Nat} (hnf : nf ≤ 44) : CxV l D (tyG cI cJ cF cD) yX3_requireHull wsX3_requireHull ({ frames := 6, cells := 1, slots := 6, locals := 90 }) [.ref (ba 0)] (wB ba fa ra cI cJ cF hb ps (nI nf) co ec asz sx tr pm xs ys zs ax ay az al el eh mo nx ny nz dd hd sz rn) (fun w => nf ≠ 0 ∧ w = (wB ba fa ra cI cJ cF hb ps (nI nf) co ec asz sx tr pm xs ys zs ax ay az al el eh mo nx ny nz dd hd sz rn)) (fun E w => E = eIS ∧ nf = 0 ∧ w = (wB ba fa ra cI cJ cF hb ps (nI nf) co ec asz sx tr pm xs ys zs ax ay az al el eh mo nx ny nz dd hd sz rn)) 1 6 := by
  refine cxV_of (cc := cX3_requireHull) (maxL := 1) htr9 (by decide) rfl (Nat.le_of_ble_eq_true rfl) ?_
  intro X hXl hXd C TX hret hout hthr
  have lk0 : Cond.fieldLink RX3 19 "HullBuilder" "hull" "LHullBuilder$Hull;" ∈ wsX3_requireHull := by decide +kernel
  have hinX3 : ∀ w ∈ wsX30, w ∈ wsX3_requireHull := by decide +kernel
  have lk2 : Cond.fieldLinkNest RX3 72 "HullBuilder$Hull" "faceCount" "I" "HullBuilder" ∈ kNW := by decide +kernel
  have hinX1 : ∀ w ∈ wsX10, w ∈ wsX3_requireHull := by decide +kernel
  have kt_eIS : kThr RX3 wsX3_requireHull eIS 45 49 := ⟨by decide +kernel, by decide +kernel, by decide +kernel, fun w h => List.mem_cons_of_mem _ (List.mem_append_right _ h), bad_IS, ot_IS⟩
  show Kw X 0 0 (wB ba fa ra cI cJ cF hb ps (nI nf) co ec asz sx tr pm xs ys zs ax ay az al el eh mo nx ny nz dd hd sz rn) 0 [(0, .ref (ba 0))] []
  refine k_aload_n C 0 dX3_requireHull_0 rfl rfl ?_
  refine k_get C hinX3 0 1 rfl rfl (by decide) lk0 rfl rfl dX3_requireHull_1 ?_
  refine k_getN C hinX1 5 3 rfl rfl (by decide) lk2 rfl rfl dX3_requireHull_4 ?_
  refine k_if_neN C (by omega) 20 dX3_requireHull_7 (by decide) (fun h_1 => ?_) (fun h_1 => ?_)
  · exact hret _ _ _ _ _ (⟨h_1, rfl⟩) (Nat.le_of_ble_eq_true rfl) (Nat.le_of_ble_eq_true rfl) dX3_requireHull_20
  · exact hthr eIS "there is no hull" 45 158 49 _ _ _ _ _ _ (⟨rfl, h_1, rfl⟩) kt_eIS (by decide) rfl dX3_requireHull_10 dX3_requireHull_13 dX3_requireHull_14 dX3_requireHull_16 dX3_requireHull_19 (Nat.le_of_ble_eq_true rfl) (Nat.le_of_ble_eq_true rfl) (Nat.le_of_ble_eq_true rfl) (Nat.le_of_ble_eq_true rfl) (Nat.le_of_ble_eq_true rfl) (Nat.le_of_ble_eq_true rfl)
set_option maxHeartbeats 4000000 in
set_option maxRecDepth 100000 in
theorem h3_requireCorner (l : Launch) (D : va_G) (cI cJ cF cD : ClassId) (htr9 : l.stackTraces = false) {ba fa ra : Nat → Nat} {hb : Int32} {ps : Int32} {co : Int32} {ec : Int32} {asz : Int32} {sx : Int64} {tr : Nat} {pm : Nat → Nat} {xs : Nat → Int32} {ys : Nat → Int32} {zs : Nat → Int32} {ax : Nat → Int32} {ay : Nat → Int32} {az : Nat → Int32} {al : Nat → Int32} {el : Nat → Nat} {eh : Nat → Nat} {mo : Nat → Int64} {nx : Nat → Int64} {ny : Nat → Int64} {nz : Nat → Int64} {dd : Nat → Int64} {hd : Nat → Int32} {sz : Nat → Nat} {rn : Nat → Nat → Nat} {nf : Nat} (q : Int32) (hnf : nf ≤ 44) : CxV l D (tyG cI cJ cF cD) yX3_requireCorner wsX3_requireCorner ({ frames := 7, cells := 2, slots := 12, locals := 111 }) [.ref (ba 0), .int q] (wB ba fa ra cI cJ cF hb ps (nI nf) co ec asz sx tr pm xs ys zs ax ay az al el eh mo nx ny nz dd hd sz rn) (fun w => (rngB 24 q && hldB co q.toNatClampNeg) = true ∧ w = (wB ba fa ra cI cJ cF hb ps (nI nf) co ec asz sx tr pm xs ys zs ax ay az al el eh mo nx ny nz dd hd sz rn)) (fun E w => E = eIB ∧ (rngB 24 q && hldB co q.toNatClampNeg) = false ∧ w = (wB ba fa ra cI cJ cF hb ps (nI nf) co ec asz sx tr pm xs ys zs ax ay az al el eh mo nx ny nz dd hd sz rn)) 2 12 := by
  refine cxV_of (cc := cX3_requireCorner) (maxL := 2) htr9 (by decide) rfl (Nat.le_of_ble_eq_true rfl) ?_
  intro X hXl hXd C TX hret hout hthr
  have lk0 : Cond.fieldLink RX3 19 "HullBuilder" "hull" "LHullBuilder$Hull;" ∈ wsX3_requireCorner := by decide +kernel
  have hinX3 : ∀ w ∈ wsX30, w ∈ wsX3_requireCorner := by decide +kernel
  have lk2 : Cond.fieldLinkNest RX3 144 "HullBuilder$Hull" "corners" "I" "HullBuilder" ∈ kNW := by decide +kernel
  have hinX1 : ∀ w ∈ wsX10, w ∈ wsX3_requireCorner := by decide +kernel
  have kt_eIB : kThr RX3 wsX3_requireCorner eIB 153 157 := ⟨by decide +kernel, by decide +kernel, by decide +kernel, fun w h => List.mem_cons_of_mem _ (List.mem_append_right _ h), bad_IB, ot_IB⟩
  show Kw X 0 0 (wB ba fa ra cI cJ cF hb ps (nI nf) co ec asz sx tr pm xs ys zs ax ay az al el eh mo nx ny nz dd hd sz rn) 0 [(0, .ref (ba 0)), (1, .int q)] []
  refine k_iload_n C 1 dX3_requireCorner_0 rfl rfl ?_
  refine k_bipush C (v := (nI 24)) dX3_requireCorner_1 (by decide) ?_
  refine kx_callSV C TX (ar := 2) (As := [.int q, .int (nI 24)]) (rest := []) (h3_requirePlace (kxL X) (kxD X) cI cJ cF cD TX.2.2 _ q 24) gX3_requireCorner_X3_requirePlace rfl rfl rfl (by decide +kernel) ⟨Nat.le_of_ble_eq_true rfl, Nat.le_of_ble_eq_true rfl⟩ rfl rfl (Nat.le_of_ble_eq_true rfl) dX3_requireCorner_3 (Nat.le_of_ble_eq_true rfl) (Nat.le_of_ble_eq_true rfl) (fun E w hx => hout _ _ _ _ _ _ (by obtain ⟨rfl, hc, rfl⟩ := hx; exact ⟨rfl, by simp [hc], rfl⟩) (Nat.le_of_ble_eq_true rfl) (Nat.le_of_ble_eq_true rfl)) (fun w hw => ?_)
  obtain ⟨h_1, rfl⟩ := hw
  obtain ⟨jq, hjq, eq_, cq⟩ := rngB_t (by omega) h_1
  refine k_aload_n C 0 dX3_requireCorner_6 rfl rfl ?_
  refine k_get C hinX3 0 1 rfl rfl (by decide) lk0 rfl rfl dX3_requireCorner_7 ?_
  refine k_getN C hinX1 5 4 rfl rfl (by decide) lk2 rfl rfl dX3_requireCorner_10 ?_
  refine k_iload_n C 1 dX3_requireCorner_13 rfl rfl ?_
  refine k_topi (nI jq) eq_ ?_
  refine k_callSI C (ar := 2) (As := [.int co, .int (nI jq)]) (rest := []) (h3_holds (kxL X) (kxD X) cI cJ cF cD _ co jq) gX3_requireCorner_X3_holds rfl rfl rfl (by decide +kernel) ⟨Nat.le_of_ble_eq_true rfl, Nat.le_of_ble_eq_true rfl⟩ rfl rfl (Nat.le_of_ble_eq_true rfl) dX3_requireCorner_14 (Nat.le_of_ble_eq_true rfl) (Nat.le_of_ble_eq_true rfl) (fun r w hw => ?_)
  obtain ⟨rfl, rfl⟩ := hw
  refine k_if_neB C 30 dX3_requireCorner_17 (by decide) (fun h_2 => ?_) (fun h_2 => ?_)
  · exact hret _ _ _ _ _ (⟨by rw [cq]; simp [h_1, h_2], rfl⟩) (Nat.le_of_ble_eq_true rfl) (Nat.le_of_ble_eq_true rfl) dX3_requireCorner_30
  · exact hthr eIB "that is no corner" 153 164 157 _ _ _ _ _ _ (⟨rfl, by rw [cq]; simp [h_1, h_2], rfl⟩) kt_eIB (by decide) rfl dX3_requireCorner_20 dX3_requireCorner_23 dX3_requireCorner_24 dX3_requireCorner_26 dX3_requireCorner_29 (Nat.le_of_ble_eq_true rfl) (Nat.le_of_ble_eq_true rfl) (Nat.le_of_ble_eq_true rfl) (Nat.le_of_ble_eq_true rfl) (Nat.le_of_ble_eq_true rfl) (Nat.le_of_ble_eq_true rfl)
