/-! ===== the class: its contracts ===== -/
set_option maxHeartbeats 4000000 in
set_option maxRecDepth 100000 in
theorem h3_point (l : Launch) (D : va_G) (cI cJ cF cD : ClassId) (htr9 : l.stackTraces = false) {ba fa ra : Nat → Nat} {hb : Int32} {fc : Int32} {co : Int32} {ec : Int32} {asz : Int32} {sx : Int64} {tr : Nat} {pm : Nat → Nat} {xs : Nat → Int32} {ys : Nat → Int32} {zs : Nat → Int32} {ax : Nat → Int32} {ay : Nat → Int32} {az : Nat → Int32} {al : Nat → Int32} {el : Nat → Nat} {eh : Nat → Nat} {mo : Nat → Int64} {nx : Nat → Int64} {ny : Nat → Int64} {nz : Nat → Int64} {dd : Nat → Int64} {hd : Nat → Int32} {sz : Nat → Nat} {rn : Nat → Nat → Nat} {np : Nat} (x y z : Int32) (hnp : np ≤ 24) : CxI l D (tyG cI cJ cF cD) yX3_point wsX3_point ({ frames := 7, cells := 2, slots := 12, locals := 113 }) [.ref (ba 0), .int x, .int y, .int z] (wB ba fa ra cI cJ cF hb (nI np) fc co ec asz sx tr pm xs ys zs ax ay az al el eh mo nx ny nz dd hd sz rn) (fun r w => (ptB np xs ys zs x y z = true ∧ np < 24) ∧ r = nI np ∧ w = (wB ba fa ra cI cJ cF hb (nI (np + 1)) fc co ec asz sx tr pm (upd xs np x) (upd ys np y) (upd zs np z) ax ay az al el eh mo nx ny nz dd hd sz rn)) (fun E w => ((E = eIA ∧ ptB np xs ys zs x y z = false) ∨ (E = eIS ∧ ptB np xs ys zs x y z = true ∧ np = 24)) ∧ w = (wB ba fa ra cI cJ cF hb (nI np) fc co ec asz sx tr pm xs ys zs ax ay az al el eh mo nx ny nz dd hd sz rn)) 2 12 := by
  refine cxI_of (cc := cX3_point) (maxL := 4) htr9 (by decide) rfl (Nat.le_of_ble_eq_true rfl) ?_
  intro X hXl hXd C TX hret hout hthr
  have lk0 : Cond.fieldLink RX3 12 "HullBuilder" "points" "LHullBuilder$Points;" ∈ wsX3_point := by decide +kernel
  have hinX3 : ∀ w ∈ wsX30, w ∈ wsX3_point := by decide +kernel
  have lk2 : Cond.methodLinkNest RX3 31 yX2_isTaken "HullBuilder" ∈ kNW := by decide +kernel
  have lk3 : Cond.initialized RX2 ∈ wsX3_point := by decide +kernel
  have lk4 : Cond.instanceMethod yX2_isTaken ∈ wsX3_point := by decide +kernel
  have lk5 : Cond.selects RX2 yX2_isTaken yX2_isTaken ∈ wsX3_point := by decide +kernel
  have lk6 : Cond.fieldLinkNest RX3 42 "HullBuilder$Points" "size" "I" "HullBuilder" ∈ kNW := by decide +kernel
  have hinX2 : ∀ w ∈ wsX20, w ∈ wsX3_point := by decide +kernel
  have lk8 : Cond.methodLinkNest RX3 50 yX2_append "HullBuilder" ∈ kNW := by decide +kernel
  have lk9 : Cond.instanceMethod yX2_append ∈ wsX3_point := by decide +kernel
  have lk10 : Cond.selects RX2 yX2_append yX2_append ∈ wsX3_point := by decide +kernel
  have kt_eIS : kThr RX3 wsX3_point eIS 45 49 := ⟨by decide +kernel, by decide +kernel, by decide +kernel, fun w h => List.mem_cons_of_mem _ (List.mem_append_right _ h), bad_IS, ot_IS⟩
  have kt_eIA : kThr RX3 wsX3_point eIA 35 39 := ⟨by decide +kernel, by decide +kernel, by decide +kernel, fun w h => List.mem_cons_of_mem _ (List.mem_append_left _ (List.mem_append_right _ h)), bad_IA, ot_IA⟩
  show Kw X 0 0 (wB ba fa ra cI cJ cF hb (nI np) fc co ec asz sx tr pm xs ys zs ax ay az al el eh mo nx ny nz dd hd sz rn) 0 [(0, .ref (ba 0)), (1, .int x), (2, .int y), (3, .int z)] []
  refine k_iload_n C 1 dX3_point_0 rfl rfl ?_
  refine k_iload_n C 2 dX3_point_1 rfl rfl ?_
  refine k_iload_n C 3 dX3_point_2 rfl rfl ?_
  refine k_sipush C (v := (nI 512)) dX3_point_3 (by decide) ?_
  refine kx_callSV C TX (ar := 4) (As := [.int x, .int y, .int z, .int (nI 512)]) (rest := []) (h3_requireReach (kxL X) (kxD X) cI cJ cF cD TX.2.2 _ x y z (nI 512)) gX3_point_X3_requireReach rfl rfl rfl (by decide +kernel) ⟨Nat.le_of_ble_eq_true rfl, Nat.le_of_ble_eq_true rfl⟩ rfl rfl (Nat.le_of_ble_eq_true rfl) dX3_point_6 (Nat.le_of_ble_eq_true rfl) (Nat.le_of_ble_eq_true rfl) (fun E w hx => hout _ _ _ _ _ _ (by obtain ⟨rfl, hc, rfl⟩ := hx; exact ⟨Or.inl ⟨rfl, by rw [ptB, hc]; rfl⟩, rfl⟩) (Nat.le_of_ble_eq_true rfl) (Nat.le_of_ble_eq_true rfl)) (fun w hw => ?_)
  obtain ⟨h_1, rfl⟩ := hw
  refine k_aload_n C 0 dX3_point_9 rfl rfl ?_
  refine k_get C hinX3 0 0 rfl rfl (by decide) lk0 rfl rfl dX3_point_10 ?_
  refine k_iload_n C 1 dX3_point_13 rfl rfl ?_
  refine k_iload_n C 2 dX3_point_14 rfl rfl ?_
  refine k_iload_n C 3 dX3_point_15 rfl rfl ?_
  refine k_callVNI C (ar := 3) (As := [.int x, .int y, .int z]) (rest := []) (h2_isTaken (kxL X) (kxD X) cI cJ cF cD x y z (by omega)) ggX3_point_X2_isTaken rfl rfl rfl lk2 lk3 lk4 lk5 (by decide +kernel) ⟨Nat.le_of_ble_eq_true rfl, Nat.le_of_ble_eq_true rfl⟩ 1 rfl rfl rfl rfl (Nat.le_of_ble_eq_true rfl) dX3_point_16 (Nat.le_of_ble_eq_true rfl) (Nat.le_of_ble_eq_true rfl) (fun r w hw => ?_)
  obtain ⟨rfl, rfl⟩ := hw
  refine k_if_eqB C 32 dX3_point_19 (by decide) (fun h_2 => ?_) (fun h_2 => ?_)
  · refine k_aload_n C 0 dX3_point_32 rfl rfl ?_
    refine k_get C hinX3 0 0 rfl rfl (by decide) lk0 rfl rfl dX3_point_33 ?_
    refine k_getN C hinX2 1 3 rfl rfl (by decide) lk6 rfl rfl dX3_point_36 ?_
    refine k_bipush C (v := (nI 24)) dX3_point_39 (by decide) ?_
    refine k_icmp_ltN C (by omega) (by omega) 54 dX3_point_41 (by decide) (fun h_3 => ?_) (fun h_3 => ?_)
    · refine k_aload_n C 0 dX3_point_54 rfl rfl ?_
      refine k_get C hinX3 0 0 rfl rfl (by decide) lk0 rfl rfl dX3_point_55 ?_
      refine k_iload_n C 1 dX3_point_58 rfl rfl ?_
      refine k_iload_n C 2 dX3_point_59 rfl rfl ?_
      refine k_iload_n C 3 dX3_point_60 rfl rfl ?_
      refine k_callVNI C (ar := 3) (As := [.int x, .int y, .int z]) (rest := []) (h2_append (kxL X) (kxD X) cI cJ cF cD x y z (by omega)) ggX3_point_X2_append rfl rfl rfl lk8 lk3 lk9 lk10 (by decide +kernel) ⟨Nat.le_of_ble_eq_true rfl, Nat.le_of_ble_eq_true rfl⟩ 1 rfl rfl rfl rfl (Nat.le_of_ble_eq_true rfl) dX3_point_61 (Nat.le_of_ble_eq_true rfl) (Nat.le_of_ble_eq_true rfl) (fun r w hw => ?_)
      obtain ⟨rfl, rfl⟩ := hw
      exact hret _ _ _ _ _ _ (⟨⟨by rw [ptB, h_1, h_2]; rfl, by omega⟩, rfl, rfl⟩) (Nat.le_of_ble_eq_true rfl) (Nat.le_of_ble_eq_true rfl) dX3_point_64
    · exact hthr eIS "there are 24 points" 45 47 49 _ _ _ _ _ _ (⟨Or.inr ⟨rfl, by rw [ptB, h_1, h_2]; rfl, by omega⟩, rfl⟩) kt_eIS (by decide) rfl dX3_point_44 dX3_point_47 dX3_point_48 dX3_point_50 dX3_point_53 (Nat.le_of_ble_eq_true rfl) (Nat.le_of_ble_eq_true rfl) (Nat.le_of_ble_eq_true rfl) (Nat.le_of_ble_eq_true rfl) (Nat.le_of_ble_eq_true rfl) (Nat.le_of_ble_eq_true rfl)
  · exact hthr eIA "a point is at that place" 35 37 39 _ _ _ _ _ _ (⟨Or.inl ⟨rfl, by rw [ptB, h_1, h_2]; rfl⟩, rfl⟩) kt_eIA (by decide) rfl dX3_point_22 dX3_point_25 dX3_point_26 dX3_point_28 dX3_point_31 (Nat.le_of_ble_eq_true rfl) (Nat.le_of_ble_eq_true rfl) (Nat.le_of_ble_eq_true rfl) (Nat.le_of_ble_eq_true rfl) (Nat.le_of_ble_eq_true rfl) (Nat.le_of_ble_eq_true rfl)
set_option maxHeartbeats 4000000 in
set_option maxRecDepth 100000 in
theorem h3_take (l : Launch) (D : va_G) (cI cJ cF cD : ClassId) (htr9 : l.stackTraces = false) {ba fa ra : Nat → Nat} {hb : Int32} {fc : Int32} {co : Int32} {ec : Int32} {asz : Int32} {sx : Int64} {tr : Nat} {pm : Nat → Nat} {xs : Nat → Int32} {ys : Nat → Int32} {zs : Nat → Int32} {ax : Nat → Int32} {ay : Nat → Int32} {az : Nat → Int32} {al : Nat → Int32} {el : Nat → Nat} {eh : Nat → Nat} {mo : Nat → Int64} {nx : Nat → Int64} {ny : Nat → Int64} {nz : Nat → Int64} {dd : Nat → Int64} {hd : Nat → Int32} {sz : Nat → Nat} {rn : Nat → Nat → Nat} {np : Nat} (q : Int32) (hnp : np ≤ 24) : CxI l D (tyG cI cJ cF cD) yX3_take wsX3_take ({ frames := 7, cells := 1, slots := 6, locals := 111 }) [.ref (ba 0), .int q] (wB ba fa ra cI cJ cF hb (nI np) fc co ec asz sx tr pm xs ys zs ax ay az al el eh mo nx ny nz dd hd sz rn) (fun r w => rngB np q = true ∧ r = nI (np - 1) ∧ w = (wB ba fa ra cI cJ cF hb (nI (np - 1)) fc co ec asz sx tr pm (shfJ xs q.toNatClampNeg (np - 1)) (shfJ ys q.toNatClampNeg (np - 1)) (shfJ zs q.toNatClampNeg (np - 1)) ax ay az al el eh mo nx ny nz dd hd sz rn)) (fun E w => E = eIB ∧ rngB np q = false ∧ w = (wB ba fa ra cI cJ cF hb (nI np) fc co ec asz sx tr pm xs ys zs ax ay az al el eh mo nx ny nz dd hd sz rn)) 1 6 := by
  refine cxI_of (cc := cX3_take) (maxL := 2) htr9 (by decide) rfl (Nat.le_of_ble_eq_true rfl) ?_
  intro X hXl hXd C TX hret hout hthr
  have lk0 : Cond.fieldLink RX3 12 "HullBuilder" "points" "LHullBuilder$Points;" ∈ wsX3_take := by decide +kernel
  have hinX3 : ∀ w ∈ wsX30, w ∈ wsX3_take := by decide +kernel
  have lk2 : Cond.fieldLinkNest RX3 42 "HullBuilder$Points" "size" "I" "HullBuilder" ∈ kNW := by decide +kernel
  have hinX2 : ∀ w ∈ wsX20, w ∈ wsX3_take := by decide +kernel
  have lk4 : Cond.methodLinkNest RX3 58 yX2_remove "HullBuilder" ∈ kNW := by decide +kernel
  have lk5 : Cond.initialized RX2 ∈ wsX3_take := by decide +kernel
  have lk6 : Cond.instanceMethod yX2_remove ∈ wsX3_take := by decide +kernel
  have lk7 : Cond.selects RX2 yX2_remove yX2_remove ∈ wsX3_take := by decide +kernel
  show Kw X 0 0 (wB ba fa ra cI cJ cF hb (nI np) fc co ec asz sx tr pm xs ys zs ax ay az al el eh mo nx ny nz dd hd sz rn) 0 [(0, .ref (ba 0)), (1, .int q)] []
  refine k_iload_n C 1 dX3_take_0 rfl rfl ?_
  refine k_aload_n C 0 dX3_take_1 rfl rfl ?_
  refine k_get C hinX3 0 0 rfl rfl (by decide) lk0 rfl rfl dX3_take_2 ?_
  refine k_getN C hinX2 1 3 rfl rfl (by decide) lk2 rfl rfl dX3_take_5 ?_
  refine kx_callSV C TX (ar := 2) (As := [.int q, .int (nI np)]) (rest := []) (h3_requirePlace (kxL X) (kxD X) cI cJ cF cD TX.2.2 _ q np) gX3_take_X3_requirePlace rfl rfl rfl (by decide +kernel) ⟨Nat.le_of_ble_eq_true rfl, Nat.le_of_ble_eq_true rfl⟩ rfl rfl (Nat.le_of_ble_eq_true rfl) dX3_take_8 (Nat.le_of_ble_eq_true rfl) (Nat.le_of_ble_eq_true rfl) (fun E w hx => hout _ _ _ _ _ _ (by obtain ⟨rfl, hc, rfl⟩ := hx; exact ⟨rfl, hc, rfl⟩) (Nat.le_of_ble_eq_true rfl) (Nat.le_of_ble_eq_true rfl)) (fun w hw => ?_)
  obtain ⟨h_1, rfl⟩ := hw
  obtain ⟨jq, hjq, eq_, cq⟩ := rngB_t (by omega) h_1
  refine k_aload_n C 0 dX3_take_11 rfl rfl ?_
  refine k_get C hinX3 0 0 rfl rfl (by decide) lk0 rfl rfl dX3_take_12 ?_
  refine k_iload_n C 1 dX3_take_15 rfl rfl ?_
  refine k_topi (nI jq) eq_ ?_
  refine k_callVNV C (ar := 1) (As := [.int (nI jq)]) (rest := []) (h2_remove (kxL X) (kxD X) cI cJ cF cD (by omega) (by omega)) ggX3_take_X2_remove rfl rfl rfl lk4 lk5 lk6 lk7 (by decide +kernel) ⟨Nat.le_of_ble_eq_true rfl, Nat.le_of_ble_eq_true rfl⟩ 1 rfl rfl rfl rfl (Nat.le_of_ble_eq_true rfl) dX3_take_16 (Nat.le_of_ble_eq_true rfl) (Nat.le_of_ble_eq_true rfl) (fun w hw => ?_)
  subst hw
  refine k_aload_n C 0 dX3_take_19 rfl rfl ?_
  refine k_get C hinX3 0 0 rfl rfl (by decide) lk0 rfl rfl dX3_take_20 ?_
  refine k_getN C hinX2 1 3 rfl rfl (by decide) lk2 rfl rfl dX3_take_23 ?_
  exact hret _ _ _ _ _ _ (⟨h_1, rfl, by rw [cq]⟩) (Nat.le_of_ble_eq_true rfl) (Nat.le_of_ble_eq_true rfl) dX3_take_26
set_option maxHeartbeats 4000000 in
set_option maxRecDepth 100000 in
theorem h3_build (l : Launch) (D : va_G) (cI cJ cF cD : ClassId) (htr9 : l.stackTraces = false) {ba fa ra : Nat → Nat} {hb : Int32} {co : Int32} {ec : Int32} {asz : Int32} {sx : Int64} {xs : Nat → Int32} {ys : Nat → Int32} {zs : Nat → Int32} {ax : Nat → Int32} {ay : Nat → Int32} {az : Nat → Int32} {al : Nat → Int32} {el : Nat → Nat} {eh : Nat → Nat} {mo : Nat → Int64} {sz : Nat → Nat} {rn : Nat → Nat → Nat} {S : CT} {np : Nat} (hnp : np ≤ 24) (hS : invC S) (hrn : ∀ x k, rn x k < 24) (hsz : ∀ x, sz x ≤ 24) (hW : flB np xs ys zs = false → ∀ v1 v2 v3 v4 : Int64, (∀ S8 : CT, rA np (cpI ax xs np) (cpI ay ys np) (cpI az zs np) (0, ((scrC S v1 v2 v3 v4 (S.2.2.2.2.2.2.2 S.2.2.1))).2) np S8 → invC S8 → ∃ v0 ml : Nat → Nat, wrpOK np S8 v0 ml)) : CxI l D (tyG cI cJ cF cD) yX3_build wsX3_build ({ frames := 6, cells := 1, slots := 6, locals := 121 }) [.ref (ba 0)] (wB ba fa ra cI cJ cF hb (nI np) (nI S.1) co ec asz sx S.2.2.1 S.2.1 xs ys zs ax ay az al el eh mo S.2.2.2.1 S.2.2.2.2.1 S.2.2.2.2.2.1 S.2.2.2.2.2.2.1 S.2.2.2.2.2.2.2 sz rn) (fun r w => flB np xs ys zs = false ∧ ∃ (v1 v2 v3 v4 : Int64) (S8 : CT) (v0 ml : Nat → Nat), rA np (cpI ax xs np) (cpI ay ys np) (cpI az zs np) (0, (scrC S v1 v2 v3 v4 (S.2.2.2.2.2.2.2 S.2.2.1)).2) np S8 ∧ invC S8 ∧ wrpOK np S8 v0 ml ∧ r = nI S8.1 ∧ w = (wB ba fa ra cI cJ cF (hb + nI 1) (nI np) (nI S8.1) (coI S8 np) (nI ((edgC (wyA (filI al (-1) 576) (ordS (rkN (grA S8.2.1 ml (hsS np (cpI ax xs np) (cpI ay ys np) (cpI az zs np) S8 (coI S8 np) v0) rn S8.1)) S8.2.1 (S8.1 - 1)) (gzA S8.2.1 ml sz S8.1) (grA S8.2.1 ml (hsS np (cpI ax xs np) (cpI ay ys np) (cpI az zs np) S8 (coI S8 np) v0) rn S8.1) S8.1) np (0, el, eh) np).1)) (nI np) ((msG (cpI ax xs np) (cpI ay ys np) (cpI az zs np) (ordS (rkN (grA S8.2.1 ml (hsS np (cpI ax xs np) (cpI ay ys np) (cpI az zs np) S8 (coI S8 np) v0) rn S8.1)) S8.2.1 (S8.1 - 1)) (gzA S8.2.1 ml sz S8.1) (grA S8.2.1 ml (hsS np (cpI ax xs np) (cpI ay ys np) (cpI az zs np) S8 (coI S8 np) v0) rn S8.1) (0, filL mo 0 3) S8.1).1) S8.2.2.1 (ordS (rkN (grA S8.2.1 ml (hsS np (cpI ax xs np) (cpI ay ys np) (cpI az zs np) S8 (coI S8 np) v0) rn S8.1)) S8.2.1 (S8.1 - 1)) xs ys zs (cpI ax xs np) (cpI ay ys np) (cpI az zs np) (wyA (filI al (-1) 576) (ordS (rkN (grA S8.2.1 ml (hsS np (cpI ax xs np) (cpI ay ys np) (cpI az zs np) S8 (coI S8 np) v0) rn S8.1)) S8.2.1 (S8.1 - 1)) (gzA S8.2.1 ml sz S8.1) (grA S8.2.1 ml (hsS np (cpI ax xs np) (cpI ay ys np) (cpI az zs np) S8 (coI S8 np) v0) rn S8.1) S8.1) ((edgC (wyA (filI al (-1) 576) (ordS (rkN (grA S8.2.1 ml (hsS np (cpI ax xs np) (cpI ay ys np) (cpI az zs np) S8 (coI S8 np) v0) rn S8.1)) S8.2.1 (S8.1 - 1)) (gzA S8.2.1 ml sz S8.1) (grA S8.2.1 ml (hsS np (cpI ax xs np) (cpI ay ys np) (cpI az zs np) S8 (coI S8 np) v0) rn S8.1) S8.1) np (0, el, eh) np).2.1) ((edgC (wyA (filI al (-1) 576) (ordS (rkN (grA S8.2.1 ml (hsS np (cpI ax xs np) (cpI ay ys np) (cpI az zs np) S8 (coI S8 np) v0) rn S8.1)) S8.2.1 (S8.1 - 1)) (gzA S8.2.1 ml sz S8.1) (grA S8.2.1 ml (hsS np (cpI ax xs np) (cpI ay ys np) (cpI az zs np) S8 (coI S8 np) v0) rn S8.1) S8.1) np (0, el, eh) np).2.2) ((msG (cpI ax xs np) (cpI ay ys np) (cpI az zs np) (ordS (rkN (grA S8.2.1 ml (hsS np (cpI ax xs np) (cpI ay ys np) (cpI az zs np) S8 (coI S8 np) v0) rn S8.1)) S8.2.1 (S8.1 - 1)) (gzA S8.2.1 ml sz S8.1) (grA S8.2.1 ml (hsS np (cpI ax xs np) (cpI ay ys np) (cpI az zs np) S8 (coI S8 np) v0) rn S8.1) (0, filL mo 0 3) S8.1).2) S8.2.2.2.1 S8.2.2.2.2.1 S8.2.2.2.2.2.1 S8.2.2.2.2.2.2.1 S8.2.2.2.2.2.2.2 (gzA S8.2.1 ml sz S8.1) (grA S8.2.1 ml (hsS np (cpI ax xs np) (cpI ay ys np) (cpI az zs np) S8 (coI S8 np) v0) rn S8.1))) (fun E w => E = eIS ∧ flB np xs ys zs = true ∧ ∃ v1 v2 v3 v4 : Int64, w = (wB ba fa ra cI cJ cF hb (nI np) (nI ((scrC S v1 v2 v3 v4 (S.2.2.2.2.2.2.2 S.2.2.1)).1)) co ec asz sx ((scrC S v1 v2 v3 v4 (S.2.2.2.2.2.2.2 S.2.2.1)).2.2.1) ((scrC S v1 v2 v3 v4 (S.2.2.2.2.2.2.2 S.2.2.1)).2.1) xs ys zs ax ay az al el eh mo ((scrC S v1 v2 v3 v4 (S.2.2.2.2.2.2.2 S.2.2.1)).2.2.2.1) ((scrC S v1 v2 v3 v4 (S.2.2.2.2.2.2.2 S.2.2.1)).2.2.2.2.1) ((scrC S v1 v2 v3 v4 (S.2.2.2.2.2.2.2 S.2.2.1)).2.2.2.2.2.1) ((scrC S v1 v2 v3 v4 (S.2.2.2.2.2.2.2 S.2.2.1)).2.2.2.2.2.2.1) ((scrC S v1 v2 v3 v4 (S.2.2.2.2.2.2.2 S.2.2.1)).2.2.2.2.2.2.2) sz rn)) 1 6 := by
  refine cxI_of (cc := cX3_build) (maxL := 1) htr9 (by decide) rfl (Nat.le_of_ble_eq_true rfl) ?_
  intro X hXl hXd C TX hret hout hthr
  have lk0 : Cond.fieldLink RX3 19 "HullBuilder" "hull" "LHullBuilder$Hull;" ∈ wsX3_build := by decide +kernel
  have hinX3 : ∀ w ∈ wsX30, w ∈ wsX3_build := by decide +kernel
  have lk2 : Cond.fieldLink RX3 12 "HullBuilder" "points" "LHullBuilder$Points;" ∈ wsX3_build := by decide +kernel
  have lk3 : Cond.methodLinkNest RX3 62 yX1_wouldBeFlat "HullBuilder" ∈ kNW := by decide +kernel
  have lk4 : Cond.initialized RX1 ∈ wsX3_build := by decide +kernel
  have lk5 : Cond.instanceMethod yX1_wouldBeFlat ∈ wsX3_build := by decide +kernel
  have lk6 : Cond.selects RX1 yX1_wouldBeFlat yX1_wouldBeFlat ∈ wsX3_build := by decide +kernel
  have lk7 : Cond.methodLinkNest RX3 68 yX1_wrap "HullBuilder" ∈ kNW := by decide +kernel
  have lk8 : Cond.instanceMethod yX1_wrap ∈ wsX3_build := by decide +kernel
  have lk9 : Cond.selects RX1 yX1_wrap yX1_wrap ∈ wsX3_build := by decide +kernel
  have lk10 : Cond.fieldLink RX3 23 "HullBuilder" "hullsBuilt" "I" ∈ wsX3_build := by decide +kernel
  have lk11 : Cond.fieldLinkNest RX3 72 "HullBuilder$Hull" "faceCount" "I" "HullBuilder" ∈ kNW := by decide +kernel
  have hinX1 : ∀ w ∈ wsX10, w ∈ wsX3_build := by decide +kernel
  have kt_eIS : kThr RX3 wsX3_build eIS 45 49 := ⟨by decide +kernel, by decide +kernel, by decide +kernel, fun w h => List.mem_cons_of_mem _ (List.mem_append_right _ h), bad_IS, ot_IS⟩
  show Kw X 0 0 (wB ba fa ra cI cJ cF hb (nI np) (nI S.1) co ec asz sx S.2.2.1 S.2.1 xs ys zs ax ay az al el eh mo S.2.2.2.1 S.2.2.2.2.1 S.2.2.2.2.2.1 S.2.2.2.2.2.2.1 S.2.2.2.2.2.2.2 sz rn) 0 [(0, .ref (ba 0))] []
  refine k_aload_n C 0 dX3_build_0 rfl rfl ?_
  refine k_get C hinX3 0 1 rfl rfl (by decide) lk0 rfl rfl dX3_build_1 ?_
  refine k_aload_n C 0 dX3_build_4 rfl rfl ?_
  refine k_get C hinX3 0 0 rfl rfl (by decide) lk2 rfl rfl dX3_build_5 ?_
  refine k_callVNI C (ar := 1) (As := [.ref (ba 1)]) (rest := []) (h1_wouldBeFlat (kxL X) (kxD X) cI cJ cF cD (by omega) hS.2.2) ggX3_build_X1_wouldBeFlat rfl rfl rfl lk3 lk4 lk5 lk6 (by decide +kernel) ⟨Nat.le_of_ble_eq_true rfl, Nat.le_of_ble_eq_true rfl⟩ 5 rfl rfl rfl rfl (Nat.le_of_ble_eq_true rfl) dX3_build_8 (Nat.zero_le _) (Nat.zero_le _) (fun r w hw => ?_)
  obtain ⟨v1, v2, v3, v4, rfl, rfl⟩ := hw
  refine k_ws (ws' := (wB ba fa ra cI cJ cF hb (nI np) (nI ((scrC S v1 v2 v3 v4 (S.2.2.2.2.2.2.2 S.2.2.1)).1)) co ec asz sx ((scrC S v1 v2 v3 v4 (S.2.2.2.2.2.2.2 S.2.2.1)).2.2.1) ((scrC S v1 v2 v3 v4 (S.2.2.2.2.2.2.2 S.2.2.1)).2.1) xs ys zs ax ay az al el eh mo ((scrC S v1 v2 v3 v4 (S.2.2.2.2.2.2.2 S.2.2.1)).2.2.2.1) ((scrC S v1 v2 v3 v4 (S.2.2.2.2.2.2.2 S.2.2.1)).2.2.2.2.1) ((scrC S v1 v2 v3 v4 (S.2.2.2.2.2.2.2 S.2.2.1)).2.2.2.2.2.1) ((scrC S v1 v2 v3 v4 (S.2.2.2.2.2.2.2 S.2.2.1)).2.2.2.2.2.2.1) ((scrC S v1 v2 v3 v4 (S.2.2.2.2.2.2.2 S.2.2.1)).2.2.2.2.2.2.2) sz rn)) (by simp only [scrC]; rw [upd_self]) ?_
  refine k_if_eqB C 24 dX3_build_11 (by decide) (fun h_1 => ?_) (fun h_1 => ?_)
  · refine k_aload_n C 0 dX3_build_24 rfl rfl ?_
    refine k_get C hinX3 0 1 rfl rfl (by decide) lk0 rfl rfl dX3_build_25 ?_
    refine k_aload_n C 0 dX3_build_28 rfl rfl ?_
    refine k_get C hinX3 0 0 rfl rfl (by decide) lk2 rfl rfl dX3_build_29 ?_
    refine k_callVNV C (ar := 1) (As := [.ref (ba 1)]) (rest := []) (h1_wrap (kxL X) (kxD X) cI cJ cF cD (S := (scrC S v1 v2 v3 v4 (S.2.2.2.2.2.2.2 S.2.2.1))) (by omega) ⟨hS.1, hS.2.1, hS.2.2⟩ hrn hsz (hW h_1 v1 v2 v3 v4)) ggX3_build_X1_wrap rfl rfl rfl lk7 lk4 lk8 lk9 (by decide +kernel) ⟨Nat.le_of_ble_eq_true rfl, Nat.le_of_ble_eq_true rfl⟩ 5 rfl rfl rfl rfl (Nat.le_of_ble_eq_true rfl) dX3_build_32 (Nat.zero_le _) (Nat.zero_le _) (fun w hw => ?_)
    obtain ⟨S8, v0, ml, hA8, hI8, hW8, rfl⟩ := hw
    refine k_aload_n C 0 dX3_build_35 rfl rfl ?_
    refine k_dup C dX3_build_36 rfl ?_
    refine k_get C hinX3 0 2 rfl rfl (by decide) lk10 rfl rfl dX3_build_37 ?_
    refine k_iconst C (v := (nI 1)) dX3_build_40 (by decide) ?_
    refine k_iadd C dX3_build_41 ?_
    refine k_put C (ws' := (wB ba fa ra cI cJ cF (hb + (nI 1)) (nI np) (nI S8.1) (coI S8 np) (nI ((edgC (wyA (filI al (-1) 576) (ordS (rkN (grA S8.2.1 ml (hsS np (cpI ax xs np) (cpI ay ys np) (cpI az zs np) S8 (coI S8 np) v0) rn S8.1)) S8.2.1 (S8.1 - 1)) (gzA S8.2.1 ml sz S8.1) (grA S8.2.1 ml (hsS np (cpI ax xs np) (cpI ay ys np) (cpI az zs np) S8 (coI S8 np) v0) rn S8.1) S8.1) np (0, el, eh) np).1)) (nI np) ((msG (cpI ax xs np) (cpI ay ys np) (cpI az zs np) (ordS (rkN (grA S8.2.1 ml (hsS np (cpI ax xs np) (cpI ay ys np) (cpI az zs np) S8 (coI S8 np) v0) rn S8.1)) S8.2.1 (S8.1 - 1)) (gzA S8.2.1 ml sz S8.1) (grA S8.2.1 ml (hsS np (cpI ax xs np) (cpI ay ys np) (cpI az zs np) S8 (coI S8 np) v0) rn S8.1) (0, filL mo 0 3) S8.1).1) S8.2.2.1 (ordS (rkN (grA S8.2.1 ml (hsS np (cpI ax xs np) (cpI ay ys np) (cpI az zs np) S8 (coI S8 np) v0) rn S8.1)) S8.2.1 (S8.1 - 1)) xs ys zs (cpI ax xs np) (cpI ay ys np) (cpI az zs np) (wyA (filI al (-1) 576) (ordS (rkN (grA S8.2.1 ml (hsS np (cpI ax xs np) (cpI ay ys np) (cpI az zs np) S8 (coI S8 np) v0) rn S8.1)) S8.2.1 (S8.1 - 1)) (gzA S8.2.1 ml sz S8.1) (grA S8.2.1 ml (hsS np (cpI ax xs np) (cpI ay ys np) (cpI az zs np) S8 (coI S8 np) v0) rn S8.1) S8.1) ((edgC (wyA (filI al (-1) 576) (ordS (rkN (grA S8.2.1 ml (hsS np (cpI ax xs np) (cpI ay ys np) (cpI az zs np) S8 (coI S8 np) v0) rn S8.1)) S8.2.1 (S8.1 - 1)) (gzA S8.2.1 ml sz S8.1) (grA S8.2.1 ml (hsS np (cpI ax xs np) (cpI ay ys np) (cpI az zs np) S8 (coI S8 np) v0) rn S8.1) S8.1) np (0, el, eh) np).2.1) ((edgC (wyA (filI al (-1) 576) (ordS (rkN (grA S8.2.1 ml (hsS np (cpI ax xs np) (cpI ay ys np) (cpI az zs np) S8 (coI S8 np) v0) rn S8.1)) S8.2.1 (S8.1 - 1)) (gzA S8.2.1 ml sz S8.1) (grA S8.2.1 ml (hsS np (cpI ax xs np) (cpI ay ys np) (cpI az zs np) S8 (coI S8 np) v0) rn S8.1) S8.1) np (0, el, eh) np).2.2) ((msG (cpI ax xs np) (cpI ay ys np) (cpI az zs np) (ordS (rkN (grA S8.2.1 ml (hsS np (cpI ax xs np) (cpI ay ys np) (cpI az zs np) S8 (coI S8 np) v0) rn S8.1)) S8.2.1 (S8.1 - 1)) (gzA S8.2.1 ml sz S8.1) (grA S8.2.1 ml (hsS np (cpI ax xs np) (cpI ay ys np) (cpI az zs np) S8 (coI S8 np) v0) rn S8.1) (0, filL mo 0 3) S8.1).2) S8.2.2.2.1 S8.2.2.2.2.1 S8.2.2.2.2.2.1 S8.2.2.2.2.2.2.1 S8.2.2.2.2.2.2.2 (gzA S8.2.1 ml sz S8.1) (grA S8.2.1 ml (hsS np (cpI ax xs np) (cpI ay ys np) (cpI az zs np) S8 (coI S8 np) v0) rn S8.1))) hinX3 tyX3 tyX3_ok nmX3 0 2 rfl rfl (by decide) lk10 rfl rfl rfl rfl (Nat.le_of_ble_eq_true rfl) rfl dX3_build_42 ?_
    refine k_aload_n C 0 dX3_build_45 rfl rfl ?_
    refine k_get C hinX3 0 1 rfl rfl (by decide) lk0 rfl rfl dX3_build_46 ?_
    refine k_getN C hinX1 5 3 rfl rfl (by decide) lk11 rfl rfl dX3_build_49 ?_
    exact hret _ _ _ _ _ _ (⟨h_1, v1, v2, v3, v4, S8, v0, ml, hA8, hI8, hW8, rfl, rfl⟩) (Nat.le_of_ble_eq_true rfl) (Nat.le_of_ble_eq_true rfl) dX3_build_52
  · exact hthr eIS "all points lie in a plane" 45 66 49 _ _ _ _ _ _ (⟨rfl, h_1, v1, v2, v3, v4, rfl⟩) kt_eIS (by decide) rfl dX3_build_14 dX3_build_17 dX3_build_18 dX3_build_20 dX3_build_23 (Nat.le_of_ble_eq_true rfl) (Nat.le_of_ble_eq_true rfl) (Nat.le_of_ble_eq_true rfl) (Nat.le_of_ble_eq_true rfl) (Nat.le_of_ble_eq_true rfl) (Nat.le_of_ble_eq_true rfl)
