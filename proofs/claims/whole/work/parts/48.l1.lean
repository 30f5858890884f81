/-! ===== the law: its own methods ===== -/
set_option maxHeartbeats 4000000 in
set_option maxRecDepth 100000 in
theorem l_point (l : Launch) (D : va_G) (cI cJ cF cD : ClassId) (htr9 : l.stackTraces = false) {b9 oa od : Nat} {fs9 : List Value} {a9 : va_W} {ov : Nat → Int64} {dv : Nat → UInt64} {p0 : Int32} {p1 : Int32} {p2 : Int32} {post : Int32 → va_W → Prop} {xp : String → va_W → Prop} (M : CxI l D (tyG cI cJ cF cD) yX3_point wsX3_point ({ frames := 7, cells := 2, slots := 12, locals := 113 }) [.ref b9, .int p0, .int p1, .int p2] a9 post xp 2 12) (he9 : a9[0]? = some (b9, .inr (3, fs9))) (hxE : ∀ E w, xp E w → E = eIA ∨ E = eIS) (hlen : ∀ v w, post v w → w.length = a9.length) (hlenX : ∀ E w, xp E w → w.length = a9.length) : CwI l D (tyG cI cJ cF cD) yL_point wsL_point ({ frames := 8, cells := 2, slots := 12, locals := 136 }) [.ref b9, .int p0, .int p1, .int p2, .ref oa] (a9 ++ wO oa od cJ cD ov dv) (fun r w => (r = nI 0 ∧ ∃ v w0, post v w0 ∧ w = w0 ++ wO oa od cJ cD (vp_updL ov 0 v.toInt64) dv) ∨ (r = nI 1 ∧ ∃ w0, xp eIA w0 ∧ w = w0 ++ wO oa od cJ cD ov dv) ∨ (r = nI 2 ∧ ∃ w0, xp eIS w0 ∧ w = w0 ++ wO oa od cJ cD ov dv)) 2 12 := by
  refine cwI_of (cc := cL_point) (maxL := 6) (hh := [(0, 12, 15, 13), (0, 12, 19, 15)]) htr9 (by decide) rfl (Nat.le_of_ble_eq_true rfl) ?_
  intro X hXl hXd C TX NC tb hret
  subst hXl; subst hXd
  have g0 : (a9 ++ wO oa od cJ cD ov dv)[0]? = some (b9, .inr (3, fs9)) := by rw [List.getElem?_append_left (List.getElem?_eq_some_iff.mp he9).1]; exact he9
  refine k_aload C 4 dL_point_0 rfl ?_
  refine k_iconst C (v := (nI 0)) dL_point_2 (by decide) ?_
  refine k_aload_n C 0 dL_point_3 rfl rfl ?_
  refine k_iload_n C 1 dL_point_4 rfl rfl ?_
  refine k_iload_n C 2 dL_point_5 rfl rfl ?_
  refine k_iload_n C 3 dL_point_6 rfl rfl ?_
  refine kx_callVI C TX (ar := 3) (As := [.int p0, .int p1, .int p2]) (rest := [.int (nI 0), .ref oa]) (cxI_frL M) gL_point_X3_point rfl rfl rfl (by decide +kernel) ⟨Nat.le_of_ble_eq_true rfl, Nat.le_of_ble_eq_true rfl⟩ 0 g0 rfl rfl rfl (Nat.le_of_ble_eq_true rfl) dL_point_7 (Nat.le_of_ble_eq_true rfl) (Nat.le_of_ble_eq_true rfl) (fun E w hx => ?_) (fun r w hw => ?_)
  · obtain ⟨w0, hx, rfl⟩ := hx
    rcases hxE E w0 hx with rfl | rfl
    · refine k_catch C (hh := [(0, 12, 15, 13), (0, 12, 19, 15)]) tb [] ⟨0, 12, 15, 13⟩ [⟨0, 12, 19, 15⟩] rfl (fun z hz => absurd hz List.not_mem_nil) (by decide) (by decide) (name := eIA) (by decide +kernel) (TX.1.1 (.castable eIA eIA) (by decide)) (fun q => ?_)
      refine k_astore C (lv' := [(5, .ref q), (0, .ref b9), (1, .int p0), (2, .int p1), (3, .int p2), (4, .ref oa)]) dL_point_15 (by decide) rfl ?_
      refine k_iconst C (v := (nI 1)) dL_point_17 (by decide) ?_
      exact hret _ _ _ _ _ _ (Or.inr (Or.inl (⟨rfl, w0, hx, rfl⟩))) (Nat.le_of_ble_eq_true rfl) (Nat.le_of_ble_eq_true rfl) dL_point_18
    · refine k_catch C (hh := [(0, 12, 15, 13), (0, 12, 19, 15)]) tb [⟨0, 12, 15, 13⟩] ⟨0, 12, 19, 15⟩ [] rfl (fun z hz => by rw [List.mem_singleton] at hz; subst hz; exact Or.inr ⟨by decide, eIA, by decide +kernel, NC.1⟩) (by decide) (by decide) (name := eIS) (by decide +kernel) (TX.1.1 (.castable eIS eIS) (by decide)) (fun q => ?_)
      refine k_astore C (lv' := [(5, .ref q), (0, .ref b9), (1, .int p0), (2, .int p1), (3, .int p2), (4, .ref oa)]) dL_point_19 (by decide) rfl ?_
      refine k_iconst C (v := (nI 2)) dL_point_21 (by decide) ?_
      exact hret _ _ _ _ _ _ (Or.inr (Or.inr (⟨rfl, w0, hx, rfl⟩))) (Nat.le_of_ble_eq_true rfl) (Nat.le_of_ble_eq_true rfl) dL_point_22
  · obtain ⟨w0, hp, rfl⟩ := hw
    have hln := hlen r w0 hp
    refine k_i2l C dL_point_10 ?_
    have g1 : (w0 ++ wO oa od cJ cD ov dv)[w0.length]? = some (oa, .inl (cJ, 1, .inr (.inl ov))) := by rw [List.getElem?_append_right (by omega)]; rw [Nat.sub_self]; rfl
    refine k_last C (ws' := (w0 ++ wO oa od cJ cD (vp_updL ov 0 r.toInt64) dv)) (j := 0) w0.length 1 g1 rfl (by decide) (by decide) (by rw [List.set_append_right _ _ (by omega)]; rw [Nat.sub_self]; rfl) dL_point_11 ?_
    refine k_goto C 23 dL_point_12 (by decide) ?_
    refine k_iconst C (v := (nI 0)) dL_point_23 (by decide) ?_
    exact hret _ _ _ _ _ _ (Or.inl ⟨rfl, r, w0, hp, rfl⟩) (Nat.le_of_ble_eq_true rfl) (Nat.le_of_ble_eq_true rfl) dL_point_24
set_option maxHeartbeats 4000000 in
set_option maxRecDepth 100000 in
theorem l_take (l : Launch) (D : va_G) (cI cJ cF cD : ClassId) (htr9 : l.stackTraces = false) {b9 oa od : Nat} {fs9 : List Value} {a9 : va_W} {ov : Nat → Int64} {dv : Nat → UInt64} {p0 : Int32} {post : Int32 → va_W → Prop} {xp : String → va_W → Prop} (M : CxI l D (tyG cI cJ cF cD) yX3_take wsX3_take ({ frames := 7, cells := 1, slots := 6, locals := 111 }) [.ref b9, .int p0] a9 post xp 1 6) (he9 : a9[0]? = some (b9, .inr (3, fs9))) (hxE : ∀ E w, xp E w → E = eIB) (hlen : ∀ v w, post v w → w.length = a9.length) (hlenX : ∀ E w, xp E w → w.length = a9.length) : CwI l D (tyG cI cJ cF cD) yL_take wsL_take ({ frames := 8, cells := 1, slots := 6, locals := 132 }) [.ref b9, .int p0, .ref oa] (a9 ++ wO oa od cJ cD ov dv) (fun r w => (r = nI 0 ∧ ∃ v w0, post v w0 ∧ w = w0 ++ wO oa od cJ cD (vp_updL ov 0 v.toInt64) dv) ∨ (r = nI 1 ∧ ∃ w0, xp eIB w0 ∧ w = w0 ++ wO oa od cJ cD ov dv)) 1 6 := by
  refine cwI_of (cc := cL_take) (maxL := 4) (hh := [(0, 9, 12, 21)]) htr9 (by decide) rfl (Nat.le_of_ble_eq_true rfl) ?_
  intro X hXl hXd C TX NC tb hret
  subst hXl; subst hXd
  have g0 : (a9 ++ wO oa od cJ cD ov dv)[0]? = some (b9, .inr (3, fs9)) := by rw [List.getElem?_append_left (List.getElem?_eq_some_iff.mp he9).1]; exact he9
  refine k_aload_n C 2 dL_take_0 rfl rfl ?_
  refine k_iconst C (v := (nI 0)) dL_take_1 (by decide) ?_
  refine k_aload_n C 0 dL_take_2 rfl rfl ?_
  refine k_iload_n C 1 dL_take_3 rfl rfl ?_
  refine kx_callVI C TX (ar := 1) (As := [.int p0]) (rest := [.int (nI 0), .ref oa]) (cxI_frL M) gL_take_X3_take rfl rfl rfl (by decide +kernel) ⟨Nat.le_of_ble_eq_true rfl, Nat.le_of_ble_eq_true rfl⟩ 0 g0 rfl rfl rfl (Nat.le_of_ble_eq_true rfl) dL_take_4 (Nat.le_of_ble_eq_true rfl) (Nat.le_of_ble_eq_true rfl) (fun E w hx => ?_) (fun r w hw => ?_)
  · obtain ⟨w0, hx, rfl⟩ := hx
    rcases hxE E w0 hx with rfl
    · refine k_catch C (hh := [(0, 9, 12, 21)]) tb [] ⟨0, 9, 12, 21⟩ [] rfl (fun z hz => absurd hz List.not_mem_nil) (by decide) (by decide) (name := eIB) (by decide +kernel) (TX.1.1 (.castable eIB eIB) (by decide)) (fun q => ?_)
      refine k_astore_n C (lv' := [(3, .ref q), (0, .ref b9), (1, .int p0), (2, .ref oa)]) dL_take_12 rfl (by decide) rfl ?_
      refine k_iconst C (v := (nI 1)) dL_take_13 (by decide) ?_
      exact hret _ _ _ _ _ _ (Or.inr (⟨rfl, w0, hx, rfl⟩)) (Nat.le_of_ble_eq_true rfl) (Nat.le_of_ble_eq_true rfl) dL_take_14
  · obtain ⟨w0, hp, rfl⟩ := hw
    have hln := hlen r w0 hp
    refine k_i2l C dL_take_7 ?_
    have g1 : (w0 ++ wO oa od cJ cD ov dv)[w0.length]? = some (oa, .inl (cJ, 1, .inr (.inl ov))) := by rw [List.getElem?_append_right (by omega)]; rw [Nat.sub_self]; rfl
    refine k_last C (ws' := (w0 ++ wO oa od cJ cD (vp_updL ov 0 r.toInt64) dv)) (j := 0) w0.length 1 g1 rfl (by decide) (by decide) (by rw [List.set_append_right _ _ (by omega)]; rw [Nat.sub_self]; rfl) dL_take_8 ?_
    refine k_goto C 15 dL_take_9 (by decide) ?_
    refine k_iconst C (v := (nI 0)) dL_take_15 (by decide) ?_
    exact hret _ _ _ _ _ _ (Or.inl ⟨rfl, r, w0, hp, rfl⟩) (Nat.le_of_ble_eq_true rfl) (Nat.le_of_ble_eq_true rfl) dL_take_16
set_option maxHeartbeats 4000000 in
set_option maxRecDepth 100000 in
theorem l_build (l : Launch) (D : va_G) (cI cJ cF cD : ClassId) (htr9 : l.stackTraces = false) {b9 oa od : Nat} {fs9 : List Value} {a9 : va_W} {ov : Nat → Int64} {dv : Nat → UInt64} {post : Int32 → va_W → Prop} {xp : String → va_W → Prop} (M : CxI l D (tyG cI cJ cF cD) yX3_build wsX3_build ({ frames := 6, cells := 1, slots := 6, locals := 121 }) [.ref b9] a9 post xp 1 6) (he9 : a9[0]? = some (b9, .inr (3, fs9))) (hxE : ∀ E w, xp E w → E = eIS) (hlen : ∀ v w, post v w → w.length = a9.length) (hlenX : ∀ E w, xp E w → w.length = a9.length) : CwI l D (tyG cI cJ cF cD) yL_build wsL_build ({ frames := 7, cells := 1, slots := 6, locals := 141 }) [.ref b9, .ref oa] (a9 ++ wO oa od cJ cD ov dv) (fun r w => (r = nI 0 ∧ ∃ v w0, post v w0 ∧ w = w0 ++ wO oa od cJ cD (vp_updL ov 0 v.toInt64) dv) ∨ (r = nI 1 ∧ ∃ w0, xp eIS w0 ∧ w = w0 ++ wO oa od cJ cD ov dv)) 1 6 := by
  refine cwI_of (cc := cL_build) (maxL := 3) (hh := [(0, 8, 11, 15)]) htr9 (by decide) rfl (Nat.le_of_ble_eq_true rfl) ?_
  intro X hXl hXd C TX NC tb hret
  subst hXl; subst hXd
  have g0 : (a9 ++ wO oa od cJ cD ov dv)[0]? = some (b9, .inr (3, fs9)) := by rw [List.getElem?_append_left (List.getElem?_eq_some_iff.mp he9).1]; exact he9
  refine k_aload_n C 1 dL_build_0 rfl rfl ?_
  refine k_iconst C (v := (nI 0)) dL_build_1 (by decide) ?_
  refine k_aload_n C 0 dL_build_2 rfl rfl ?_
  refine kx_callVI C TX (ar := 0) (As := []) (rest := [.int (nI 0), .ref oa]) (cxI_frL M) gL_build_X3_build rfl rfl rfl (by decide +kernel) ⟨Nat.le_of_ble_eq_true rfl, Nat.le_of_ble_eq_true rfl⟩ 0 g0 rfl rfl rfl (Nat.le_of_ble_eq_true rfl) dL_build_3 (Nat.le_of_ble_eq_true rfl) (Nat.le_of_ble_eq_true rfl) (fun E w hx => ?_) (fun r w hw => ?_)
  · obtain ⟨w0, hx, rfl⟩ := hx
    rcases hxE E w0 hx with rfl
    · refine k_catch C (hh := [(0, 8, 11, 15)]) tb [] ⟨0, 8, 11, 15⟩ [] rfl (fun z hz => absurd hz List.not_mem_nil) (by decide) (by decide) (name := eIS) (by decide +kernel) (TX.1.1 (.castable eIS eIS) (by decide)) (fun q => ?_)
      refine k_astore_n C (lv' := [(2, .ref q), (0, .ref b9), (1, .ref oa)]) dL_build_11 rfl (by decide) rfl ?_
      refine k_iconst C (v := (nI 1)) dL_build_12 (by decide) ?_
      exact hret _ _ _ _ _ _ (Or.inr (⟨rfl, w0, hx, rfl⟩)) (Nat.le_of_ble_eq_true rfl) (Nat.le_of_ble_eq_true rfl) dL_build_13
  · obtain ⟨w0, hp, rfl⟩ := hw
    have hln := hlen r w0 hp
    refine k_i2l C dL_build_6 ?_
    have g1 : (w0 ++ wO oa od cJ cD ov dv)[w0.length]? = some (oa, .inl (cJ, 1, .inr (.inl ov))) := by rw [List.getElem?_append_right (by omega)]; rw [Nat.sub_self]; rfl
    refine k_last C (ws' := (w0 ++ wO oa od cJ cD (vp_updL ov 0 r.toInt64) dv)) (j := 0) w0.length 1 g1 rfl (by decide) (by decide) (by rw [List.set_append_right _ _ (by omega)]; rw [Nat.sub_self]; rfl) dL_build_7 ?_
    refine k_goto C 14 dL_build_8 (by decide) ?_
    refine k_iconst C (v := (nI 0)) dL_build_14 (by decide) ?_
    exact hret _ _ _ _ _ _ (Or.inl ⟨rfl, r, w0, hp, rfl⟩) (Nat.le_of_ble_eq_true rfl) (Nat.le_of_ble_eq_true rfl) dL_build_15
set_option maxHeartbeats 4000000 in
set_option maxRecDepth 100000 in
theorem l_of (l : Launch) (D : va_G) (cI cJ cF cD : ClassId) (htr9 : l.stackTraces = false) {b9 oa od : Nat} {fs9 : List Value} {a9 : va_W} {ov : Nat → Int64} {dv : Nat → UInt64} {p0 : Int32} {p1 : Int32} {post : Int32 → va_W → Prop} {xp : String → va_W → Prop} (M : CxI l D (tyG cI cJ cF cD) yX3_of wsX3_of ({ frames := 7, cells := 2, slots := 12, locals := 111 }) [.ref b9, .int p0, .int p1] a9 post xp 2 12) (he9 : a9[0]? = some (b9, .inr (3, fs9))) (hxE : ∀ E w, xp E w → E = eIB) (hlen : ∀ v w, post v w → w.length = a9.length) (hlenX : ∀ E w, xp E w → w.length = a9.length) : CwI l D (tyG cI cJ cF cD) yL_of wsL_of ({ frames := 8, cells := 2, slots := 12, locals := 133 }) [.ref b9, .int p0, .int p1, .ref oa] (a9 ++ wO oa od cJ cD ov dv) (fun r w => (r = nI 0 ∧ ∃ v w0, post v w0 ∧ w = w0 ++ wO oa od cJ cD (vp_updL ov 0 v.toInt64) dv) ∨ (r = nI 1 ∧ ∃ w0, xp eIB w0 ∧ w = w0 ++ wO oa od cJ cD ov dv)) 2 12 := by
  refine cwI_of (cc := cL_of) (maxL := 5) (hh := [(0, 10, 13, 21)]) htr9 (by decide) rfl (Nat.le_of_ble_eq_true rfl) ?_
  intro X hXl hXd C TX NC tb hret
  subst hXl; subst hXd
  have g0 : (a9 ++ wO oa od cJ cD ov dv)[0]? = some (b9, .inr (3, fs9)) := by rw [List.getElem?_append_left (List.getElem?_eq_some_iff.mp he9).1]; exact he9
  refine k_aload_n C 3 dL_of_0 rfl rfl ?_
  refine k_iconst C (v := (nI 0)) dL_of_1 (by decide) ?_
  refine k_aload_n C 0 dL_of_2 rfl rfl ?_
  refine k_iload_n C 1 dL_of_3 rfl rfl ?_
  refine k_iload_n C 2 dL_of_4 rfl rfl ?_
  refine kx_callVI C TX (ar := 2) (As := [.int p0, .int p1]) (rest := [.int (nI 0), .ref oa]) (cxI_frL M) gL_of_X3_of rfl rfl rfl (by decide +kernel) ⟨Nat.le_of_ble_eq_true rfl, Nat.le_of_ble_eq_true rfl⟩ 0 g0 rfl rfl rfl (Nat.le_of_ble_eq_true rfl) dL_of_5 (Nat.le_of_ble_eq_true rfl) (Nat.le_of_ble_eq_true rfl) (fun E w hx => ?_) (fun r w hw => ?_)
  · obtain ⟨w0, hx, rfl⟩ := hx
    rcases hxE E w0 hx with rfl
    · refine k_catch C (hh := [(0, 10, 13, 21)]) tb [] ⟨0, 10, 13, 21⟩ [] rfl (fun z hz => absurd hz List.not_mem_nil) (by decide) (by decide) (name := eIB) (by decide +kernel) (TX.1.1 (.castable eIB eIB) (by decide)) (fun q => ?_)
      refine k_astore C (lv' := [(4, .ref q), (0, .ref b9), (1, .int p0), (2, .int p1), (3, .ref oa)]) dL_of_13 (by decide) rfl ?_
      refine k_iconst C (v := (nI 1)) dL_of_15 (by decide) ?_
      exact hret _ _ _ _ _ _ (Or.inr (⟨rfl, w0, hx, rfl⟩)) (Nat.le_of_ble_eq_true rfl) (Nat.le_of_ble_eq_true rfl) dL_of_16
  · obtain ⟨w0, hp, rfl⟩ := hw
    have hln := hlen r w0 hp
    refine k_i2l C dL_of_8 ?_
    have g1 : (w0 ++ wO oa od cJ cD ov dv)[w0.length]? = some (oa, .inl (cJ, 1, .inr (.inl ov))) := by rw [List.getElem?_append_right (by omega)]; rw [Nat.sub_self]; rfl
    refine k_last C (ws' := (w0 ++ wO oa od cJ cD (vp_updL ov 0 r.toInt64) dv)) (j := 0) w0.length 1 g1 rfl (by decide) (by decide) (by rw [List.set_append_right _ _ (by omega)]; rw [Nat.sub_self]; rfl) dL_of_9 ?_
    refine k_goto C 17 dL_of_10 (by decide) ?_
    refine k_iconst C (v := (nI 0)) dL_of_17 (by decide) ?_
    exact hret _ _ _ _ _ _ (Or.inl ⟨rfl, r, w0, hp, rfl⟩) (Nat.le_of_ble_eq_true rfl) (Nat.le_of_ble_eq_true rfl) dL_of_18
set_option maxHeartbeats 4000000 in
set_option maxRecDepth 100000 in
theorem l_face (l : Launch) (D : va_G) (cI cJ cF cD : ClassId) (htr9 : l.stackTraces = false) {b9 oa od : Nat} {fs9 : List Value} {a9 : va_W} {ov : Nat → Int64} {dv : Nat → UInt64} {p0 : Int32} {p1 : Int32} {post : Int32 → va_W → Prop} {xp : String → va_W → Prop} (M : CxI l D (tyG cI cJ cF cD) yX3_face wsX3_face ({ frames := 7, cells := 3, slots := 18, locals := 111 }) [.ref b9, .int p0, .int p1] a9 post xp 3 18) (he9 : a9[0]? = some (b9, .inr (3, fs9))) (hxE : ∀ E w, xp E w → E = eIS ∨ E = eIB) (hlen : ∀ v w, post v w → w.length = a9.length) (hlenX : ∀ E w, xp E w → w.length = a9.length) : CwI l D (tyG cI cJ cF cD) yL_face wsL_face ({ frames := 8, cells := 3, slots := 18, locals := 134 }) [.ref b9, .int p0, .int p1, .ref oa] (a9 ++ wO oa od cJ cD ov dv) (fun r w => (r = nI 0 ∧ ∃ v w0, post v w0 ∧ w = w0 ++ wO oa od cJ cD (vp_updL ov 0 v.toInt64) dv) ∨ (r = nI 1 ∧ ∃ w0, xp eIS w0 ∧ w = w0 ++ wO oa od cJ cD ov dv) ∨ (r = nI 2 ∧ ∃ w0, xp eIB w0 ∧ w = w0 ++ wO oa od cJ cD ov dv)) 3 18 := by
  refine cwI_of (cc := cL_face) (maxL := 5) (hh := [(0, 10, 13, 15), (0, 10, 17, 21)]) htr9 (by decide) rfl (Nat.le_of_ble_eq_true rfl) ?_
  intro X hXl hXd C TX NC tb hret
  subst hXl; subst hXd
  have g0 : (a9 ++ wO oa od cJ cD ov dv)[0]? = some (b9, .inr (3, fs9)) := by rw [List.getElem?_append_left (List.getElem?_eq_some_iff.mp he9).1]; exact he9
  refine k_aload_n C 3 dL_face_0 rfl rfl ?_
  refine k_iconst C (v := (nI 0)) dL_face_1 (by decide) ?_
  refine k_aload_n C 0 dL_face_2 rfl rfl ?_
  refine k_iload_n C 1 dL_face_3 rfl rfl ?_
  refine k_iload_n C 2 dL_face_4 rfl rfl ?_
  refine kx_callVI C TX (ar := 2) (As := [.int p0, .int p1]) (rest := [.int (nI 0), .ref oa]) (cxI_frL M) gL_face_X3_face rfl rfl rfl (by decide +kernel) ⟨Nat.le_of_ble_eq_true rfl, Nat.le_of_ble_eq_true rfl⟩ 0 g0 rfl rfl rfl (Nat.le_of_ble_eq_true rfl) dL_face_5 (Nat.le_of_ble_eq_true rfl) (Nat.le_of_ble_eq_true rfl) (fun E w hx => ?_) (fun r w hw => ?_)
  · obtain ⟨w0, hx, rfl⟩ := hx
    rcases hxE E w0 hx with rfl | rfl
    · refine k_catch C (hh := [(0, 10, 13, 15), (0, 10, 17, 21)]) tb [] ⟨0, 10, 13, 15⟩ [⟨0, 10, 17, 21⟩] rfl (fun z hz => absurd hz List.not_mem_nil) (by decide) (by decide) (name := eIS) (by decide +kernel) (TX.1.1 (.castable eIS eIS) (by decide)) (fun q => ?_)
      refine k_astore C (lv' := [(4, .ref q), (0, .ref b9), (1, .int p0), (2, .int p1), (3, .ref oa)]) dL_face_13 (by decide) rfl ?_
      refine k_iconst C (v := (nI 1)) dL_face_15 (by decide) ?_
      exact hret _ _ _ _ _ _ (Or.inr (Or.inl (⟨rfl, w0, hx, rfl⟩))) (Nat.le_of_ble_eq_true rfl) (Nat.le_of_ble_eq_true rfl) dL_face_16
    · refine k_catch C (hh := [(0, 10, 13, 15), (0, 10, 17, 21)]) tb [⟨0, 10, 13, 15⟩] ⟨0, 10, 17, 21⟩ [] rfl (fun z hz => by rw [List.mem_singleton] at hz; subst hz; exact Or.inr ⟨by decide, eIS, by decide +kernel, NC.2.1⟩) (by decide) (by decide) (name := eIB) (by decide +kernel) (TX.1.1 (.castable eIB eIB) (by decide)) (fun q => ?_)
      refine k_astore C (lv' := [(4, .ref q), (0, .ref b9), (1, .int p0), (2, .int p1), (3, .ref oa)]) dL_face_17 (by decide) rfl ?_
      refine k_iconst C (v := (nI 2)) dL_face_19 (by decide) ?_
      exact hret _ _ _ _ _ _ (Or.inr (Or.inr (⟨rfl, w0, hx, rfl⟩))) (Nat.le_of_ble_eq_true rfl) (Nat.le_of_ble_eq_true rfl) dL_face_20
  · obtain ⟨w0, hp, rfl⟩ := hw
    have hln := hlen r w0 hp
    refine k_i2l C dL_face_8 ?_
    have g1 : (w0 ++ wO oa od cJ cD ov dv)[w0.length]? = some (oa, .inl (cJ, 1, .inr (.inl ov))) := by rw [List.getElem?_append_right (by omega)]; rw [Nat.sub_self]; rfl
    refine k_last C (ws' := (w0 ++ wO oa od cJ cD (vp_updL ov 0 r.toInt64) dv)) (j := 0) w0.length 1 g1 rfl (by decide) (by decide) (by rw [List.set_append_right _ _ (by omega)]; rw [Nat.sub_self]; rfl) dL_face_9 ?_
    refine k_goto C 21 dL_face_10 (by decide) ?_
    refine k_iconst C (v := (nI 0)) dL_face_21 (by decide) ?_
    exact hret _ _ _ _ _ _ (Or.inl ⟨rfl, r, w0, hp, rfl⟩) (Nat.le_of_ble_eq_true rfl) (Nat.le_of_ble_eq_true rfl) dL_face_22
set_option maxHeartbeats 4000000 in
set_option maxRecDepth 100000 in
theorem l_offset (l : Launch) (D : va_G) (cI cJ cF cD : ClassId) (htr9 : l.stackTraces = false) {b9 oa od : Nat} {fs9 : List Value} {a9 : va_W} {ov : Nat → Int64} {dv : Nat → UInt64} {p0 : Int32} {post : Int64 → va_W → Prop} {xp : String → va_W → Prop} (M : CxL l D (tyG cI cJ cF cD) yX3_offset wsX3_offset ({ frames := 7, cells := 2, slots := 12, locals := 111 }) [.ref b9, .int p0] a9 post xp 2 12) (he9 : a9[0]? = some (b9, .inr (3, fs9))) (hxE : ∀ E w, xp E w → E = eIS ∨ E = eIB) (hlen : ∀ v w, post v w → w.length = a9.length) (hlenX : ∀ E w, xp E w → w.length = a9.length) : CwI l D (tyG cI cJ cF cD) yL_offset wsL_offset ({ frames := 8, cells := 2, slots := 12, locals := 132 }) [.ref b9, .int p0, .ref oa] (a9 ++ wO oa od cJ cD ov dv) (fun r w => (r = nI 0 ∧ ∃ v w0, post v w0 ∧ w = w0 ++ wO oa od cJ cD (vp_updL ov 0 v) dv) ∨ (r = nI 1 ∧ ∃ w0, xp eIS w0 ∧ w = w0 ++ wO oa od cJ cD ov dv) ∨ (r = nI 2 ∧ ∃ w0, xp eIB w0 ∧ w = w0 ++ wO oa od cJ cD ov dv)) 2 12 := by
  refine cwI_of (cc := cL_offset) (maxL := 4) (hh := [(0, 8, 11, 15), (0, 8, 14, 21)]) htr9 (by decide) rfl (Nat.le_of_ble_eq_true rfl) ?_
  intro X hXl hXd C TX NC tb hret
  subst hXl; subst hXd
  have g0 : (a9 ++ wO oa od cJ cD ov dv)[0]? = some (b9, .inr (3, fs9)) := by rw [List.getElem?_append_left (List.getElem?_eq_some_iff.mp he9).1]; exact he9
  refine k_aload_n C 2 dL_offset_0 rfl rfl ?_
  refine k_iconst C (v := (nI 0)) dL_offset_1 (by decide) ?_
  refine k_aload_n C 0 dL_offset_2 rfl rfl ?_
  refine k_iload_n C 1 dL_offset_3 rfl rfl ?_
  refine kx_callVL C TX (ar := 1) (As := [.int p0]) (rest := [.int (nI 0), .ref oa]) (cxL_frL M) gL_offset_X3_offset rfl rfl rfl (by decide +kernel) ⟨Nat.le_of_ble_eq_true rfl, Nat.le_of_ble_eq_true rfl⟩ 0 g0 rfl rfl rfl (Nat.le_of_ble_eq_true rfl) dL_offset_4 (Nat.le_of_ble_eq_true rfl) (Nat.le_of_ble_eq_true rfl) (fun E w hx => ?_) (fun r w hw => ?_)
  · obtain ⟨w0, hx, rfl⟩ := hx
    rcases hxE E w0 hx with rfl | rfl
    · refine k_catch C (hh := [(0, 8, 11, 15), (0, 8, 14, 21)]) tb [] ⟨0, 8, 11, 15⟩ [⟨0, 8, 14, 21⟩] rfl (fun z hz => absurd hz List.not_mem_nil) (by decide) (by decide) (name := eIS) (by decide +kernel) (TX.1.1 (.castable eIS eIS) (by decide)) (fun q => ?_)
      refine k_astore_n C (lv' := [(3, .ref q), (0, .ref b9), (1, .int p0), (2, .ref oa)]) dL_offset_11 rfl (by decide) rfl ?_
      refine k_iconst C (v := (nI 1)) dL_offset_12 (by decide) ?_
      exact hret _ _ _ _ _ _ (Or.inr (Or.inl (⟨rfl, w0, hx, rfl⟩))) (Nat.le_of_ble_eq_true rfl) (Nat.le_of_ble_eq_true rfl) dL_offset_13
    · refine k_catch C (hh := [(0, 8, 11, 15), (0, 8, 14, 21)]) tb [⟨0, 8, 11, 15⟩] ⟨0, 8, 14, 21⟩ [] rfl (fun z hz => by rw [List.mem_singleton] at hz; subst hz; exact Or.inr ⟨by decide, eIS, by decide +kernel, NC.2.1⟩) (by decide) (by decide) (name := eIB) (by decide +kernel) (TX.1.1 (.castable eIB eIB) (by decide)) (fun q => ?_)
      refine k_astore_n C (lv' := [(3, .ref q), (0, .ref b9), (1, .int p0), (2, .ref oa)]) dL_offset_14 rfl (by decide) rfl ?_
      refine k_iconst C (v := (nI 2)) dL_offset_15 (by decide) ?_
      exact hret _ _ _ _ _ _ (Or.inr (Or.inr (⟨rfl, w0, hx, rfl⟩))) (Nat.le_of_ble_eq_true rfl) (Nat.le_of_ble_eq_true rfl) dL_offset_16
  · obtain ⟨w0, hp, rfl⟩ := hw
    have hln := hlen r w0 hp
    have g1 : (w0 ++ wO oa od cJ cD ov dv)[w0.length]? = some (oa, .inl (cJ, 1, .inr (.inl ov))) := by rw [List.getElem?_append_right (by omega)]; rw [Nat.sub_self]; rfl
    refine k_last C (ws' := (w0 ++ wO oa od cJ cD (vp_updL ov 0 r) dv)) (j := 0) w0.length 1 g1 rfl (by decide) (by decide) (by rw [List.set_append_right _ _ (by omega)]; rw [Nat.sub_self]; rfl) dL_offset_7 ?_
    refine k_goto C 17 dL_offset_8 (by decide) ?_
    refine k_iconst C (v := (nI 0)) dL_offset_17 (by decide) ?_
    exact hret _ _ _ _ _ _ (Or.inl ⟨rfl, r, w0, hp, rfl⟩) (Nat.le_of_ble_eq_true rfl) (Nat.le_of_ble_eq_true rfl) dL_offset_18
set_option maxHeartbeats 4000000 in
set_option maxRecDepth 100000 in
theorem l_corner (l : Launch) (D : va_G) (cI cJ cF cD : ClassId) (htr9 : l.stackTraces = false) {b9 oa od : Nat} {fs9 : List Value} {a9 : va_W} {ov : Nat → Int64} {dv : Nat → UInt64} {p0 : Int32} {p1 : Int32} {post : Int32 → va_W → Prop} {xp : String → va_W → Prop} (M : CxI l D (tyG cI cJ cF cD) yX3_corner wsX3_corner ({ frames := 7, cells := 3, slots := 18, locals := 111 }) [.ref b9, .int p0, .int p1] a9 post xp 3 18) (he9 : a9[0]? = some (b9, .inr (3, fs9))) (hxE : ∀ E w, xp E w → E = eIS ∨ E = eIB) (hlen : ∀ v w, post v w → w.length = a9.length) (hlenX : ∀ E w, xp E w → w.length = a9.length) : CwI l D (tyG cI cJ cF cD) yL_corner wsL_corner ({ frames := 8, cells := 3, slots := 18, locals := 133 }) [.ref b9, .int p0, .int p1, .ref oa] (a9 ++ wO oa od cJ cD ov dv) (fun r w => (r = nI 0 ∧ ∃ v w0, post v w0 ∧ w = w0 ++ wO oa od cJ cD (vp_updL ov 0 v.toInt64) dv) ∨ (r = nI 1 ∧ ∃ w0, xp eIS w0 ∧ w = w0 ++ wO oa od cJ cD ov dv) ∨ (r = nI 2 ∧ ∃ w0, xp eIB w0 ∧ w = w0 ++ wO oa od cJ cD ov dv)) 3 18 := by
  refine cwI_of (cc := cL_corner) (maxL := 5) (hh := [(0, 10, 13, 15), (0, 10, 17, 21)]) htr9 (by decide) rfl (Nat.le_of_ble_eq_true rfl) ?_
  intro X hXl hXd C TX NC tb hret
  subst hXl; subst hXd
  have g0 : (a9 ++ wO oa od cJ cD ov dv)[0]? = some (b9, .inr (3, fs9)) := by rw [List.getElem?_append_left (List.getElem?_eq_some_iff.mp he9).1]; exact he9
  refine k_aload_n C 3 dL_corner_0 rfl rfl ?_
  refine k_iconst C (v := (nI 0)) dL_corner_1 (by decide) ?_
  refine k_aload_n C 0 dL_corner_2 rfl rfl ?_
  refine k_iload_n C 1 dL_corner_3 rfl rfl ?_
  refine k_iload_n C 2 dL_corner_4 rfl rfl ?_
  refine kx_callVI C TX (ar := 2) (As := [.int p0, .int p1]) (rest := [.int (nI 0), .ref oa]) (cxI_frL M) gL_corner_X3_corner rfl rfl rfl (by decide +kernel) ⟨Nat.le_of_ble_eq_true rfl, Nat.le_of_ble_eq_true rfl⟩ 0 g0 rfl rfl rfl (Nat.le_of_ble_eq_true rfl) dL_corner_5 (Nat.le_of_ble_eq_true rfl) (Nat.le_of_ble_eq_true rfl) (fun E w hx => ?_) (fun r w hw => ?_)
  · obtain ⟨w0, hx, rfl⟩ := hx
    rcases hxE E w0 hx with rfl | rfl
    · refine k_catch C (hh := [(0, 10, 13, 15), (0, 10, 17, 21)]) tb [] ⟨0, 10, 13, 15⟩ [⟨0, 10, 17, 21⟩] rfl (fun z hz => absurd hz List.not_mem_nil) (by decide) (by decide) (name := eIS) (by decide +kernel) (TX.1.1 (.castable eIS eIS) (by decide)) (fun q => ?_)
      refine k_astore C (lv' := [(4, .ref q), (0, .ref b9), (1, .int p0), (2, .int p1), (3, .ref oa)]) dL_corner_13 (by decide) rfl ?_
      refine k_iconst C (v := (nI 1)) dL_corner_15 (by decide) ?_
      exact hret _ _ _ _ _ _ (Or.inr (Or.inl (⟨rfl, w0, hx, rfl⟩))) (Nat.le_of_ble_eq_true rfl) (Nat.le_of_ble_eq_true rfl) dL_corner_16
    · refine k_catch C (hh := [(0, 10, 13, 15), (0, 10, 17, 21)]) tb [⟨0, 10, 13, 15⟩] ⟨0, 10, 17, 21⟩ [] rfl (fun z hz => by rw [List.mem_singleton] at hz; subst hz; exact Or.inr ⟨by decide, eIS, by decide +kernel, NC.2.1⟩) (by decide) (by decide) (name := eIB) (by decide +kernel) (TX.1.1 (.castable eIB eIB) (by decide)) (fun q => ?_)
      refine k_astore C (lv' := [(4, .ref q), (0, .ref b9), (1, .int p0), (2, .int p1), (3, .ref oa)]) dL_corner_17 (by decide) rfl ?_
      refine k_iconst C (v := (nI 2)) dL_corner_19 (by decide) ?_
      exact hret _ _ _ _ _ _ (Or.inr (Or.inr (⟨rfl, w0, hx, rfl⟩))) (Nat.le_of_ble_eq_true rfl) (Nat.le_of_ble_eq_true rfl) dL_corner_20
  · obtain ⟨w0, hp, rfl⟩ := hw
    have hln := hlen r w0 hp
    refine k_i2l C dL_corner_8 ?_
    have g1 : (w0 ++ wO oa od cJ cD ov dv)[w0.length]? = some (oa, .inl (cJ, 1, .inr (.inl ov))) := by rw [List.getElem?_append_right (by omega)]; rw [Nat.sub_self]; rfl
    refine k_last C (ws' := (w0 ++ wO oa od cJ cD (vp_updL ov 0 r.toInt64) dv)) (j := 0) w0.length 1 g1 rfl (by decide) (by decide) (by rw [List.set_append_right _ _ (by omega)]; rw [Nat.sub_self]; rfl) dL_corner_9 ?_
    refine k_goto C 21 dL_corner_10 (by decide) ?_
    refine k_iconst C (v := (nI 0)) dL_corner_21 (by decide) ?_
    exact hret _ _ _ _ _ _ (Or.inl ⟨rfl, r, w0, hp, rfl⟩) (Nat.le_of_ble_eq_true rfl) (Nat.le_of_ble_eq_true rfl) dL_corner_22
set_option maxHeartbeats 4000000 in
set_option maxRecDepth 100000 in
theorem l_edge (l : Launch) (D : va_G) (cI cJ cF cD : ClassId) (htr9 : l.stackTraces = false) {b9 oa od : Nat} {fs9 : List Value} {a9 : va_W} {ov : Nat → Int64} {dv : Nat → UInt64} {p0 : Int32} {p1 : Int32} {post : Int32 → va_W → Prop} {xp : String → va_W → Prop} (M : CxI l D (tyG cI cJ cF cD) yX3_edge wsX3_edge ({ frames := 7, cells := 3, slots := 18, locals := 111 }) [.ref b9, .int p0, .int p1] a9 post xp 3 18) (he9 : a9[0]? = some (b9, .inr (3, fs9))) (hxE : ∀ E w, xp E w → E = eIS ∨ E = eIB) (hlen : ∀ v w, post v w → w.length = a9.length) (hlenX : ∀ E w, xp E w → w.length = a9.length) : CwI l D (tyG cI cJ cF cD) yL_edge wsL_edge ({ frames := 8, cells := 3, slots := 18, locals := 135 }) [.ref b9, .int p0, .int p1, .ref oa] (a9 ++ wO oa od cJ cD ov dv) (fun r w => (r = nI 0 ∧ ∃ v w0, post v w0 ∧ w = w0 ++ wO oa od cJ cD (vp_updL ov 0 v.toInt64) dv) ∨ (r = nI 1 ∧ ∃ w0, xp eIS w0 ∧ w = w0 ++ wO oa od cJ cD ov dv) ∨ (r = nI 2 ∧ ∃ w0, xp eIB w0 ∧ w = w0 ++ wO oa od cJ cD ov dv)) 3 18 := by
  refine cwI_of (cc := cL_edge) (maxL := 5) (hh := [(0, 10, 13, 15), (0, 10, 17, 21)]) htr9 (by decide) rfl (Nat.le_of_ble_eq_true rfl) ?_
  intro X hXl hXd C TX NC tb hret
  subst hXl; subst hXd
  have g0 : (a9 ++ wO oa od cJ cD ov dv)[0]? = some (b9, .inr (3, fs9)) := by rw [List.getElem?_append_left (List.getElem?_eq_some_iff.mp he9).1]; exact he9
  refine k_aload_n C 3 dL_edge_0 rfl rfl ?_
  refine k_iconst C (v := (nI 0)) dL_edge_1 (by decide) ?_
  refine k_aload_n C 0 dL_edge_2 rfl rfl ?_
  refine k_iload_n C 1 dL_edge_3 rfl rfl ?_
  refine k_iload_n C 2 dL_edge_4 rfl rfl ?_
  refine kx_callVI C TX (ar := 2) (As := [.int p0, .int p1]) (rest := [.int (nI 0), .ref oa]) (cxI_frL M) gL_edge_X3_edge rfl rfl rfl (by decide +kernel) ⟨Nat.le_of_ble_eq_true rfl, Nat.le_of_ble_eq_true rfl⟩ 0 g0 rfl rfl rfl (Nat.le_of_ble_eq_true rfl) dL_edge_5 (Nat.le_of_ble_eq_true rfl) (Nat.le_of_ble_eq_true rfl) (fun E w hx => ?_) (fun r w hw => ?_)
  · obtain ⟨w0, hx, rfl⟩ := hx
    rcases hxE E w0 hx with rfl | rfl
    · refine k_catch C (hh := [(0, 10, 13, 15), (0, 10, 17, 21)]) tb [] ⟨0, 10, 13, 15⟩ [⟨0, 10, 17, 21⟩] rfl (fun z hz => absurd hz List.not_mem_nil) (by decide) (by decide) (name := eIS) (by decide +kernel) (TX.1.1 (.castable eIS eIS) (by decide)) (fun q => ?_)
      refine k_astore C (lv' := [(4, .ref q), (0, .ref b9), (1, .int p0), (2, .int p1), (3, .ref oa)]) dL_edge_13 (by decide) rfl ?_
      refine k_iconst C (v := (nI 1)) dL_edge_15 (by decide) ?_
      exact hret _ _ _ _ _ _ (Or.inr (Or.inl (⟨rfl, w0, hx, rfl⟩))) (Nat.le_of_ble_eq_true rfl) (Nat.le_of_ble_eq_true rfl) dL_edge_16
    · refine k_catch C (hh := [(0, 10, 13, 15), (0, 10, 17, 21)]) tb [⟨0, 10, 13, 15⟩] ⟨0, 10, 17, 21⟩ [] rfl (fun z hz => by rw [List.mem_singleton] at hz; subst hz; exact Or.inr ⟨by decide, eIS, by decide +kernel, NC.2.1⟩) (by decide) (by decide) (name := eIB) (by decide +kernel) (TX.1.1 (.castable eIB eIB) (by decide)) (fun q => ?_)
      refine k_astore C (lv' := [(4, .ref q), (0, .ref b9), (1, .int p0), (2, .int p1), (3, .ref oa)]) dL_edge_17 (by decide) rfl ?_
      refine k_iconst C (v := (nI 2)) dL_edge_19 (by decide) ?_
      exact hret _ _ _ _ _ _ (Or.inr (Or.inr (⟨rfl, w0, hx, rfl⟩))) (Nat.le_of_ble_eq_true rfl) (Nat.le_of_ble_eq_true rfl) dL_edge_20
  · obtain ⟨w0, hp, rfl⟩ := hw
    have hln := hlen r w0 hp
    refine k_i2l C dL_edge_8 ?_
    have g1 : (w0 ++ wO oa od cJ cD ov dv)[w0.length]? = some (oa, .inl (cJ, 1, .inr (.inl ov))) := by rw [List.getElem?_append_right (by omega)]; rw [Nat.sub_self]; rfl
    refine k_last C (ws' := (w0 ++ wO oa od cJ cD (vp_updL ov 0 r.toInt64) dv)) (j := 0) w0.length 1 g1 rfl (by decide) (by decide) (by rw [List.set_append_right _ _ (by omega)]; rw [Nat.sub_self]; rfl) dL_edge_9 ?_
    refine k_goto C 21 dL_edge_10 (by decide) ?_
    refine k_iconst C (v := (nI 0)) dL_edge_21 (by decide) ?_
    exact hret _ _ _ _ _ _ (Or.inl ⟨rfl, r, w0, hp, rfl⟩) (Nat.le_of_ble_eq_true rfl) (Nat.le_of_ble_eq_true rfl) dL_edge_22
set_option maxHeartbeats 4000000 in
set_option maxRecDepth 100000 in
theorem l_support (l : Launch) (D : va_G) (cI cJ cF cD : ClassId) (htr9 : l.stackTraces = false) {b9 oa od : Nat} {fs9 : List Value} {a9 : va_W} {ov : Nat → Int64} {dv : Nat → UInt64} {p0 : Int32} {p1 : Int32} {p2 : Int32} {post : Int32 → va_W → Prop} {xp : String → va_W → Prop} (M : CxI l D (tyG cI cJ cF cD) yX3_support wsX3_support ({ frames := 7, cells := 2, slots := 12, locals := 113 }) [.ref b9, .int p0, .int p1, .int p2] a9 post xp 2 12) (he9 : a9[0]? = some (b9, .inr (3, fs9))) (hxE : ∀ E w, xp E w → E = eIS ∨ E = eIA) (hlen : ∀ v w, post v w → w.length = a9.length) (hlenX : ∀ E w, xp E w → w.length = a9.length) : CwI l D (tyG cI cJ cF cD) yL_support wsL_support ({ frames := 8, cells := 2, slots := 12, locals := 136 }) [.ref b9, .int p0, .int p1, .int p2, .ref oa] (a9 ++ wO oa od cJ cD ov dv) (fun r w => (r = nI 0 ∧ ∃ v w0, post v w0 ∧ w = w0 ++ wO oa od cJ cD (vp_updL ov 0 v.toInt64) dv) ∨ (r = nI 1 ∧ ∃ w0, xp eIS w0 ∧ w = w0 ++ wO oa od cJ cD ov dv) ∨ (r = nI 2 ∧ ∃ w0, xp eIA w0 ∧ w = w0 ++ wO oa od cJ cD ov dv)) 2 12 := by
  refine cwI_of (cc := cL_support) (maxL := 6) (hh := [(0, 12, 15, 15), (0, 12, 19, 13)]) htr9 (by decide) rfl (Nat.le_of_ble_eq_true rfl) ?_
  intro X hXl hXd C TX NC tb hret
  subst hXl; subst hXd
  have g0 : (a9 ++ wO oa od cJ cD ov dv)[0]? = some (b9, .inr (3, fs9)) := by rw [List.getElem?_append_left (List.getElem?_eq_some_iff.mp he9).1]; exact he9
  refine k_aload C 4 dL_support_0 rfl ?_
  refine k_iconst C (v := (nI 0)) dL_support_2 (by decide) ?_
  refine k_aload_n C 0 dL_support_3 rfl rfl ?_
  refine k_iload_n C 1 dL_support_4 rfl rfl ?_
  refine k_iload_n C 2 dL_support_5 rfl rfl ?_
  refine k_iload_n C 3 dL_support_6 rfl rfl ?_
  refine kx_callVI C TX (ar := 3) (As := [.int p0, .int p1, .int p2]) (rest := [.int (nI 0), .ref oa]) (cxI_frL M) gL_support_X3_support rfl rfl rfl (by decide +kernel) ⟨Nat.le_of_ble_eq_true rfl, Nat.le_of_ble_eq_true rfl⟩ 0 g0 rfl rfl rfl (Nat.le_of_ble_eq_true rfl) dL_support_7 (Nat.le_of_ble_eq_true rfl) (Nat.le_of_ble_eq_true rfl) (fun E w hx => ?_) (fun r w hw => ?_)
  · obtain ⟨w0, hx, rfl⟩ := hx
    rcases hxE E w0 hx with rfl | rfl
    · refine k_catch C (hh := [(0, 12, 15, 15), (0, 12, 19, 13)]) tb [] ⟨0, 12, 15, 15⟩ [⟨0, 12, 19, 13⟩] rfl (fun z hz => absurd hz List.not_mem_nil) (by decide) (by decide) (name := eIS) (by decide +kernel) (TX.1.1 (.castable eIS eIS) (by decide)) (fun q => ?_)
      refine k_astore C (lv' := [(5, .ref q), (0, .ref b9), (1, .int p0), (2, .int p1), (3, .int p2), (4, .ref oa)]) dL_support_15 (by decide) rfl ?_
      refine k_iconst C (v := (nI 1)) dL_support_17 (by decide) ?_
      exact hret _ _ _ _ _ _ (Or.inr (Or.inl (⟨rfl, w0, hx, rfl⟩))) (Nat.le_of_ble_eq_true rfl) (Nat.le_of_ble_eq_true rfl) dL_support_18
    · refine k_catch C (hh := [(0, 12, 15, 15), (0, 12, 19, 13)]) tb [⟨0, 12, 15, 15⟩] ⟨0, 12, 19, 13⟩ [] rfl (fun z hz => by rw [List.mem_singleton] at hz; subst hz; exact Or.inr ⟨by decide, eIS, by decide +kernel, NC.2.2⟩) (by decide) (by decide) (name := eIA) (by decide +kernel) (TX.1.1 (.castable eIA eIA) (by decide)) (fun q => ?_)
      refine k_astore C (lv' := [(5, .ref q), (0, .ref b9), (1, .int p0), (2, .int p1), (3, .int p2), (4, .ref oa)]) dL_support_19 (by decide) rfl ?_
      refine k_iconst C (v := (nI 2)) dL_support_21 (by decide) ?_
      exact hret _ _ _ _ _ _ (Or.inr (Or.inr (⟨rfl, w0, hx, rfl⟩))) (Nat.le_of_ble_eq_true rfl) (Nat.le_of_ble_eq_true rfl) dL_support_22
  · obtain ⟨w0, hp, rfl⟩ := hw
    have hln := hlen r w0 hp
    refine k_i2l C dL_support_10 ?_
    have g1 : (w0 ++ wO oa od cJ cD ov dv)[w0.length]? = some (oa, .inl (cJ, 1, .inr (.inl ov))) := by rw [List.getElem?_append_right (by omega)]; rw [Nat.sub_self]; rfl
    refine k_last C (ws' := (w0 ++ wO oa od cJ cD (vp_updL ov 0 r.toInt64) dv)) (j := 0) w0.length 1 g1 rfl (by decide) (by decide) (by rw [List.set_append_right _ _ (by omega)]; rw [Nat.sub_self]; rfl) dL_support_11 ?_
    refine k_goto C 23 dL_support_12 (by decide) ?_
    refine k_iconst C (v := (nI 0)) dL_support_23 (by decide) ?_
    exact hret _ _ _ _ _ _ (Or.inl ⟨rfl, r, w0, hp, rfl⟩) (Nat.le_of_ble_eq_true rfl) (Nat.le_of_ble_eq_true rfl) dL_support_24
set_option maxHeartbeats 4000000 in
set_option maxRecDepth 100000 in
theorem l_steps (l : Launch) (D : va_G) (cI cJ cF cD : ClassId) (htr9 : l.stackTraces = false) {b9 oa od : Nat} {fs9 : List Value} {a9 : va_W} {ov : Nat → Int64} {dv : Nat → UInt64} {p0 : Int32} {p1 : Int32} {post : Int32 → va_W → Prop} {xp : String → va_W → Prop} (M : CxI l D (tyG cI cJ cF cD) yX3_steps wsX3_steps ({ frames := 8, cells := 5, slots := 30, locals := 132 }) [.ref b9, .int p0, .int p1] a9 post xp 5 30) (he9 : a9[0]? = some (b9, .inr (3, fs9))) (hxE : ∀ E w, xp E w → E = eIS ∨ E = eIB) (hlen : ∀ v w, post v w → w.length = a9.length) (hlenX : ∀ E w, xp E w → w.length = a9.length) : CwI l D (tyG cI cJ cF cD) yL_steps wsL_steps ({ frames := 9, cells := 5, slots := 30, locals := 154 }) [.ref b9, .int p0, .int p1, .ref oa] (a9 ++ wO oa od cJ cD ov dv) (fun r w => (r = nI 0 ∧ ∃ v w0, post v w0 ∧ w = w0 ++ wO oa od cJ cD (vp_updL ov 0 v.toInt64) dv) ∨ (r = nI 1 ∧ ∃ w0, xp eIS w0 ∧ w = w0 ++ wO oa od cJ cD ov dv) ∨ (r = nI 2 ∧ ∃ w0, xp eIB w0 ∧ w = w0 ++ wO oa od cJ cD ov dv)) 5 30 := by
  refine cwI_of (cc := cL_steps) (maxL := 5) (hh := [(0, 10, 13, 15), (0, 10, 17, 21)]) htr9 (by decide) rfl (Nat.le_of_ble_eq_true rfl) ?_
  intro X hXl hXd C TX NC tb hret
  subst hXl; subst hXd
  have g0 : (a9 ++ wO oa od cJ cD ov dv)[0]? = some (b9, .inr (3, fs9)) := by rw [List.getElem?_append_left (List.getElem?_eq_some_iff.mp he9).1]; exact he9
  refine k_aload_n C 3 dL_steps_0 rfl rfl ?_
  refine k_iconst C (v := (nI 0)) dL_steps_1 (by decide) ?_
  refine k_aload_n C 0 dL_steps_2 rfl rfl ?_
  refine k_iload_n C 1 dL_steps_3 rfl rfl ?_
  refine k_iload_n C 2 dL_steps_4 rfl rfl ?_
  refine kx_callVI C TX (ar := 2) (As := [.int p0, .int p1]) (rest := [.int (nI 0), .ref oa]) (cxI_frL M) gL_steps_X3_steps rfl rfl rfl (by decide +kernel) ⟨Nat.le_of_ble_eq_true rfl, Nat.le_of_ble_eq_true rfl⟩ 0 g0 rfl rfl rfl (Nat.le_of_ble_eq_true rfl) dL_steps_5 (Nat.le_of_ble_eq_true rfl) (Nat.le_of_ble_eq_true rfl) (fun E w hx => ?_) (fun r w hw => ?_)
  · obtain ⟨w0, hx, rfl⟩ := hx
    rcases hxE E w0 hx with rfl | rfl
    · refine k_catch C (hh := [(0, 10, 13, 15), (0, 10, 17, 21)]) tb [] ⟨0, 10, 13, 15⟩ [⟨0, 10, 17, 21⟩] rfl (fun z hz => absurd hz List.not_mem_nil) (by decide) (by decide) (name := eIS) (by decide +kernel) (TX.1.1 (.castable eIS eIS) (by decide)) (fun q => ?_)
      refine k_astore C (lv' := [(4, .ref q), (0, .ref b9), (1, .int p0), (2, .int p1), (3, .ref oa)]) dL_steps_13 (by decide) rfl ?_
      refine k_iconst C (v := (nI 1)) dL_steps_15 (by decide) ?_
      exact hret _ _ _ _ _ _ (Or.inr (Or.inl (⟨rfl, w0, hx, rfl⟩))) (Nat.le_of_ble_eq_true rfl) (Nat.le_of_ble_eq_true rfl) dL_steps_16
    · refine k_catch C (hh := [(0, 10, 13, 15), (0, 10, 17, 21)]) tb [⟨0, 10, 13, 15⟩] ⟨0, 10, 17, 21⟩ [] rfl (fun z hz => by rw [List.mem_singleton] at hz; subst hz; exact Or.inr ⟨by decide, eIS, by decide +kernel, NC.2.1⟩) (by decide) (by decide) (name := eIB) (by decide +kernel) (TX.1.1 (.castable eIB eIB) (by decide)) (fun q => ?_)
      refine k_astore C (lv' := [(4, .ref q), (0, .ref b9), (1, .int p0), (2, .int p1), (3, .ref oa)]) dL_steps_17 (by decide) rfl ?_
      refine k_iconst C (v := (nI 2)) dL_steps_19 (by decide) ?_
      exact hret _ _ _ _ _ _ (Or.inr (Or.inr (⟨rfl, w0, hx, rfl⟩))) (Nat.le_of_ble_eq_true rfl) (Nat.le_of_ble_eq_true rfl) dL_steps_20
  · obtain ⟨w0, hp, rfl⟩ := hw
    have hln := hlen r w0 hp
    refine k_i2l C dL_steps_8 ?_
    have g1 : (w0 ++ wO oa od cJ cD ov dv)[w0.length]? = some (oa, .inl (cJ, 1, .inr (.inl ov))) := by rw [List.getElem?_append_right (by omega)]; rw [Nat.sub_self]; rfl
    refine k_last C (ws' := (w0 ++ wO oa od cJ cD (vp_updL ov 0 r.toInt64) dv)) (j := 0) w0.length 1 g1 rfl (by decide) (by decide) (by rw [List.set_append_right _ _ (by omega)]; rw [Nat.sub_self]; rfl) dL_steps_9 ?_
    refine k_goto C 21 dL_steps_10 (by decide) ?_
    refine k_iconst C (v := (nI 0)) dL_steps_21 (by decide) ?_
    exact hret _ _ _ _ _ _ (Or.inl ⟨rfl, r, w0, hp, rfl⟩) (Nat.le_of_ble_eq_true rfl) (Nat.le_of_ble_eq_true rfl) dL_steps_22
set_option maxHeartbeats 4000000 in
set_option maxRecDepth 100000 in
theorem l_side (l : Launch) (D : va_G) (cI cJ cF cD : ClassId) (htr9 : l.stackTraces = false) {b9 oa od : Nat} {fs9 : List Value} {a9 : va_W} {ov : Nat → Int64} {dv : Nat → UInt64} {p0 : Int32} {p1 : Int32} {p2 : Int32} {post : Int32 → va_W → Prop} {xp : String → va_W → Prop} (M : CxI l D (tyG cI cJ cF cD) yX3_side wsX3_side ({ frames := 7, cells := 2, slots := 12, locals := 113 }) [.ref b9, .int p0, .int p1, .int p2] a9 post xp 2 12) (he9 : a9[0]? = some (b9, .inr (3, fs9))) (hxE : ∀ E w, xp E w → E = eIS ∨ E = eIA) (hlen : ∀ v w, post v w → w.length = a9.length) (hlenX : ∀ E w, xp E w → w.length = a9.length) : CwI l D (tyG cI cJ cF cD) yL_side wsL_side ({ frames := 8, cells := 2, slots := 12, locals := 136 }) [.ref b9, .int p0, .int p1, .int p2, .ref oa] (a9 ++ wO oa od cJ cD ov dv) (fun r w => (r = nI 0 ∧ ∃ v w0, post v w0 ∧ w = w0 ++ wO oa od cJ cD (vp_updL ov 0 v.toInt64) dv) ∨ (r = nI 1 ∧ ∃ w0, xp eIS w0 ∧ w = w0 ++ wO oa od cJ cD ov dv) ∨ (r = nI 2 ∧ ∃ w0, xp eIA w0 ∧ w = w0 ++ wO oa od cJ cD ov dv)) 2 12 := by
  refine cwI_of (cc := cL_side) (maxL := 6) (hh := [(0, 12, 15, 15), (0, 12, 19, 13)]) htr9 (by decide) rfl (Nat.le_of_ble_eq_true rfl) ?_
  intro X hXl hXd C TX NC tb hret
  subst hXl; subst hXd
  have g0 : (a9 ++ wO oa od cJ cD ov dv)[0]? = some (b9, .inr (3, fs9)) := by rw [List.getElem?_append_left (List.getElem?_eq_some_iff.mp he9).1]; exact he9
  refine k_aload C 4 dL_side_0 rfl ?_
  refine k_iconst C (v := (nI 0)) dL_side_2 (by decide) ?_
  refine k_aload_n C 0 dL_side_3 rfl rfl ?_
  refine k_iload_n C 1 dL_side_4 rfl rfl ?_
  refine k_iload_n C 2 dL_side_5 rfl rfl ?_
  refine k_iload_n C 3 dL_side_6 rfl rfl ?_
  refine kx_callVI C TX (ar := 3) (As := [.int p0, .int p1, .int p2]) (rest := [.int (nI 0), .ref oa]) (cxI_frL M) gL_side_X3_side rfl rfl rfl (by decide +kernel) ⟨Nat.le_of_ble_eq_true rfl, Nat.le_of_ble_eq_true rfl⟩ 0 g0 rfl rfl rfl (Nat.le_of_ble_eq_true rfl) dL_side_7 (Nat.le_of_ble_eq_true rfl) (Nat.le_of_ble_eq_true rfl) (fun E w hx => ?_) (fun r w hw => ?_)
  · obtain ⟨w0, hx, rfl⟩ := hx
    rcases hxE E w0 hx with rfl | rfl
    · refine k_catch C (hh := [(0, 12, 15, 15), (0, 12, 19, 13)]) tb [] ⟨0, 12, 15, 15⟩ [⟨0, 12, 19, 13⟩] rfl (fun z hz => absurd hz List.not_mem_nil) (by decide) (by decide) (name := eIS) (by decide +kernel) (TX.1.1 (.castable eIS eIS) (by decide)) (fun q => ?_)
      refine k_astore C (lv' := [(5, .ref q), (0, .ref b9), (1, .int p0), (2, .int p1), (3, .int p2), (4, .ref oa)]) dL_side_15 (by decide) rfl ?_
      refine k_iconst C (v := (nI 1)) dL_side_17 (by decide) ?_
      exact hret _ _ _ _ _ _ (Or.inr (Or.inl (⟨rfl, w0, hx, rfl⟩))) (Nat.le_of_ble_eq_true rfl) (Nat.le_of_ble_eq_true rfl) dL_side_18
    · refine k_catch C (hh := [(0, 12, 15, 15), (0, 12, 19, 13)]) tb [⟨0, 12, 15, 15⟩] ⟨0, 12, 19, 13⟩ [] rfl (fun z hz => by rw [List.mem_singleton] at hz; subst hz; exact Or.inr ⟨by decide, eIS, by decide +kernel, NC.2.2⟩) (by decide) (by decide) (name := eIA) (by decide +kernel) (TX.1.1 (.castable eIA eIA) (by decide)) (fun q => ?_)
      refine k_astore C (lv' := [(5, .ref q), (0, .ref b9), (1, .int p0), (2, .int p1), (3, .int p2), (4, .ref oa)]) dL_side_19 (by decide) rfl ?_
      refine k_iconst C (v := (nI 2)) dL_side_21 (by decide) ?_
      exact hret _ _ _ _ _ _ (Or.inr (Or.inr (⟨rfl, w0, hx, rfl⟩))) (Nat.le_of_ble_eq_true rfl) (Nat.le_of_ble_eq_true rfl) dL_side_22
  · obtain ⟨w0, hp, rfl⟩ := hw
    have hln := hlen r w0 hp
    refine k_i2l C dL_side_10 ?_
    have g1 : (w0 ++ wO oa od cJ cD ov dv)[w0.length]? = some (oa, .inl (cJ, 1, .inr (.inl ov))) := by rw [List.getElem?_append_right (by omega)]; rw [Nat.sub_self]; rfl
    refine k_last C (ws' := (w0 ++ wO oa od cJ cD (vp_updL ov 0 r.toInt64) dv)) (j := 0) w0.length 1 g1 rfl (by decide) (by decide) (by rw [List.set_append_right _ _ (by omega)]; rw [Nat.sub_self]; rfl) dL_side_11 ?_
    refine k_goto C 23 dL_side_12 (by decide) ?_
    refine k_iconst C (v := (nI 0)) dL_side_23 (by decide) ?_
    exact hret _ _ _ _ _ _ (Or.inl ⟨rfl, r, w0, hp, rfl⟩) (Nat.le_of_ble_eq_true rfl) (Nat.le_of_ble_eq_true rfl) dL_side_24
set_option maxHeartbeats 4000000 in
set_option maxRecDepth 100000 in
theorem l_volume (l : Launch) (D : va_G) (cI cJ cF cD : ClassId) (htr9 : l.stackTraces = false) {b9 oa od : Nat} {fs9 : List Value} {a9 : va_W} {ov : Nat → Int64} {dv : Nat → UInt64} {post : Int64 → va_W → Prop} {xp : String → va_W → Prop} (M : CxL l D (tyG cI cJ cF cD) yX3_volume wsX3_volume ({ frames := 7, cells := 1, slots := 6, locals := 110 }) [.ref b9] a9 post xp 1 6) (he9 : a9[0]? = some (b9, .inr (3, fs9))) (hxE : ∀ E w, xp E w → E = eIS) (hlen : ∀ v w, post v w → w.length = a9.length) (hlenX : ∀ E w, xp E w → w.length = a9.length) : CwI l D (tyG cI cJ cF cD) yL_volume wsL_volume ({ frames := 8, cells := 1, slots := 6, locals := 130 }) [.ref b9, .ref oa] (a9 ++ wO oa od cJ cD ov dv) (fun r w => (r = nI 0 ∧ ∃ v w0, post v w0 ∧ w = w0 ++ wO oa od cJ cD (vp_updL ov 0 v) dv) ∨ (r = nI 1 ∧ ∃ w0, xp eIS w0 ∧ w = w0 ++ wO oa od cJ cD ov dv)) 1 6 := by
  refine cwI_of (cc := cL_volume) (maxL := 3) (hh := [(0, 7, 10, 15)]) htr9 (by decide) rfl (Nat.le_of_ble_eq_true rfl) ?_
  intro X hXl hXd C TX NC tb hret
  subst hXl; subst hXd
  have g0 : (a9 ++ wO oa od cJ cD ov dv)[0]? = some (b9, .inr (3, fs9)) := by rw [List.getElem?_append_left (List.getElem?_eq_some_iff.mp he9).1]; exact he9
  refine k_aload_n C 1 dL_volume_0 rfl rfl ?_
  refine k_iconst C (v := (nI 0)) dL_volume_1 (by decide) ?_
  refine k_aload_n C 0 dL_volume_2 rfl rfl ?_
  refine kx_callVL C TX (ar := 0) (As := []) (rest := [.int (nI 0), .ref oa]) (cxL_frL M) gL_volume_X3_volume rfl rfl rfl (by decide +kernel) ⟨Nat.le_of_ble_eq_true rfl, Nat.le_of_ble_eq_true rfl⟩ 0 g0 rfl rfl rfl (Nat.le_of_ble_eq_true rfl) dL_volume_3 (Nat.le_of_ble_eq_true rfl) (Nat.le_of_ble_eq_true rfl) (fun E w hx => ?_) (fun r w hw => ?_)
  · obtain ⟨w0, hx, rfl⟩ := hx
    rcases hxE E w0 hx with rfl
    · refine k_catch C (hh := [(0, 7, 10, 15)]) tb [] ⟨0, 7, 10, 15⟩ [] rfl (fun z hz => absurd hz List.not_mem_nil) (by decide) (by decide) (name := eIS) (by decide +kernel) (TX.1.1 (.castable eIS eIS) (by decide)) (fun q => ?_)
      refine k_astore_n C (lv' := [(2, .ref q), (0, .ref b9), (1, .ref oa)]) dL_volume_10 rfl (by decide) rfl ?_
      refine k_iconst C (v := (nI 1)) dL_volume_11 (by decide) ?_
      exact hret _ _ _ _ _ _ (Or.inr (⟨rfl, w0, hx, rfl⟩)) (Nat.le_of_ble_eq_true rfl) (Nat.le_of_ble_eq_true rfl) dL_volume_12
  · obtain ⟨w0, hp, rfl⟩ := hw
    have hln := hlen r w0 hp
    have g1 : (w0 ++ wO oa od cJ cD ov dv)[w0.length]? = some (oa, .inl (cJ, 1, .inr (.inl ov))) := by rw [List.getElem?_append_right (by omega)]; rw [Nat.sub_self]; rfl
    refine k_last C (ws' := (w0 ++ wO oa od cJ cD (vp_updL ov 0 r) dv)) (j := 0) w0.length 1 g1 rfl (by decide) (by decide) (by rw [List.set_append_right _ _ (by omega)]; rw [Nat.sub_self]; rfl) dL_volume_6 ?_
    refine k_goto C 13 dL_volume_7 (by decide) ?_
    refine k_iconst C (v := (nI 0)) dL_volume_13 (by decide) ?_
    exact hret _ _ _ _ _ _ (Or.inl ⟨rfl, r, w0, hp, rfl⟩) (Nat.le_of_ble_eq_true rfl) (Nat.le_of_ble_eq_true rfl) dL_volume_14
set_option maxHeartbeats 4000000 in
set_option maxRecDepth 100000 in
theorem l_centre (l : Launch) (D : va_G) (cI cJ cF cD : ClassId) (htr9 : l.stackTraces = false) {b9 oa od : Nat} {fs9 : List Value} {a9 : va_W} {ov : Nat → Int64} {dv : Nat → UInt64} {p0 : Int32} {post : Int64 → va_W → Prop} {xp : String → va_W → Prop} (M : CxL l D (tyG cI cJ cF cD) yX3_centre wsX3_centre ({ frames := 7, cells := 2, slots := 12, locals := 111 }) [.ref b9, .int p0] a9 post xp 2 12) (he9 : a9[0]? = some (b9, .inr (3, fs9))) (hxE : ∀ E w, xp E w → E = eIS ∨ E = eIB) (hlen : ∀ v w, post v w → w.length = a9.length) (hlenX : ∀ E w, xp E w → w.length = a9.length) : CwI l D (tyG cI cJ cF cD) yL_centre wsL_centre ({ frames := 8, cells := 2, slots := 12, locals := 132 }) [.ref b9, .int p0, .ref oa] (a9 ++ wO oa od cJ cD ov dv) (fun r w => (r = nI 0 ∧ ∃ v w0, post v w0 ∧ w = w0 ++ wO oa od cJ cD (vp_updL ov 0 v) dv) ∨ (r = nI 1 ∧ ∃ w0, xp eIS w0 ∧ w = w0 ++ wO oa od cJ cD ov dv) ∨ (r = nI 2 ∧ ∃ w0, xp eIB w0 ∧ w = w0 ++ wO oa od cJ cD ov dv)) 2 12 := by
  refine cwI_of (cc := cL_centre) (maxL := 4) (hh := [(0, 8, 11, 15), (0, 8, 14, 21)]) htr9 (by decide) rfl (Nat.le_of_ble_eq_true rfl) ?_
  intro X hXl hXd C TX NC tb hret
  subst hXl; subst hXd
  have g0 : (a9 ++ wO oa od cJ cD ov dv)[0]? = some (b9, .inr (3, fs9)) := by rw [List.getElem?_append_left (List.getElem?_eq_some_iff.mp he9).1]; exact he9
  refine k_aload_n C 2 dL_centre_0 rfl rfl ?_
  refine k_iconst C (v := (nI 0)) dL_centre_1 (by decide) ?_
  refine k_aload_n C 0 dL_centre_2 rfl rfl ?_
  refine k_iload_n C 1 dL_centre_3 rfl rfl ?_
  refine kx_callVL C TX (ar := 1) (As := [.int p0]) (rest := [.int (nI 0), .ref oa]) (cxL_frL M) gL_centre_X3_centre rfl rfl rfl (by decide +kernel) ⟨Nat.le_of_ble_eq_true rfl, Nat.le_of_ble_eq_true rfl⟩ 0 g0 rfl rfl rfl (Nat.le_of_ble_eq_true rfl) dL_centre_4 (Nat.le_of_ble_eq_true rfl) (Nat.le_of_ble_eq_true rfl) (fun E w hx => ?_) (fun r w hw => ?_)
  · obtain ⟨w0, hx, rfl⟩ := hx
    rcases hxE E w0 hx with rfl | rfl
    · refine k_catch C (hh := [(0, 8, 11, 15), (0, 8, 14, 21)]) tb [] ⟨0, 8, 11, 15⟩ [⟨0, 8, 14, 21⟩] rfl (fun z hz => absurd hz List.not_mem_nil) (by decide) (by decide) (name := eIS) (by decide +kernel) (TX.1.1 (.castable eIS eIS) (by decide)) (fun q => ?_)
      refine k_astore_n C (lv' := [(3, .ref q), (0, .ref b9), (1, .int p0), (2, .ref oa)]) dL_centre_11 rfl (by decide) rfl ?_
      refine k_iconst C (v := (nI 1)) dL_centre_12 (by decide) ?_
      exact hret _ _ _ _ _ _ (Or.inr (Or.inl (⟨rfl, w0, hx, rfl⟩))) (Nat.le_of_ble_eq_true rfl) (Nat.le_of_ble_eq_true rfl) dL_centre_13
    · refine k_catch C (hh := [(0, 8, 11, 15), (0, 8, 14, 21)]) tb [⟨0, 8, 11, 15⟩] ⟨0, 8, 14, 21⟩ [] rfl (fun z hz => by rw [List.mem_singleton] at hz; subst hz; exact Or.inr ⟨by decide, eIS, by decide +kernel, NC.2.1⟩) (by decide) (by decide) (name := eIB) (by decide +kernel) (TX.1.1 (.castable eIB eIB) (by decide)) (fun q => ?_)
      refine k_astore_n C (lv' := [(3, .ref q), (0, .ref b9), (1, .int p0), (2, .ref oa)]) dL_centre_14 rfl (by decide) rfl ?_
      refine k_iconst C (v := (nI 2)) dL_centre_15 (by decide) ?_
      exact hret _ _ _ _ _ _ (Or.inr (Or.inr (⟨rfl, w0, hx, rfl⟩))) (Nat.le_of_ble_eq_true rfl) (Nat.le_of_ble_eq_true rfl) dL_centre_16
  · obtain ⟨w0, hp, rfl⟩ := hw
    have hln := hlen r w0 hp
    have g1 : (w0 ++ wO oa od cJ cD ov dv)[w0.length]? = some (oa, .inl (cJ, 1, .inr (.inl ov))) := by rw [List.getElem?_append_right (by omega)]; rw [Nat.sub_self]; rfl
    refine k_last C (ws' := (w0 ++ wO oa od cJ cD (vp_updL ov 0 r) dv)) (j := 0) w0.length 1 g1 rfl (by decide) (by decide) (by rw [List.set_append_right _ _ (by omega)]; rw [Nat.sub_self]; rfl) dL_centre_7 ?_
    refine k_goto C 17 dL_centre_8 (by decide) ?_
    refine k_iconst C (v := (nI 0)) dL_centre_17 (by decide) ?_
    exact hret _ _ _ _ _ _ (Or.inl ⟨rfl, r, w0, hp, rfl⟩) (Nat.le_of_ble_eq_true rfl) (Nat.le_of_ble_eq_true rfl) dL_centre_18
set_option maxHeartbeats 4000000 in
set_option maxRecDepth 100000 in
theorem l_middle (l : Launch) (D : va_G) (cI cJ cF cD : ClassId) (htr9 : l.stackTraces = false) {b9 oa od : Nat} {fs9 : List Value} {a9 : va_W} {ov : Nat → Int64} {dv : Nat → UInt64} {p0 : Int32} {post : UInt64 → va_W → Prop} {xp : String → va_W → Prop} (M : CxD l D (tyG cI cJ cF cD) yX3_middle wsX3_middle ({ frames := 7, cells := 2, slots := 12, locals := 111 }) [.ref b9, .int p0] a9 post xp 2 12) (he9 : a9[0]? = some (b9, .inr (3, fs9))) (hxE : ∀ E w, xp E w → E = eIS ∨ E = eIB) (hlen : ∀ v w, post v w → w.length = a9.length) (hlenX : ∀ E w, xp E w → w.length = a9.length) : CwI l D (tyG cI cJ cF cD) yL_middle wsL_middle ({ frames := 8, cells := 2, slots := 12, locals := 134 }) [.ref b9, .int p0, .ref od] (a9 ++ wO oa od cJ cD ov dv) (fun r w => (r = nI 0 ∧ ∃ v w0, post v w0 ∧ w = w0 ++ wO oa od cJ cD ov (vf_upd dv 0 v)) ∨ (r = nI 1 ∧ ∃ w0, xp eIS w0 ∧ w = w0 ++ wO oa od cJ cD ov dv) ∨ (r = nI 2 ∧ ∃ w0, xp eIB w0 ∧ w = w0 ++ wO oa od cJ cD ov dv)) 2 12 := by
  refine cwI_of (cc := cL_middle) (maxL := 4) (hh := [(0, 8, 11, 15), (0, 8, 14, 21)]) htr9 (by decide) rfl (Nat.le_of_ble_eq_true rfl) ?_
  intro X hXl hXd C TX NC tb hret
  subst hXl; subst hXd
  have g0 : (a9 ++ wO oa od cJ cD ov dv)[0]? = some (b9, .inr (3, fs9)) := by rw [List.getElem?_append_left (List.getElem?_eq_some_iff.mp he9).1]; exact he9
  refine k_aload_n C 2 dL_middle_0 rfl rfl ?_
  refine k_iconst C (v := (nI 0)) dL_middle_1 (by decide) ?_
  refine k_aload_n C 0 dL_middle_2 rfl rfl ?_
  refine k_iload_n C 1 dL_middle_3 rfl rfl ?_
  refine kx_callVD C TX (ar := 1) (As := [.int p0]) (rest := [.int (nI 0), .ref od]) (cxD_frL M) gL_middle_X3_middle rfl rfl rfl (by decide +kernel) ⟨Nat.le_of_ble_eq_true rfl, Nat.le_of_ble_eq_true rfl⟩ 0 g0 rfl rfl rfl (Nat.le_of_ble_eq_true rfl) dL_middle_4 (Nat.le_of_ble_eq_true rfl) (Nat.le_of_ble_eq_true rfl) (fun E w hx => ?_) (fun r w hw => ?_)
  · obtain ⟨w0, hx, rfl⟩ := hx
    rcases hxE E w0 hx with rfl | rfl
    · refine k_catch C (hh := [(0, 8, 11, 15), (0, 8, 14, 21)]) tb [] ⟨0, 8, 11, 15⟩ [⟨0, 8, 14, 21⟩] rfl (fun z hz => absurd hz List.not_mem_nil) (by decide) (by decide) (name := eIS) (by decide +kernel) (TX.1.1 (.castable eIS eIS) (by decide)) (fun q => ?_)
      refine k_astore_n C (lv' := [(3, .ref q), (0, .ref b9), (1, .int p0), (2, .ref od)]) dL_middle_11 rfl (by decide) rfl ?_
      refine k_iconst C (v := (nI 1)) dL_middle_12 (by decide) ?_
      exact hret _ _ _ _ _ _ (Or.inr (Or.inl (⟨rfl, w0, hx, rfl⟩))) (Nat.le_of_ble_eq_true rfl) (Nat.le_of_ble_eq_true rfl) dL_middle_13
    · refine k_catch C (hh := [(0, 8, 11, 15), (0, 8, 14, 21)]) tb [⟨0, 8, 11, 15⟩] ⟨0, 8, 14, 21⟩ [] rfl (fun z hz => by rw [List.mem_singleton] at hz; subst hz; exact Or.inr ⟨by decide, eIS, by decide +kernel, NC.2.1⟩) (by decide) (by decide) (name := eIB) (by decide +kernel) (TX.1.1 (.castable eIB eIB) (by decide)) (fun q => ?_)
      refine k_astore_n C (lv' := [(3, .ref q), (0, .ref b9), (1, .int p0), (2, .ref od)]) dL_middle_14 rfl (by decide) rfl ?_
      refine k_iconst C (v := (nI 2)) dL_middle_15 (by decide) ?_
      exact hret _ _ _ _ _ _ (Or.inr (Or.inr (⟨rfl, w0, hx, rfl⟩))) (Nat.le_of_ble_eq_true rfl) (Nat.le_of_ble_eq_true rfl) dL_middle_16
  · obtain ⟨w0, hp, rfl⟩ := hw
    have hln := hlen r w0 hp
    have g1 : (w0 ++ wO oa od cJ cD ov dv)[(w0.length + 1)]? = some (od, .inl (cD, 1, .inr (.inr (.inr (.inl dv))))) := by rw [List.getElem?_append_right (by omega)]; rw [show w0.length + 1 - w0.length = 1 by omega]; rfl
    refine k_dast C (ws' := (w0 ++ wO oa od cJ cD ov (vf_upd dv 0 r))) (j := 0) (w0.length + 1) 3 g1 rfl (by decide) (by decide) (by rw [List.set_append_right _ _ (by omega)]; rw [show w0.length + 1 - w0.length = 1 by omega]; rfl) dL_middle_7 ?_
    refine k_goto C 17 dL_middle_8 (by decide) ?_
    refine k_iconst C (v := (nI 0)) dL_middle_17 (by decide) ?_
    exact hret _ _ _ _ _ _ (Or.inl ⟨rfl, r, w0, hp, rfl⟩) (Nat.le_of_ble_eq_true rfl) (Nat.le_of_ble_eq_true rfl) dL_middle_18
set_option maxHeartbeats 4000000 in
set_option maxRecDepth 100000 in
theorem l_count (l : Launch) (D : va_G) (cI cJ cF cD : ClassId) (htr9 : l.stackTraces = false) {b9 oa od : Nat} {fs9 : List Value} {a9 : va_W} {ov : Nat → Int64} {dv : Nat → UInt64} {p0 : Int32} {post : Int32 → va_W → Prop} {xp : String → va_W → Prop} (M : CxI l D (tyG cI cJ cF cD) yX3_count wsX3_count ({ frames := 6, cells := 1, slots := 6, locals := 90 }) [.ref b9, .int p0] a9 post xp 1 6) (he9 : a9[0]? = some (b9, .inr (3, fs9))) (hxE : ∀ E w, xp E w → E = eIB) (hlen : ∀ v w, post v w → w.length = a9.length) (hlenX : ∀ E w, xp E w → w.length = a9.length) : CwI l D (tyG cI cJ cF cD) yL_count wsL_count ({ frames := 7, cells := 1, slots := 6, locals := 111 }) [.ref b9, .int p0, .ref oa] (a9 ++ wO oa od cJ cD ov dv) (fun r w => (r = nI 0 ∧ ∃ v w0, post v w0 ∧ w = w0 ++ wO oa od cJ cD (vp_updL ov 0 v.toInt64) dv) ∨ (r = nI 1 ∧ ∃ w0, xp eIB w0 ∧ w = w0 ++ wO oa od cJ cD ov dv)) 1 6 := by
  refine cwI_of (cc := cL_count) (maxL := 4) (hh := [(0, 9, 12, 21)]) htr9 (by decide) rfl (Nat.le_of_ble_eq_true rfl) ?_
  intro X hXl hXd C TX NC tb hret
  subst hXl; subst hXd
  have g0 : (a9 ++ wO oa od cJ cD ov dv)[0]? = some (b9, .inr (3, fs9)) := by rw [List.getElem?_append_left (List.getElem?_eq_some_iff.mp he9).1]; exact he9
  refine k_aload_n C 2 dL_count_0 rfl rfl ?_
  refine k_iconst C (v := (nI 0)) dL_count_1 (by decide) ?_
  refine k_aload_n C 0 dL_count_2 rfl rfl ?_
  refine k_iload_n C 1 dL_count_3 rfl rfl ?_
  refine kx_callVI C TX (ar := 1) (As := [.int p0]) (rest := [.int (nI 0), .ref oa]) (cxI_frL M) gL_count_X3_count rfl rfl rfl (by decide +kernel) ⟨Nat.le_of_ble_eq_true rfl, Nat.le_of_ble_eq_true rfl⟩ 0 g0 rfl rfl rfl (Nat.le_of_ble_eq_true rfl) dL_count_4 (Nat.le_of_ble_eq_true rfl) (Nat.le_of_ble_eq_true rfl) (fun E w hx => ?_) (fun r w hw => ?_)
  · obtain ⟨w0, hx, rfl⟩ := hx
    rcases hxE E w0 hx with rfl
    · refine k_catch C (hh := [(0, 9, 12, 21)]) tb [] ⟨0, 9, 12, 21⟩ [] rfl (fun z hz => absurd hz List.not_mem_nil) (by decide) (by decide) (name := eIB) (by decide +kernel) (TX.1.1 (.castable eIB eIB) (by decide)) (fun q => ?_)
      refine k_astore_n C (lv' := [(3, .ref q), (0, .ref b9), (1, .int p0), (2, .ref oa)]) dL_count_12 rfl (by decide) rfl ?_
      refine k_iconst C (v := (nI 1)) dL_count_13 (by decide) ?_
      exact hret _ _ _ _ _ _ (Or.inr (⟨rfl, w0, hx, rfl⟩)) (Nat.le_of_ble_eq_true rfl) (Nat.le_of_ble_eq_true rfl) dL_count_14
  · obtain ⟨w0, hp, rfl⟩ := hw
    have hln := hlen r w0 hp
    refine k_i2l C dL_count_7 ?_
    have g1 : (w0 ++ wO oa od cJ cD ov dv)[w0.length]? = some (oa, .inl (cJ, 1, .inr (.inl ov))) := by rw [List.getElem?_append_right (by omega)]; rw [Nat.sub_self]; rfl
    refine k_last C (ws' := (w0 ++ wO oa od cJ cD (vp_updL ov 0 r.toInt64) dv)) (j := 0) w0.length 1 g1 rfl (by decide) (by decide) (by rw [List.set_append_right _ _ (by omega)]; rw [Nat.sub_self]; rfl) dL_count_8 ?_
    refine k_goto C 15 dL_count_9 (by decide) ?_
    refine k_iconst C (v := (nI 0)) dL_count_15 (by decide) ?_
    exact hret _ _ _ _ _ _ (Or.inl ⟨rfl, r, w0, hp, rfl⟩) (Nat.le_of_ble_eq_true rfl) (Nat.le_of_ble_eq_true rfl) dL_count_16
