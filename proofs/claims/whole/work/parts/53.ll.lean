/-! ===== the law: its loop ===== -/
set_option maxHeartbeats 4000000 in
set_option maxRecDepth 100000 in
theorem law_loop {X : XT} {Rl : Int32 → va_W → va_W → Prop} {cI cJ cF cD : ClassId} {oa od bA mA b L : Nat} {xs : Nat → Int32} (C : Cx X cL_law RL wsL_law room_1 (tyG cI cJ cF cD) 9) (TX : Tx X) (NC : kNC (kxS X)) (S : Sx X b L xs) (AT : AgT Rl (kxL X) (kxD X) cI cJ cF cD mA) (g_point : ∀ x y z : Int32, AgI Rl (kxL X) (kxD X) cI cJ cF cD oa od yL_point wsL_point ({ frames := 8, cells := 2, slots := 12, locals := 136 }) [.ref bA, .int x, .int y, .int z, .ref oa] 2 12 yX4_point wsX4_point ({ frames := 1, cells := 0, slots := 0, locals := 25 }) [.ref mA, .int x, .int y, .int z]) (g_take : ∀ x : Int32, AgI Rl (kxL X) (kxD X) cI cJ cF cD oa od yL_take wsL_take ({ frames := 8, cells := 1, slots := 6, locals := 132 }) [.ref bA, .int x, .ref oa] 1 6 yX4_take wsX4_take ({ frames := 1, cells := 0, slots := 0, locals := 22 }) [.ref mA, .int x]) (g_build : AgI Rl (kxL X) (kxD X) cI cJ cF cD oa od yL_build wsL_build ({ frames := 7, cells := 1, slots := 6, locals := 141 }) [.ref bA, .ref oa] 1 6 yX4_build wsX4_build ({ frames := 4, cells := 0, slots := 0, locals := 112 }) [.ref mA]) (g_of : ∀ x y : Int32, AgI Rl (kxL X) (kxD X) cI cJ cF cD oa od yL_of wsL_of ({ frames := 8, cells := 2, slots := 12, locals := 133 }) [.ref bA, .int x, .int y, .ref oa] 2 12 yX4_of wsX4_of ({ frames := 1, cells := 0, slots := 0, locals := 22 }) [.ref mA, .int x, .int y]) (g_face : ∀ x y : Int32, AgI Rl (kxL X) (kxD X) cI cJ cF cD oa od yL_face wsL_face ({ frames := 8, cells := 3, slots := 18, locals := 134 }) [.ref bA, .int x, .int y, .ref oa] 3 18 yX4_face wsX4_face ({ frames := 1, cells := 0, slots := 0, locals := 22 }) [.ref mA, .int x, .int y]) (g_offset : ∀ x : Int32, AgL Rl (kxL X) (kxD X) cI cJ cF cD oa od yL_offset wsL_offset ({ frames := 8, cells := 2, slots := 12, locals := 132 }) [.ref bA, .int x, .ref oa] 2 12 yX4_offset wsX4_offset ({ frames := 1, cells := 0, slots := 0, locals := 22 }) [.ref mA, .int x]) (g_corner : ∀ x y : Int32, AgI Rl (kxL X) (kxD X) cI cJ cF cD oa od yL_corner wsL_corner ({ frames := 8, cells := 3, slots := 18, locals := 133 }) [.ref bA, .int x, .int y, .ref oa] 3 18 yX4_corner wsX4_corner ({ frames := 1, cells := 0, slots := 0, locals := 22 }) [.ref mA, .int x, .int y]) (g_edge : ∀ x y : Int32, AgI Rl (kxL X) (kxD X) cI cJ cF cD oa od yL_edge wsL_edge ({ frames := 8, cells := 3, slots := 18, locals := 135 }) [.ref bA, .int x, .int y, .ref oa] 3 18 yX4_edge wsX4_edge ({ frames := 1, cells := 0, slots := 0, locals := 22 }) [.ref mA, .int x, .int y]) (g_support : ∀ x y z : Int32, AgI Rl (kxL X) (kxD X) cI cJ cF cD oa od yL_support wsL_support ({ frames := 8, cells := 2, slots := 12, locals := 136 }) [.ref bA, .int x, .int y, .int z, .ref oa] 2 12 yX4_support wsX4_support ({ frames := 1, cells := 0, slots := 0, locals := 23 }) [.ref mA, .int x, .int y, .int z]) (g_steps : ∀ x y : Int32, AgI Rl (kxL X) (kxD X) cI cJ cF cD oa od yL_steps wsL_steps ({ frames := 9, cells := 5, slots := 30, locals := 154 }) [.ref bA, .int x, .int y, .ref oa] 5 30 yX4_steps wsX4_steps ({ frames := 1, cells := 0, slots := 0, locals := 23 }) [.ref mA, .int x, .int y]) (g_side : ∀ x y z : Int32, AgI Rl (kxL X) (kxD X) cI cJ cF cD oa od yL_side wsL_side ({ frames := 8, cells := 2, slots := 12, locals := 136 }) [.ref bA, .int x, .int y, .int z, .ref oa] 2 12 yX4_side wsX4_side ({ frames := 1, cells := 0, slots := 0, locals := 22 }) [.ref mA, .int x, .int y, .int z]) (g_volume : AgL Rl (kxL X) (kxD X) cI cJ cF cD oa od yL_volume wsL_volume ({ frames := 8, cells := 1, slots := 6, locals := 130 }) [.ref bA, .ref oa] 1 6 yX4_volume wsX4_volume ({ frames := 1, cells := 0, slots := 0, locals := 32 }) [.ref mA]) (g_centre : ∀ x : Int32, AgL Rl (kxL X) (kxD X) cI cJ cF cD oa od yL_centre wsL_centre ({ frames := 8, cells := 2, slots := 12, locals := 132 }) [.ref bA, .int x, .ref oa] 2 12 yX4_centre wsX4_centre ({ frames := 1, cells := 0, slots := 0, locals := 32 }) [.ref mA, .int x]) (g_middle : ∀ x : Int32, AgD Rl (kxL X) (kxD X) cI cJ cF cD oa od yL_middle wsL_middle ({ frames := 8, cells := 2, slots := 12, locals := 134 }) [.ref bA, .int x, .ref od] 2 12 yX4_middle wsX4_middle ({ frames := 1, cells := 0, slots := 0, locals := 32 }) [.ref mA, .int x]) (g_count : ∀ x : Int32, AgI Rl (kxL X) (kxD X) cI cJ cF cD oa od yL_count wsL_count ({ frames := 7, cells := 1, slots := 6, locals := 111 }) [.ref bA, .int x, .ref oa] 1 6 yX4_count wsX4_count ({ frames := 1, cells := 0, slots := 0, locals := 23 }) [.ref mA, .int x]) (hend : ∀ (w : va_W) (lv : List (Nat × Value)) (k n : Nat), k ≤ 601024 → n ≤ 7293034 → Kw X k n w 1093 lv [.int 1]) : ∀ (d i k n : Nat) (thr : Int32) (wm wb : va_W) (ov : Nat → Int64) (dv : Nat → UInt64), L ≤ i + d → i ≤ 2048 → k ≤ 125 + 2 * i → n ≤ 4817 + 8 * i → Rl thr wm wb → Kw X k n (wm ++ (wb ++ wO oa od cJ cD ov dv)) 28 [(5, .int (nI i)), (4, .ref od), (3, .ref oa), (2, .ref mA), (1, .ref bA), (0, .ref b)] [] := by
  have hLs := S.2.2.2
  intro d
  induction d with
  | zero =>
    intro i k n thr wm wb ov dv hd hi hk hn hR
    refine k_iload C 0 dL_law_28 rfl ?_
    refine k_aload_n C 5 dL_law_30 rfl rfl ?_
    refine k_slen C S dL_law_31 ?_
    refine k_iconst C (v := nI 4) dL_law_32 rfl ?_
    refine k_isub C dL_law_33 ?_
    refine k_icmp_gt C 1092 dL_law_34 rfl (fun _ => ?_) (fun h => absurd ((lenSub hLs hi).mpr (by omega)) h)
    refine k_iconst C (v := 1) dL_law_1092 rfl ?_
    exact hend _ _ _ _ (by omega) (by omega)
  | succ d ih =>
    intro i k n thr wm wb ov dv hd hi hk hn hR
    refine k_iload C 0 dL_law_28 rfl ?_
    refine k_aload_n C 5 dL_law_30 rfl rfl ?_
    refine k_slen C S dL_law_31 ?_
    refine k_iconst C (v := nI 4) dL_law_32 rfl ?_
    refine k_isub C dL_law_33 ?_
    refine k_icmp_gt C 1092 dL_law_34 rfl (fun _ => ?_) (fun h => ?_)
    · refine k_iconst C (v := 1) dL_law_1092 rfl ?_
      exact hend _ _ _ _ (by omega) (by omega)
    have hi4 : i + 4 ≤ L := by
      rcases Nat.lt_or_ge L (i + 4) with q | q
      · exact absurd ((lenSub hLs hi).mpr q) h
      · exact q
    have hgo : ∀ (k' n' : Nat) (thr : Int32) (wm wb : va_W) (ov : Nat → Int64) (dv : Nat → UInt64), k' ≤ k + 5 → n' ≤ n + 30 → Rl thr wm wb → Kw X k' n' (wm ++ (wb ++ wO oa od cJ cD ov dv)) 1086 [(5, .int (nI i)), (4, .ref od), (3, .ref oa), (2, .ref mA), (1, .ref bA), (0, .ref b)] [] := by
      intro k' n' thr wm wb ov dv hk' hn' hR
      refine k_iinc C (v := nI (i + 4)) (lv' := [(5, .int (nI (i + 4))), (4, .ref od), (3, .ref oa), (2, .ref mA), (1, .ref bA), (0, .ref b)]) 0 dL_law_1086 rfl (nI_add i 4) (by decide) rfl ?_
      refine k_goto C 28 dL_law_1089 rfl ?_
      exact ih (i + 4) k' n' thr wm wb ov dv (by omega) (by omega) (by omega) (by omega) hR
    refine k_aload_n C 5 dL_law_37 rfl rfl ?_
    refine k_iload C 0 dL_law_38 rfl ?_
    refine k_sld C S (by omega) dL_law_40 ?_
    refine k_bipush C (v := 15) dL_law_41 rfl ?_
    refine k_iand C dL_law_43 ?_
    obtain ⟨t, ht, et⟩ := and15 (xs i)
    rw [et]
    rcases (show t = 0 ∨ t = 1 ∨ t = 2 ∨ t = 3 ∨ t = 4 ∨ t = 5 ∨ t = 6 ∨ t = 7 ∨ t = 8 ∨ t = 9 ∨ t = 10 ∨ t = 11 ∨ t = 12 ∨ t = 13 ∨ t = 14 ∨ t = 15 by omega) with rfl | rfl | rfl | rfl | rfl | rfl | rfl | rfl | rfl | rfl | rfl | rfl | rfl | rfl | rfl | rfl
    · refine k_tabIn C 120 dL_law_44 (by decide) (by decide) rfl rfl ?_
      exact s_point C TX NC S AT g_point hR hi4 (by omega) (by omega) (fun r wm' wb' ov' dv' hR' => hgo _ _ r wm' wb' ov' dv' (Nat.le_refl _) (Nat.le_refl _) hR')
    · refine k_tabIn C 200 dL_law_44 (by decide) (by decide) rfl rfl ?_
      exact s_take C TX NC S AT g_take hR hi4 (by omega) (by omega) (fun r wm' wb' ov' dv' hR' => hgo _ _ r wm' wb' ov' dv' (Nat.le_refl _) (Nat.le_refl _) hR')
    · refine k_tabIn C 256 dL_law_44 (by decide) (by decide) rfl rfl ?_
      exact s_build C TX NC S AT g_build hR hi4 (by omega) (by omega) (fun r wm' wb' ov' dv' hR' => hgo _ _ r wm' wb' ov' dv' (Nat.le_refl _) (Nat.le_refl _) hR')
    · refine k_tabIn C 300 dL_law_44 (by decide) (by decide) rfl rfl ?_
      exact s_of C TX NC S AT g_of hR hi4 (by omega) (by omega) (fun r wm' wb' ov' dv' hR' => hgo _ _ r wm' wb' ov' dv' (Nat.le_refl _) (Nat.le_refl _) hR')
    · refine k_tabIn C 368 dL_law_44 (by decide) (by decide) rfl rfl ?_
      exact s_face C TX NC S AT g_face hR hi4 (by omega) (by omega) (fun r wm' wb' ov' dv' hR' => hgo _ _ r wm' wb' ov' dv' (Nat.le_refl _) (Nat.le_refl _) hR')
    · refine k_tabIn C 436 dL_law_44 (by decide) (by decide) rfl rfl ?_
      exact s_offset C TX NC S AT g_offset hR hi4 (by omega) (by omega) (fun r wm' wb' ov' dv' hR' => hgo _ _ r wm' wb' ov' dv' (Nat.le_refl _) (Nat.le_refl _) hR')
    · refine k_tabIn C 491 dL_law_44 (by decide) (by decide) rfl rfl ?_
      exact s_corner C TX NC S AT g_corner hR hi4 (by omega) (by omega) (fun r wm' wb' ov' dv' hR' => hgo _ _ r wm' wb' ov' dv' (Nat.le_refl _) (Nat.le_refl _) hR')
    · refine k_tabIn C 559 dL_law_44 (by decide) (by decide) rfl rfl ?_
      exact s_edge C TX NC S AT g_edge hR hi4 (by omega) (by omega) (fun r wm' wb' ov' dv' hR' => hgo _ _ r wm' wb' ov' dv' (Nat.le_refl _) (Nat.le_refl _) hR')
    · refine k_tabIn C 627 dL_law_44 (by decide) (by decide) rfl rfl ?_
      exact s_support C TX NC S AT g_support hR hi4 (by omega) (by omega) (fun r wm' wb' ov' dv' hR' => hgo _ _ r wm' wb' ov' dv' (Nat.le_refl _) (Nat.le_refl _) hR')
    · refine k_tabIn C 707 dL_law_44 (by decide) (by decide) rfl rfl ?_
      exact s_steps C TX NC S AT g_steps hR hi4 (by omega) (by omega) (fun r wm' wb' ov' dv' hR' => hgo _ _ r wm' wb' ov' dv' (Nat.le_refl _) (Nat.le_refl _) hR')
    · refine k_tabIn C 775 dL_law_44 (by decide) (by decide) rfl rfl ?_
      exact s_side C TX NC S AT g_side hR hi4 (by omega) (by omega) (fun r wm' wb' ov' dv' hR' => hgo _ _ r wm' wb' ov' dv' (Nat.le_refl _) (Nat.le_refl _) hR')
    · refine k_tabIn C 855 dL_law_44 (by decide) (by decide) rfl rfl ?_
      exact s_volume C TX NC S AT g_volume hR hi4 (by omega) (by omega) (fun r wm' wb' ov' dv' hR' => hgo _ _ r wm' wb' ov' dv' (Nat.le_refl _) (Nat.le_refl _) hR')
    · refine k_tabIn C 898 dL_law_44 (by decide) (by decide) rfl rfl ?_
      exact s_centre C TX NC S AT g_centre hR hi4 (by omega) (by omega) (fun r wm' wb' ov' dv' hR' => hgo _ _ r wm' wb' ov' dv' (Nat.le_refl _) (Nat.le_refl _) hR')
    · refine k_tabIn C 953 dL_law_44 (by decide) (by decide) rfl rfl ?_
      exact s_middle C TX NC S AT g_middle hR hi4 (by omega) (by omega) (fun r wm' wb' ov' dv' hR' => hgo _ _ r wm' wb' ov' dv' (Nat.le_refl _) (Nat.le_refl _) hR')
    · refine k_tabIn C 1030 dL_law_44 (by decide) (by decide) rfl rfl ?_
      exact s_count C TX NC S AT g_count hR hi4 (by omega) (by omega) (fun r wm' wb' ov' dv' hR' => hgo _ _ r wm' wb' ov' dv' (Nat.le_refl _) (Nat.le_refl _) hR')
    · refine k_tabOut C 1086 dL_law_44 (by decide) (by decide) rfl ?_
      exact hgo _ _ thr wm wb ov dv (by omega) (by omega) hR
