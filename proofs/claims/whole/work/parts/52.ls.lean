/-! ===== the law: one call ===== -/
section LCalls
variable {X : XT} {Rl : Int32 → va_W → va_W → Prop} {cI cJ cF cD : ClassId} {oa od bA mA b L k n i : Nat} {xs : Nat → Int32} {thr : Int32} {wm wb : va_W} {ov : Nat → Int64} {dv : Nat → UInt64}
set_option maxHeartbeats 4000000 in
set_option maxRecDepth 100000 in
theorem s_point (C : Cx X cL_law RL wsL_law room_1 (tyG cI cJ cF cD) 9) (TX : Tx X) (NC : kNC (kxS X)) (S : Sx X b L xs) (AT : AgT Rl (kxL X) (kxD X) cI cJ cF cD mA) (ag : ∀ x y z : Int32, AgI Rl (kxL X) (kxD X) cI cJ cF cD oa od yL_point wsL_point ({ frames := 8, cells := 2, slots := 12, locals := 136 }) [.ref bA, .int x, .int y, .int z, .ref oa] 2 12 yX4_point wsX4_point ({ frames := 1, cells := 0, slots := 0, locals := 25 }) [.ref mA, .int x, .int y, .int z]) (hR : Rl thr wm wb) (hi : i + 4 ≤ L) (hk : k + 5 ≤ 601024) (hn : n + 30 ≤ 7293034)
    (K : ∀ (r : Int32) (wm wb : va_W) (ov : Nat → Int64) (dv : Nat → UInt64), Rl r wm wb → Kw X (k + 5) (n + 30) (wm ++ (wb ++ wO oa od cJ cD ov dv)) 1086 [(5, .int (nI i)), (4, .ref od), (3, .ref oa), (2, .ref mA), (1, .ref bA), (0, .ref b)] []) : Kw X k n (wm ++ (wb ++ wO oa od cJ cD ov dv)) 120 [(5, .int (nI i)), (4, .ref od), (3, .ref oa), (2, .ref mA), (1, .ref bA), (0, .ref b)] [] := by
  have hLs := S.2.2.2
  obtain ⟨pC, pM, hC, hM, hA⟩ := ag (xs (i + 1)) (xs (i + 2)) (xs (i + 3)) thr wm wb ov dv hR
  obtain ⟨fs, he⟩ := (AT thr wm wb hR).1
  refine k_aload_n C 4 dL_law_120 rfl rfl ?_
  refine k_aload_n C 5 dL_law_121 rfl rfl ?_
  refine k_iload C 0 dL_law_122 rfl ?_
  refine k_iconst C (v := nI 1) dL_law_124 rfl ?_
  refine k_iaddN C dL_law_125 ?_
  refine k_sld C S (by omega) dL_law_126 ?_
  refine k_aload_n C 5 dL_law_127 rfl rfl ?_
  refine k_iload C 0 dL_law_128 rfl ?_
  refine k_iconst C (v := nI 2) dL_law_130 rfl ?_
  refine k_iaddN C dL_law_131 ?_
  refine k_sld C S (by omega) dL_law_132 ?_
  refine k_aload_n C 5 dL_law_133 rfl rfl ?_
  refine k_iload C 0 dL_law_134 rfl ?_
  refine k_iconst C (v := nI 3) dL_law_136 rfl ?_
  refine k_iaddN C dL_law_137 ?_
  refine k_sld C S (by omega) dL_law_138 ?_
  refine k_aload_n C 2 dL_law_139 rfl rfl ?_
  refine k_callSW (ar := 5) C TX NC (cwI_frR hC) gL_law_L_point rfl rfl rfl (by decide +kernel) ⟨Nat.le_of_ble_eq_true rfl, Nat.le_of_ble_eq_true rfl⟩ rfl rfl (Nat.le_of_ble_eq_true rfl) dL_law_140 (by show _ ≤ 601024; omega) (by show _ ≤ 7293034; omega) ?_
  rintro r _ ⟨w, hp, rfl⟩
  refine k_istore C (lv' := [(6, .int r), (5, .int (nI i)), (4, .ref od), (3, .ref oa), (2, .ref mA), (1, .ref bA), (0, .ref b)]) dL_law_143 (by decide) rfl ?_
  refine k_aload_n C 4 dL_law_145 rfl rfl ?_
  refine k_aload_n C 6 dL_law_146 rfl rfl ?_
  refine k_iload C 1 dL_law_147 rfl ?_
  refine k_iconst C (v := nI 1) dL_law_149 rfl ?_
  refine k_iaddN C dL_law_150 ?_
  refine k_sld C S (by omega) dL_law_151 ?_
  refine k_aload_n C 6 dL_law_152 rfl rfl ?_
  refine k_iload C 1 dL_law_153 rfl ?_
  refine k_iconst C (v := nI 2) dL_law_155 rfl ?_
  refine k_iaddN C dL_law_156 ?_
  refine k_sld C S (by omega) dL_law_157 ?_
  refine k_aload_n C 6 dL_law_158 rfl rfl ?_
  refine k_iload C 1 dL_law_159 rfl ?_
  refine k_iconst C (v := nI 3) dL_law_161 rfl ?_
  refine k_iaddN C dL_law_162 ?_
  refine k_sld C S (by omega) dL_law_163 ?_
  refine k_callVI (ar := 3) C (ctI_frL hM) gL_law_X4_point rfl rfl rfl (by decide +kernel) ⟨Nat.le_of_ble_eq_true rfl, Nat.le_of_ble_eq_true rfl⟩ 0 (ge0 he) rfl rfl rfl (Nat.le_of_ble_eq_true rfl) dL_law_164 (by show _ ≤ 601024; omega) (by show _ ≤ 7293034; omega) ?_
  rintro v _ ⟨wm', hq, rfl⟩
  obtain ⟨wb', ov', dv', rfl, hR', hv⟩ := hA r w v wm' hp hq
  obtain ⟨⟨fs', he'⟩, hth⟩ := AT r wm' wb' hR'
  refine k_istore C (lv' := [(7, .int v), (6, .int r), (5, .int (nI i)), (4, .ref od), (3, .ref oa), (2, .ref mA), (1, .ref bA), (0, .ref b)]) dL_law_167 (by decide) rfl ?_
  refine k_aload_n C 5 dL_law_169 rfl rfl ?_
  refine k_callVI (ar := 0) C (ctI_frL hth) gL_law_X4_thrown rfl rfl rfl (by decide +kernel) ⟨Nat.le_of_ble_eq_true rfl, Nat.le_of_ble_eq_true rfl⟩ 0 (ge0 he') rfl rfl rfl (Nat.le_of_ble_eq_true rfl) dL_law_170 (by show _ ≤ 601024; omega) (by show _ ≤ 7293034; omega) ?_
  rintro _ _ ⟨_, ⟨e1, e2⟩, rfl⟩
  rw [e1, e2]
  refine k_iload C 1 dL_law_173 rfl ?_
  refine k_icmp_eq C 180 dL_law_175 rfl (fun _ => ?_) (fun h => absurd rfl h)
  refine k_iload C 1 dL_law_180 rfl ?_
  have hend : Kw X (k + 2) (n + 12) (wm' ++ (wb' ++ wO oa od cJ cD ov' dv')) 197 [(7, .int v), (6, .int r), (5, .int (nI i)), (4, .ref od), (3, .ref oa), (2, .ref mA), (1, .ref bA), (0, .ref b)] [] := by
    refine k_goto C 1086 dL_law_197 rfl ?_
    refine k_lv [2, 3, 4, 5, 6, 7] rfl ?_
    exact k_widen (by omega) (by omega) (K r wm' wb' ov' dv' hR')
  refine k_if_ne C 197 dL_law_182 rfl (fun _ => hend) (fun hz => ?_)
  have hv := hv hz
  refine k_aload_n C 4 dL_law_185 rfl rfl ?_
  refine k_iconst C (v := nI 0) dL_law_186 rfl ?_
  refine k_lald C (wm'.length + wb'.length) 1 (wO_at0 _ _ _ _ _ _ _ _) rfl (by decide) (by decide) dL_law_187 ?_
  refine k_iload C 0 dL_law_188 rfl ?_
  refine k_i2l C dL_law_190 ?_
  exact k_lc_eq C 197 dL_law_191 dL_law_192 rfl (fun _ => hend) (fun h => absurd hv h)
set_option maxHeartbeats 4000000 in
set_option maxRecDepth 100000 in
theorem s_take (C : Cx X cL_law RL wsL_law room_1 (tyG cI cJ cF cD) 9) (TX : Tx X) (NC : kNC (kxS X)) (S : Sx X b L xs) (AT : AgT Rl (kxL X) (kxD X) cI cJ cF cD mA) (ag : ∀ x : Int32, AgI Rl (kxL X) (kxD X) cI cJ cF cD oa od yL_take wsL_take ({ frames := 8, cells := 1, slots := 6, locals := 132 }) [.ref bA, .int x, .ref oa] 1 6 yX4_take wsX4_take ({ frames := 1, cells := 0, slots := 0, locals := 22 }) [.ref mA, .int x]) (hR : Rl thr wm wb) (hi : i + 4 ≤ L) (hk : k + 5 ≤ 601024) (hn : n + 30 ≤ 7293034)
    (K : ∀ (r : Int32) (wm wb : va_W) (ov : Nat → Int64) (dv : Nat → UInt64), Rl r wm wb → Kw X (k + 5) (n + 30) (wm ++ (wb ++ wO oa od cJ cD ov dv)) 1086 [(5, .int (nI i)), (4, .ref od), (3, .ref oa), (2, .ref mA), (1, .ref bA), (0, .ref b)] []) : Kw X k n (wm ++ (wb ++ wO oa od cJ cD ov dv)) 200 [(5, .int (nI i)), (4, .ref od), (3, .ref oa), (2, .ref mA), (1, .ref bA), (0, .ref b)] [] := by
  have hLs := S.2.2.2
  obtain ⟨pC, pM, hC, hM, hA⟩ := ag (xs (i + 1)) thr wm wb ov dv hR
  obtain ⟨fs, he⟩ := (AT thr wm wb hR).1
  refine k_aload_n C 4 dL_law_200 rfl rfl ?_
  refine k_aload_n C 5 dL_law_201 rfl rfl ?_
  refine k_iload C 0 dL_law_202 rfl ?_
  refine k_iconst C (v := nI 1) dL_law_204 rfl ?_
  refine k_iaddN C dL_law_205 ?_
  refine k_sld C S (by omega) dL_law_206 ?_
  refine k_aload_n C 2 dL_law_207 rfl rfl ?_
  refine k_callSW (ar := 3) C TX NC (cwI_frR hC) gL_law_L_take rfl rfl rfl (by decide +kernel) ⟨Nat.le_of_ble_eq_true rfl, Nat.le_of_ble_eq_true rfl⟩ rfl rfl (Nat.le_of_ble_eq_true rfl) dL_law_208 (by show _ ≤ 601024; omega) (by show _ ≤ 7293034; omega) ?_
  rintro r _ ⟨w, hp, rfl⟩
  refine k_istore C (lv' := [(6, .int r), (5, .int (nI i)), (4, .ref od), (3, .ref oa), (2, .ref mA), (1, .ref bA), (0, .ref b)]) dL_law_211 (by decide) rfl ?_
  refine k_aload_n C 4 dL_law_213 rfl rfl ?_
  refine k_aload_n C 6 dL_law_214 rfl rfl ?_
  refine k_iload C 1 dL_law_215 rfl ?_
  refine k_iconst C (v := nI 1) dL_law_217 rfl ?_
  refine k_iaddN C dL_law_218 ?_
  refine k_sld C S (by omega) dL_law_219 ?_
  refine k_callVI (ar := 1) C (ctI_frL hM) gL_law_X4_take rfl rfl rfl (by decide +kernel) ⟨Nat.le_of_ble_eq_true rfl, Nat.le_of_ble_eq_true rfl⟩ 0 (ge0 he) rfl rfl rfl (Nat.le_of_ble_eq_true rfl) dL_law_220 (by show _ ≤ 601024; omega) (by show _ ≤ 7293034; omega) ?_
  rintro v _ ⟨wm', hq, rfl⟩
  obtain ⟨wb', ov', dv', rfl, hR', hv⟩ := hA r w v wm' hp hq
  obtain ⟨⟨fs', he'⟩, hth⟩ := AT r wm' wb' hR'
  refine k_istore C (lv' := [(7, .int v), (6, .int r), (5, .int (nI i)), (4, .ref od), (3, .ref oa), (2, .ref mA), (1, .ref bA), (0, .ref b)]) dL_law_223 (by decide) rfl ?_
  refine k_aload_n C 5 dL_law_225 rfl rfl ?_
  refine k_callVI (ar := 0) C (ctI_frL hth) gL_law_X4_thrown rfl rfl rfl (by decide +kernel) ⟨Nat.le_of_ble_eq_true rfl, Nat.le_of_ble_eq_true rfl⟩ 0 (ge0 he') rfl rfl rfl (Nat.le_of_ble_eq_true rfl) dL_law_226 (by show _ ≤ 601024; omega) (by show _ ≤ 7293034; omega) ?_
  rintro _ _ ⟨_, ⟨e1, e2⟩, rfl⟩
  rw [e1, e2]
  refine k_iload C 1 dL_law_229 rfl ?_
  refine k_icmp_eq C 236 dL_law_231 rfl (fun _ => ?_) (fun h => absurd rfl h)
  refine k_iload C 1 dL_law_236 rfl ?_
  have hend : Kw X (k + 1) (n + 6) (wm' ++ (wb' ++ wO oa od cJ cD ov' dv')) 253 [(7, .int v), (6, .int r), (5, .int (nI i)), (4, .ref od), (3, .ref oa), (2, .ref mA), (1, .ref bA), (0, .ref b)] [] := by
    refine k_goto C 1086 dL_law_253 rfl ?_
    refine k_lv [2, 3, 4, 5, 6, 7] rfl ?_
    exact k_widen (by omega) (by omega) (K r wm' wb' ov' dv' hR')
  refine k_if_ne C 253 dL_law_238 rfl (fun _ => hend) (fun hz => ?_)
  have hv := hv hz
  refine k_aload_n C 4 dL_law_241 rfl rfl ?_
  refine k_iconst C (v := nI 0) dL_law_242 rfl ?_
  refine k_lald C (wm'.length + wb'.length) 1 (wO_at0 _ _ _ _ _ _ _ _) rfl (by decide) (by decide) dL_law_243 ?_
  refine k_iload C 0 dL_law_244 rfl ?_
  refine k_i2l C dL_law_246 ?_
  exact k_lc_eq C 253 dL_law_247 dL_law_248 rfl (fun _ => hend) (fun h => absurd hv h)
set_option maxHeartbeats 4000000 in
set_option maxRecDepth 100000 in
theorem s_build (C : Cx X cL_law RL wsL_law room_1 (tyG cI cJ cF cD) 9) (TX : Tx X) (NC : kNC (kxS X)) (S : Sx X b L xs) (AT : AgT Rl (kxL X) (kxD X) cI cJ cF cD mA) (ag : AgI Rl (kxL X) (kxD X) cI cJ cF cD oa od yL_build wsL_build ({ frames := 7, cells := 1, slots := 6, locals := 141 }) [.ref bA, .ref oa] 1 6 yX4_build wsX4_build ({ frames := 4, cells := 0, slots := 0, locals := 112 }) [.ref mA]) (hR : Rl thr wm wb) (hi : i + 4 ≤ L) (hk : k + 5 ≤ 601024) (hn : n + 30 ≤ 7293034)
    (K : ∀ (r : Int32) (wm wb : va_W) (ov : Nat → Int64) (dv : Nat → UInt64), Rl r wm wb → Kw X (k + 5) (n + 30) (wm ++ (wb ++ wO oa od cJ cD ov dv)) 1086 [(5, .int (nI i)), (4, .ref od), (3, .ref oa), (2, .ref mA), (1, .ref bA), (0, .ref b)] []) : Kw X k n (wm ++ (wb ++ wO oa od cJ cD ov dv)) 256 [(5, .int (nI i)), (4, .ref od), (3, .ref oa), (2, .ref mA), (1, .ref bA), (0, .ref b)] [] := by
  have hLs := S.2.2.2
  obtain ⟨pC, pM, hC, hM, hA⟩ := ag thr wm wb ov dv hR
  obtain ⟨fs, he⟩ := (AT thr wm wb hR).1
  refine k_aload_n C 4 dL_law_256 rfl rfl ?_
  refine k_aload_n C 2 dL_law_257 rfl rfl ?_
  refine k_callSW (ar := 2) C TX NC (cwI_frR hC) gL_law_L_build rfl rfl rfl (by decide +kernel) ⟨Nat.le_of_ble_eq_true rfl, Nat.le_of_ble_eq_true rfl⟩ rfl rfl (Nat.le_of_ble_eq_true rfl) dL_law_258 (by show _ ≤ 601024; omega) (by show _ ≤ 7293034; omega) ?_
  rintro r _ ⟨w, hp, rfl⟩
  refine k_istore C (lv' := [(6, .int r), (5, .int (nI i)), (4, .ref od), (3, .ref oa), (2, .ref mA), (1, .ref bA), (0, .ref b)]) dL_law_261 (by decide) rfl ?_
  refine k_aload_n C 4 dL_law_263 rfl rfl ?_
  refine k_callVI (ar := 0) C (ctI_frL hM) gL_law_X4_build rfl rfl rfl (by decide +kernel) ⟨Nat.le_of_ble_eq_true rfl, Nat.le_of_ble_eq_true rfl⟩ 0 (ge0 he) rfl rfl rfl (Nat.le_of_ble_eq_true rfl) dL_law_264 (by show _ ≤ 601024; omega) (by show _ ≤ 7293034; omega) ?_
  rintro v _ ⟨wm', hq, rfl⟩
  obtain ⟨wb', ov', dv', rfl, hR', hv⟩ := hA r w v wm' hp hq
  obtain ⟨⟨fs', he'⟩, hth⟩ := AT r wm' wb' hR'
  refine k_istore C (lv' := [(7, .int v), (6, .int r), (5, .int (nI i)), (4, .ref od), (3, .ref oa), (2, .ref mA), (1, .ref bA), (0, .ref b)]) dL_law_267 (by decide) rfl ?_
  refine k_aload_n C 5 dL_law_269 rfl rfl ?_
  refine k_callVI (ar := 0) C (ctI_frL hth) gL_law_X4_thrown rfl rfl rfl (by decide +kernel) ⟨Nat.le_of_ble_eq_true rfl, Nat.le_of_ble_eq_true rfl⟩ 0 (ge0 he') rfl rfl rfl (Nat.le_of_ble_eq_true rfl) dL_law_270 (by show _ ≤ 601024; omega) (by show _ ≤ 7293034; omega) ?_
  rintro _ _ ⟨_, ⟨e1, e2⟩, rfl⟩
  rw [e1, e2]
  refine k_iload C 1 dL_law_273 rfl ?_
  refine k_icmp_eq C 280 dL_law_275 rfl (fun _ => ?_) (fun h => absurd rfl h)
  refine k_iload C 1 dL_law_280 rfl ?_
  have hend : Kw X (k + 1) (n + 6) (wm' ++ (wb' ++ wO oa od cJ cD ov' dv')) 297 [(7, .int v), (6, .int r), (5, .int (nI i)), (4, .ref od), (3, .ref oa), (2, .ref mA), (1, .ref bA), (0, .ref b)] [] := by
    refine k_goto C 1086 dL_law_297 rfl ?_
    refine k_lv [2, 3, 4, 5, 6, 7] rfl ?_
    exact k_widen (by omega) (by omega) (K r wm' wb' ov' dv' hR')
  refine k_if_ne C 297 dL_law_282 rfl (fun _ => hend) (fun hz => ?_)
  have hv := hv hz
  refine k_aload_n C 4 dL_law_285 rfl rfl ?_
  refine k_iconst C (v := nI 0) dL_law_286 rfl ?_
  refine k_lald C (wm'.length + wb'.length) 1 (wO_at0 _ _ _ _ _ _ _ _) rfl (by decide) (by decide) dL_law_287 ?_
  refine k_iload C 0 dL_law_288 rfl ?_
  refine k_i2l C dL_law_290 ?_
  exact k_lc_eq C 297 dL_law_291 dL_law_292 rfl (fun _ => hend) (fun h => absurd hv h)
set_option maxHeartbeats 4000000 in
set_option maxRecDepth 100000 in
theorem s_of (C : Cx X cL_law RL wsL_law room_1 (tyG cI cJ cF cD) 9) (TX : Tx X) (NC : kNC (kxS X)) (S : Sx X b L xs) (AT : AgT Rl (kxL X) (kxD X) cI cJ cF cD mA) (ag : ∀ x y : Int32, AgI Rl (kxL X) (kxD X) cI cJ cF cD oa od yL_of wsL_of ({ frames := 8, cells := 2, slots := 12, locals := 133 }) [.ref bA, .int x, .int y, .ref oa] 2 12 yX4_of wsX4_of ({ frames := 1, cells := 0, slots := 0, locals := 22 }) [.ref mA, .int x, .int y]) (hR : Rl thr wm wb) (hi : i + 4 ≤ L) (hk : k + 5 ≤ 601024) (hn : n + 30 ≤ 7293034)
    (K : ∀ (r : Int32) (wm wb : va_W) (ov : Nat → Int64) (dv : Nat → UInt64), Rl r wm wb → Kw X (k + 5) (n + 30) (wm ++ (wb ++ wO oa od cJ cD ov dv)) 1086 [(5, .int (nI i)), (4, .ref od), (3, .ref oa), (2, .ref mA), (1, .ref bA), (0, .ref b)] []) : Kw X k n (wm ++ (wb ++ wO oa od cJ cD ov dv)) 300 [(5, .int (nI i)), (4, .ref od), (3, .ref oa), (2, .ref mA), (1, .ref bA), (0, .ref b)] [] := by
  have hLs := S.2.2.2
  obtain ⟨pC, pM, hC, hM, hA⟩ := ag (xs (i + 1)) (xs (i + 2)) thr wm wb ov dv hR
  obtain ⟨fs, he⟩ := (AT thr wm wb hR).1
  refine k_aload_n C 4 dL_law_300 rfl rfl ?_
  refine k_aload_n C 5 dL_law_301 rfl rfl ?_
  refine k_iload C 0 dL_law_302 rfl ?_
  refine k_iconst C (v := nI 1) dL_law_304 rfl ?_
  refine k_iaddN C dL_law_305 ?_
  refine k_sld C S (by omega) dL_law_306 ?_
  refine k_aload_n C 5 dL_law_307 rfl rfl ?_
  refine k_iload C 0 dL_law_308 rfl ?_
  refine k_iconst C (v := nI 2) dL_law_310 rfl ?_
  refine k_iaddN C dL_law_311 ?_
  refine k_sld C S (by omega) dL_law_312 ?_
  refine k_aload_n C 2 dL_law_313 rfl rfl ?_
  refine k_callSW (ar := 4) C TX NC (cwI_frR hC) gL_law_L_of rfl rfl rfl (by decide +kernel) ⟨Nat.le_of_ble_eq_true rfl, Nat.le_of_ble_eq_true rfl⟩ rfl rfl (Nat.le_of_ble_eq_true rfl) dL_law_314 (by show _ ≤ 601024; omega) (by show _ ≤ 7293034; omega) ?_
  rintro r _ ⟨w, hp, rfl⟩
  refine k_istore C (lv' := [(6, .int r), (5, .int (nI i)), (4, .ref od), (3, .ref oa), (2, .ref mA), (1, .ref bA), (0, .ref b)]) dL_law_317 (by decide) rfl ?_
  refine k_aload_n C 4 dL_law_319 rfl rfl ?_
  refine k_aload_n C 6 dL_law_320 rfl rfl ?_
  refine k_iload C 1 dL_law_321 rfl ?_
  refine k_iconst C (v := nI 1) dL_law_323 rfl ?_
  refine k_iaddN C dL_law_324 ?_
  refine k_sld C S (by omega) dL_law_325 ?_
  refine k_aload_n C 6 dL_law_326 rfl rfl ?_
  refine k_iload C 1 dL_law_327 rfl ?_
  refine k_iconst C (v := nI 2) dL_law_329 rfl ?_
  refine k_iaddN C dL_law_330 ?_
  refine k_sld C S (by omega) dL_law_331 ?_
  refine k_callVI (ar := 2) C (ctI_frL hM) gL_law_X4_of rfl rfl rfl (by decide +kernel) ⟨Nat.le_of_ble_eq_true rfl, Nat.le_of_ble_eq_true rfl⟩ 0 (ge0 he) rfl rfl rfl (Nat.le_of_ble_eq_true rfl) dL_law_332 (by show _ ≤ 601024; omega) (by show _ ≤ 7293034; omega) ?_
  rintro v _ ⟨wm', hq, rfl⟩
  obtain ⟨wb', ov', dv', rfl, hR', hv⟩ := hA r w v wm' hp hq
  obtain ⟨⟨fs', he'⟩, hth⟩ := AT r wm' wb' hR'
  refine k_istore C (lv' := [(7, .int v), (6, .int r), (5, .int (nI i)), (4, .ref od), (3, .ref oa), (2, .ref mA), (1, .ref bA), (0, .ref b)]) dL_law_335 (by decide) rfl ?_
  refine k_aload_n C 5 dL_law_337 rfl rfl ?_
  refine k_callVI (ar := 0) C (ctI_frL hth) gL_law_X4_thrown rfl rfl rfl (by decide +kernel) ⟨Nat.le_of_ble_eq_true rfl, Nat.le_of_ble_eq_true rfl⟩ 0 (ge0 he') rfl rfl rfl (Nat.le_of_ble_eq_true rfl) dL_law_338 (by show _ ≤ 601024; omega) (by show _ ≤ 7293034; omega) ?_
  rintro _ _ ⟨_, ⟨e1, e2⟩, rfl⟩
  rw [e1, e2]
  refine k_iload C 1 dL_law_341 rfl ?_
  refine k_icmp_eq C 348 dL_law_343 rfl (fun _ => ?_) (fun h => absurd rfl h)
  refine k_iload C 1 dL_law_348 rfl ?_
  have hend : Kw X (k + 2) (n + 12) (wm' ++ (wb' ++ wO oa od cJ cD ov' dv')) 365 [(7, .int v), (6, .int r), (5, .int (nI i)), (4, .ref od), (3, .ref oa), (2, .ref mA), (1, .ref bA), (0, .ref b)] [] := by
    refine k_goto C 1086 dL_law_365 rfl ?_
    refine k_lv [2, 3, 4, 5, 6, 7] rfl ?_
    exact k_widen (by omega) (by omega) (K r wm' wb' ov' dv' hR')
  refine k_if_ne C 365 dL_law_350 rfl (fun _ => hend) (fun hz => ?_)
  have hv := hv hz
  refine k_aload_n C 4 dL_law_353 rfl rfl ?_
  refine k_iconst C (v := nI 0) dL_law_354 rfl ?_
  refine k_lald C (wm'.length + wb'.length) 1 (wO_at0 _ _ _ _ _ _ _ _) rfl (by decide) (by decide) dL_law_355 ?_
  refine k_iload C 0 dL_law_356 rfl ?_
  refine k_i2l C dL_law_358 ?_
  exact k_lc_eq C 365 dL_law_359 dL_law_360 rfl (fun _ => hend) (fun h => absurd hv h)
set_option maxHeartbeats 4000000 in
set_option maxRecDepth 100000 in
theorem s_face (C : Cx X cL_law RL wsL_law room_1 (tyG cI cJ cF cD) 9) (TX : Tx X) (NC : kNC (kxS X)) (S : Sx X b L xs) (AT : AgT Rl (kxL X) (kxD X) cI cJ cF cD mA) (ag : ∀ x y : Int32, AgI Rl (kxL X) (kxD X) cI cJ cF cD oa od yL_face wsL_face ({ frames := 8, cells := 3, slots := 18, locals := 134 }) [.ref bA, .int x, .int y, .ref oa] 3 18 yX4_face wsX4_face ({ frames := 1, cells := 0, slots := 0, locals := 22 }) [.ref mA, .int x, .int y]) (hR : Rl thr wm wb) (hi : i + 4 ≤ L) (hk : k + 5 ≤ 601024) (hn : n + 30 ≤ 7293034)
    (K : ∀ (r : Int32) (wm wb : va_W) (ov : Nat → Int64) (dv : Nat → UInt64), Rl r wm wb → Kw X (k + 5) (n + 30) (wm ++ (wb ++ wO oa od cJ cD ov dv)) 1086 [(5, .int (nI i)), (4, .ref od), (3, .ref oa), (2, .ref mA), (1, .ref bA), (0, .ref b)] []) : Kw X k n (wm ++ (wb ++ wO oa od cJ cD ov dv)) 368 [(5, .int (nI i)), (4, .ref od), (3, .ref oa), (2, .ref mA), (1, .ref bA), (0, .ref b)] [] := by
  have hLs := S.2.2.2
  obtain ⟨pC, pM, hC, hM, hA⟩ := ag (xs (i + 1)) (xs (i + 2)) thr wm wb ov dv hR
  obtain ⟨fs, he⟩ := (AT thr wm wb hR).1
  refine k_aload_n C 4 dL_law_368 rfl rfl ?_
  refine k_aload_n C 5 dL_law_369 rfl rfl ?_
  refine k_iload C 0 dL_law_370 rfl ?_
  refine k_iconst C (v := nI 1) dL_law_372 rfl ?_
  refine k_iaddN C dL_law_373 ?_
  refine k_sld C S (by omega) dL_law_374 ?_
  refine k_aload_n C 5 dL_law_375 rfl rfl ?_
  refine k_iload C 0 dL_law_376 rfl ?_
  refine k_iconst C (v := nI 2) dL_law_378 rfl ?_
  refine k_iaddN C dL_law_379 ?_
  refine k_sld C S (by omega) dL_law_380 ?_
  refine k_aload_n C 2 dL_law_381 rfl rfl ?_
  refine k_callSW (ar := 4) C TX NC (cwI_frR hC) gL_law_L_face rfl rfl rfl (by decide +kernel) ⟨Nat.le_of_ble_eq_true rfl, Nat.le_of_ble_eq_true rfl⟩ rfl rfl (Nat.le_of_ble_eq_true rfl) dL_law_382 (by show _ ≤ 601024; omega) (by show _ ≤ 7293034; omega) ?_
  rintro r _ ⟨w, hp, rfl⟩
  refine k_istore C (lv' := [(6, .int r), (5, .int (nI i)), (4, .ref od), (3, .ref oa), (2, .ref mA), (1, .ref bA), (0, .ref b)]) dL_law_385 (by decide) rfl ?_
  refine k_aload_n C 4 dL_law_387 rfl rfl ?_
  refine k_aload_n C 6 dL_law_388 rfl rfl ?_
  refine k_iload C 1 dL_law_389 rfl ?_
  refine k_iconst C (v := nI 1) dL_law_391 rfl ?_
  refine k_iaddN C dL_law_392 ?_
  refine k_sld C S (by omega) dL_law_393 ?_
  refine k_aload_n C 6 dL_law_394 rfl rfl ?_
  refine k_iload C 1 dL_law_395 rfl ?_
  refine k_iconst C (v := nI 2) dL_law_397 rfl ?_
  refine k_iaddN C dL_law_398 ?_
  refine k_sld C S (by omega) dL_law_399 ?_
  refine k_callVI (ar := 2) C (ctI_frL hM) gL_law_X4_face rfl rfl rfl (by decide +kernel) ⟨Nat.le_of_ble_eq_true rfl, Nat.le_of_ble_eq_true rfl⟩ 0 (ge0 he) rfl rfl rfl (Nat.le_of_ble_eq_true rfl) dL_law_400 (by show _ ≤ 601024; omega) (by show _ ≤ 7293034; omega) ?_
  rintro v _ ⟨wm', hq, rfl⟩
  obtain ⟨wb', ov', dv', rfl, hR', hv⟩ := hA r w v wm' hp hq
  obtain ⟨⟨fs', he'⟩, hth⟩ := AT r wm' wb' hR'
  refine k_istore C (lv' := [(7, .int v), (6, .int r), (5, .int (nI i)), (4, .ref od), (3, .ref oa), (2, .ref mA), (1, .ref bA), (0, .ref b)]) dL_law_403 (by decide) rfl ?_
  refine k_aload_n C 5 dL_law_405 rfl rfl ?_
  refine k_callVI (ar := 0) C (ctI_frL hth) gL_law_X4_thrown rfl rfl rfl (by decide +kernel) ⟨Nat.le_of_ble_eq_true rfl, Nat.le_of_ble_eq_true rfl⟩ 0 (ge0 he') rfl rfl rfl (Nat.le_of_ble_eq_true rfl) dL_law_406 (by show _ ≤ 601024; omega) (by show _ ≤ 7293034; omega) ?_
  rintro _ _ ⟨_, ⟨e1, e2⟩, rfl⟩
  rw [e1, e2]
  refine k_iload C 1 dL_law_409 rfl ?_
  refine k_icmp_eq C 416 dL_law_411 rfl (fun _ => ?_) (fun h => absurd rfl h)
  refine k_iload C 1 dL_law_416 rfl ?_
  have hend : Kw X (k + 3) (n + 18) (wm' ++ (wb' ++ wO oa od cJ cD ov' dv')) 433 [(7, .int v), (6, .int r), (5, .int (nI i)), (4, .ref od), (3, .ref oa), (2, .ref mA), (1, .ref bA), (0, .ref b)] [] := by
    refine k_goto C 1086 dL_law_433 rfl ?_
    refine k_lv [2, 3, 4, 5, 6, 7] rfl ?_
    exact k_widen (by omega) (by omega) (K r wm' wb' ov' dv' hR')
  refine k_if_ne C 433 dL_law_418 rfl (fun _ => hend) (fun hz => ?_)
  have hv := hv hz
  refine k_aload_n C 4 dL_law_421 rfl rfl ?_
  refine k_iconst C (v := nI 0) dL_law_422 rfl ?_
  refine k_lald C (wm'.length + wb'.length) 1 (wO_at0 _ _ _ _ _ _ _ _) rfl (by decide) (by decide) dL_law_423 ?_
  refine k_iload C 0 dL_law_424 rfl ?_
  refine k_i2l C dL_law_426 ?_
  exact k_lc_eq C 433 dL_law_427 dL_law_428 rfl (fun _ => hend) (fun h => absurd hv h)
set_option maxHeartbeats 4000000 in
set_option maxRecDepth 100000 in
theorem s_offset (C : Cx X cL_law RL wsL_law room_1 (tyG cI cJ cF cD) 9) (TX : Tx X) (NC : kNC (kxS X)) (S : Sx X b L xs) (AT : AgT Rl (kxL X) (kxD X) cI cJ cF cD mA) (ag : ∀ x : Int32, AgL Rl (kxL X) (kxD X) cI cJ cF cD oa od yL_offset wsL_offset ({ frames := 8, cells := 2, slots := 12, locals := 132 }) [.ref bA, .int x, .ref oa] 2 12 yX4_offset wsX4_offset ({ frames := 1, cells := 0, slots := 0, locals := 22 }) [.ref mA, .int x]) (hR : Rl thr wm wb) (hi : i + 4 ≤ L) (hk : k + 5 ≤ 601024) (hn : n + 30 ≤ 7293034)
    (K : ∀ (r : Int32) (wm wb : va_W) (ov : Nat → Int64) (dv : Nat → UInt64), Rl r wm wb → Kw X (k + 5) (n + 30) (wm ++ (wb ++ wO oa od cJ cD ov dv)) 1086 [(5, .int (nI i)), (4, .ref od), (3, .ref oa), (2, .ref mA), (1, .ref bA), (0, .ref b)] []) : Kw X k n (wm ++ (wb ++ wO oa od cJ cD ov dv)) 436 [(5, .int (nI i)), (4, .ref od), (3, .ref oa), (2, .ref mA), (1, .ref bA), (0, .ref b)] [] := by
  have hLs := S.2.2.2
  obtain ⟨pC, pM, hC, hM, hA⟩ := ag (xs (i + 1)) thr wm wb ov dv hR
  obtain ⟨fs, he⟩ := (AT thr wm wb hR).1
  refine k_aload_n C 4 dL_law_436 rfl rfl ?_
  refine k_aload_n C 5 dL_law_437 rfl rfl ?_
  refine k_iload C 0 dL_law_438 rfl ?_
  refine k_iconst C (v := nI 1) dL_law_440 rfl ?_
  refine k_iaddN C dL_law_441 ?_
  refine k_sld C S (by omega) dL_law_442 ?_
  refine k_aload_n C 2 dL_law_443 rfl rfl ?_
  refine k_callSW (ar := 3) C TX NC (cwI_frR hC) gL_law_L_offset rfl rfl rfl (by decide +kernel) ⟨Nat.le_of_ble_eq_true rfl, Nat.le_of_ble_eq_true rfl⟩ rfl rfl (Nat.le_of_ble_eq_true rfl) dL_law_444 (by show _ ≤ 601024; omega) (by show _ ≤ 7293034; omega) ?_
  rintro r _ ⟨w, hp, rfl⟩
  refine k_istore C (lv' := [(6, .int r), (5, .int (nI i)), (4, .ref od), (3, .ref oa), (2, .ref mA), (1, .ref bA), (0, .ref b)]) dL_law_447 (by decide) rfl ?_
  refine k_aload_n C 4 dL_law_449 rfl rfl ?_
  refine k_aload_n C 6 dL_law_450 rfl rfl ?_
  refine k_iload C 1 dL_law_451 rfl ?_
  refine k_iconst C (v := nI 1) dL_law_453 rfl ?_
  refine k_iaddN C dL_law_454 ?_
  refine k_sld C S (by omega) dL_law_455 ?_
  refine k_callVL (ar := 1) C (ctL_frL hM) gL_law_X4_offset rfl rfl rfl (by decide +kernel) ⟨Nat.le_of_ble_eq_true rfl, Nat.le_of_ble_eq_true rfl⟩ 0 (ge0 he) rfl rfl rfl (Nat.le_of_ble_eq_true rfl) dL_law_456 (by show _ ≤ 601024; omega) (by show _ ≤ 7293034; omega) ?_
  rintro v _ ⟨wm', hq, rfl⟩
  obtain ⟨wb', ov', dv', rfl, hR', hv⟩ := hA r w v wm' hp hq
  obtain ⟨⟨fs', he'⟩, hth⟩ := AT r wm' wb' hR'
  refine k_lstore C (lv' := [(7, .long v), (6, .int r), (5, .int (nI i)), (4, .ref od), (3, .ref oa), (2, .ref mA), (1, .ref bA), (0, .ref b)]) dL_law_459 (by decide) rfl ?_
  refine k_aload_n C 5 dL_law_461 rfl rfl ?_
  refine k_callVI (ar := 0) C (ctI_frL hth) gL_law_X4_thrown rfl rfl rfl (by decide +kernel) ⟨Nat.le_of_ble_eq_true rfl, Nat.le_of_ble_eq_true rfl⟩ 0 (ge0 he') rfl rfl rfl (Nat.le_of_ble_eq_true rfl) dL_law_462 (by show _ ≤ 601024; omega) (by show _ ≤ 7293034; omega) ?_
  rintro _ _ ⟨_, ⟨e1, e2⟩, rfl⟩
  rw [e1, e2]
  refine k_iload C 1 dL_law_465 rfl ?_
  refine k_icmp_eq C 472 dL_law_467 rfl (fun _ => ?_) (fun h => absurd rfl h)
  refine k_iload C 1 dL_law_472 rfl ?_
  have hend : Kw X (k + 2) (n + 12) (wm' ++ (wb' ++ wO oa od cJ cD ov' dv')) 488 [(7, .long v), (6, .int r), (5, .int (nI i)), (4, .ref od), (3, .ref oa), (2, .ref mA), (1, .ref bA), (0, .ref b)] [] := by
    refine k_goto C 1086 dL_law_488 rfl ?_
    refine k_lv [2, 3, 4, 5, 6, 7] rfl ?_
    exact k_widen (by omega) (by omega) (K r wm' wb' ov' dv' hR')
  refine k_if_ne C 488 dL_law_474 rfl (fun _ => hend) (fun hz => ?_)
  have hv := hv hz
  refine k_aload_n C 4 dL_law_477 rfl rfl ?_
  refine k_iconst C (v := nI 0) dL_law_478 rfl ?_
  refine k_lald C (wm'.length + wb'.length) 1 (wO_at0 _ _ _ _ _ _ _ _) rfl (by decide) (by decide) dL_law_479 ?_
  refine k_lload C 0 dL_law_480 rfl ?_
  exact k_lc_eq C 488 dL_law_482 dL_law_483 rfl (fun _ => hend) (fun h => absurd hv h)
set_option maxHeartbeats 4000000 in
set_option maxRecDepth 100000 in
theorem s_corner (C : Cx X cL_law RL wsL_law room_1 (tyG cI cJ cF cD) 9) (TX : Tx X) (NC : kNC (kxS X)) (S : Sx X b L xs) (AT : AgT Rl (kxL X) (kxD X) cI cJ cF cD mA) (ag : ∀ x y : Int32, AgI Rl (kxL X) (kxD X) cI cJ cF cD oa od yL_corner wsL_corner ({ frames := 8, cells := 3, slots := 18, locals := 133 }) [.ref bA, .int x, .int y, .ref oa] 3 18 yX4_corner wsX4_corner ({ frames := 1, cells := 0, slots := 0, locals := 22 }) [.ref mA, .int x, .int y]) (hR : Rl thr wm wb) (hi : i + 4 ≤ L) (hk : k + 5 ≤ 601024) (hn : n + 30 ≤ 7293034)
    (K : ∀ (r : Int32) (wm wb : va_W) (ov : Nat → Int64) (dv : Nat → UInt64), Rl r wm wb → Kw X (k + 5) (n + 30) (wm ++ (wb ++ wO oa od cJ cD ov dv)) 1086 [(5, .int (nI i)), (4, .ref od), (3, .ref oa), (2, .ref mA), (1, .ref bA), (0, .ref b)] []) : Kw X k n (wm ++ (wb ++ wO oa od cJ cD ov dv)) 491 [(5, .int (nI i)), (4, .ref od), (3, .ref oa), (2, .ref mA), (1, .ref bA), (0, .ref b)] [] := by
  have hLs := S.2.2.2
  obtain ⟨pC, pM, hC, hM, hA⟩ := ag (xs (i + 1)) (xs (i + 2)) thr wm wb ov dv hR
  obtain ⟨fs, he⟩ := (AT thr wm wb hR).1
  refine k_aload_n C 4 dL_law_491 rfl rfl ?_
  refine k_aload_n C 5 dL_law_492 rfl rfl ?_
  refine k_iload C 0 dL_law_493 rfl ?_
  refine k_iconst C (v := nI 1) dL_law_495 rfl ?_
  refine k_iaddN C dL_law_496 ?_
  refine k_sld C S (by omega) dL_law_497 ?_
  refine k_aload_n C 5 dL_law_498 rfl rfl ?_
  refine k_iload C 0 dL_law_499 rfl ?_
  refine k_iconst C (v := nI 2) dL_law_501 rfl ?_
  refine k_iaddN C dL_law_502 ?_
  refine k_sld C S (by omega) dL_law_503 ?_
  refine k_aload_n C 2 dL_law_504 rfl rfl ?_
  refine k_callSW (ar := 4) C TX NC (cwI_frR hC) gL_law_L_corner rfl rfl rfl (by decide +kernel) ⟨Nat.le_of_ble_eq_true rfl, Nat.le_of_ble_eq_true rfl⟩ rfl rfl (Nat.le_of_ble_eq_true rfl) dL_law_505 (by show _ ≤ 601024; omega) (by show _ ≤ 7293034; omega) ?_
  rintro r _ ⟨w, hp, rfl⟩
  refine k_istore C (lv' := [(6, .int r), (5, .int (nI i)), (4, .ref od), (3, .ref oa), (2, .ref mA), (1, .ref bA), (0, .ref b)]) dL_law_508 (by decide) rfl ?_
  refine k_aload_n C 4 dL_law_510 rfl rfl ?_
  refine k_aload_n C 6 dL_law_511 rfl rfl ?_
  refine k_iload C 1 dL_law_512 rfl ?_
  refine k_iconst C (v := nI 1) dL_law_514 rfl ?_
  refine k_iaddN C dL_law_515 ?_
  refine k_sld C S (by omega) dL_law_516 ?_
  refine k_aload_n C 6 dL_law_517 rfl rfl ?_
  refine k_iload C 1 dL_law_518 rfl ?_
  refine k_iconst C (v := nI 2) dL_law_520 rfl ?_
  refine k_iaddN C dL_law_521 ?_
  refine k_sld C S (by omega) dL_law_522 ?_
  refine k_callVI (ar := 2) C (ctI_frL hM) gL_law_X4_corner rfl rfl rfl (by decide +kernel) ⟨Nat.le_of_ble_eq_true rfl, Nat.le_of_ble_eq_true rfl⟩ 0 (ge0 he) rfl rfl rfl (Nat.le_of_ble_eq_true rfl) dL_law_523 (by show _ ≤ 601024; omega) (by show _ ≤ 7293034; omega) ?_
  rintro v _ ⟨wm', hq, rfl⟩
  obtain ⟨wb', ov', dv', rfl, hR', hv⟩ := hA r w v wm' hp hq
  obtain ⟨⟨fs', he'⟩, hth⟩ := AT r wm' wb' hR'
  refine k_istore C (lv' := [(7, .int v), (6, .int r), (5, .int (nI i)), (4, .ref od), (3, .ref oa), (2, .ref mA), (1, .ref bA), (0, .ref b)]) dL_law_526 (by decide) rfl ?_
  refine k_aload_n C 5 dL_law_528 rfl rfl ?_
  refine k_callVI (ar := 0) C (ctI_frL hth) gL_law_X4_thrown rfl rfl rfl (by decide +kernel) ⟨Nat.le_of_ble_eq_true rfl, Nat.le_of_ble_eq_true rfl⟩ 0 (ge0 he') rfl rfl rfl (Nat.le_of_ble_eq_true rfl) dL_law_529 (by show _ ≤ 601024; omega) (by show _ ≤ 7293034; omega) ?_
  rintro _ _ ⟨_, ⟨e1, e2⟩, rfl⟩
  rw [e1, e2]
  refine k_iload C 1 dL_law_532 rfl ?_
  refine k_icmp_eq C 539 dL_law_534 rfl (fun _ => ?_) (fun h => absurd rfl h)
  refine k_iload C 1 dL_law_539 rfl ?_
  have hend : Kw X (k + 3) (n + 18) (wm' ++ (wb' ++ wO oa od cJ cD ov' dv')) 556 [(7, .int v), (6, .int r), (5, .int (nI i)), (4, .ref od), (3, .ref oa), (2, .ref mA), (1, .ref bA), (0, .ref b)] [] := by
    refine k_goto C 1086 dL_law_556 rfl ?_
    refine k_lv [2, 3, 4, 5, 6, 7] rfl ?_
    exact k_widen (by omega) (by omega) (K r wm' wb' ov' dv' hR')
  refine k_if_ne C 556 dL_law_541 rfl (fun _ => hend) (fun hz => ?_)
  have hv := hv hz
  refine k_aload_n C 4 dL_law_544 rfl rfl ?_
  refine k_iconst C (v := nI 0) dL_law_545 rfl ?_
  refine k_lald C (wm'.length + wb'.length) 1 (wO_at0 _ _ _ _ _ _ _ _) rfl (by decide) (by decide) dL_law_546 ?_
  refine k_iload C 0 dL_law_547 rfl ?_
  refine k_i2l C dL_law_549 ?_
  exact k_lc_eq C 556 dL_law_550 dL_law_551 rfl (fun _ => hend) (fun h => absurd hv h)
set_option maxHeartbeats 4000000 in
set_option maxRecDepth 100000 in
theorem s_edge (C : Cx X cL_law RL wsL_law room_1 (tyG cI cJ cF cD) 9) (TX : Tx X) (NC : kNC (kxS X)) (S : Sx X b L xs) (AT : AgT Rl (kxL X) (kxD X) cI cJ cF cD mA) (ag : ∀ x y : Int32, AgI Rl (kxL X) (kxD X) cI cJ cF cD oa od yL_edge wsL_edge ({ frames := 8, cells := 3, slots := 18, locals := 135 }) [.ref bA, .int x, .int y, .ref oa] 3 18 yX4_edge wsX4_edge ({ frames := 1, cells := 0, slots := 0, locals := 22 }) [.ref mA, .int x, .int y]) (hR : Rl thr wm wb) (hi : i + 4 ≤ L) (hk : k + 5 ≤ 601024) (hn : n + 30 ≤ 7293034)
    (K : ∀ (r : Int32) (wm wb : va_W) (ov : Nat → Int64) (dv : Nat → UInt64), Rl r wm wb → Kw X (k + 5) (n + 30) (wm ++ (wb ++ wO oa od cJ cD ov dv)) 1086 [(5, .int (nI i)), (4, .ref od), (3, .ref oa), (2, .ref mA), (1, .ref bA), (0, .ref b)] []) : Kw X k n (wm ++ (wb ++ wO oa od cJ cD ov dv)) 559 [(5, .int (nI i)), (4, .ref od), (3, .ref oa), (2, .ref mA), (1, .ref bA), (0, .ref b)] [] := by
  have hLs := S.2.2.2
  obtain ⟨pC, pM, hC, hM, hA⟩ := ag (xs (i + 1)) (xs (i + 2)) thr wm wb ov dv hR
  obtain ⟨fs, he⟩ := (AT thr wm wb hR).1
  refine k_aload_n C 4 dL_law_559 rfl rfl ?_
  refine k_aload_n C 5 dL_law_560 rfl rfl ?_
  refine k_iload C 0 dL_law_561 rfl ?_
  refine k_iconst C (v := nI 1) dL_law_563 rfl ?_
  refine k_iaddN C dL_law_564 ?_
  refine k_sld C S (by omega) dL_law_565 ?_
  refine k_aload_n C 5 dL_law_566 rfl rfl ?_
  refine k_iload C 0 dL_law_567 rfl ?_
  refine k_iconst C (v := nI 2) dL_law_569 rfl ?_
  refine k_iaddN C dL_law_570 ?_
  refine k_sld C S (by omega) dL_law_571 ?_
  refine k_aload_n C 2 dL_law_572 rfl rfl ?_
  refine k_callSW (ar := 4) C TX NC (cwI_frR hC) gL_law_L_edge rfl rfl rfl (by decide +kernel) ⟨Nat.le_of_ble_eq_true rfl, Nat.le_of_ble_eq_true rfl⟩ rfl rfl (Nat.le_of_ble_eq_true rfl) dL_law_573 (by show _ ≤ 601024; omega) (by show _ ≤ 7293034; omega) ?_
  rintro r _ ⟨w, hp, rfl⟩
  refine k_istore C (lv' := [(6, .int r), (5, .int (nI i)), (4, .ref od), (3, .ref oa), (2, .ref mA), (1, .ref bA), (0, .ref b)]) dL_law_576 (by decide) rfl ?_
  refine k_aload_n C 4 dL_law_578 rfl rfl ?_
  refine k_aload_n C 6 dL_law_579 rfl rfl ?_
  refine k_iload C 1 dL_law_580 rfl ?_
  refine k_iconst C (v := nI 1) dL_law_582 rfl ?_
  refine k_iaddN C dL_law_583 ?_
  refine k_sld C S (by omega) dL_law_584 ?_
  refine k_aload_n C 6 dL_law_585 rfl rfl ?_
  refine k_iload C 1 dL_law_586 rfl ?_
  refine k_iconst C (v := nI 2) dL_law_588 rfl ?_
  refine k_iaddN C dL_law_589 ?_
  refine k_sld C S (by omega) dL_law_590 ?_
  refine k_callVI (ar := 2) C (ctI_frL hM) gL_law_X4_edge rfl rfl rfl (by decide +kernel) ⟨Nat.le_of_ble_eq_true rfl, Nat.le_of_ble_eq_true rfl⟩ 0 (ge0 he) rfl rfl rfl (Nat.le_of_ble_eq_true rfl) dL_law_591 (by show _ ≤ 601024; omega) (by show _ ≤ 7293034; omega) ?_
  rintro v _ ⟨wm', hq, rfl⟩
  obtain ⟨wb', ov', dv', rfl, hR', hv⟩ := hA r w v wm' hp hq
  obtain ⟨⟨fs', he'⟩, hth⟩ := AT r wm' wb' hR'
  refine k_istore C (lv' := [(7, .int v), (6, .int r), (5, .int (nI i)), (4, .ref od), (3, .ref oa), (2, .ref mA), (1, .ref bA), (0, .ref b)]) dL_law_594 (by decide) rfl ?_
  refine k_aload_n C 5 dL_law_596 rfl rfl ?_
  refine k_callVI (ar := 0) C (ctI_frL hth) gL_law_X4_thrown rfl rfl rfl (by decide +kernel) ⟨Nat.le_of_ble_eq_true rfl, Nat.le_of_ble_eq_true rfl⟩ 0 (ge0 he') rfl rfl rfl (Nat.le_of_ble_eq_true rfl) dL_law_597 (by show _ ≤ 601024; omega) (by show _ ≤ 7293034; omega) ?_
  rintro _ _ ⟨_, ⟨e1, e2⟩, rfl⟩
  rw [e1, e2]
  refine k_iload C 1 dL_law_600 rfl ?_
  refine k_icmp_eq C 607 dL_law_602 rfl (fun _ => ?_) (fun h => absurd rfl h)
  refine k_iload C 1 dL_law_607 rfl ?_
  have hend : Kw X (k + 3) (n + 18) (wm' ++ (wb' ++ wO oa od cJ cD ov' dv')) 624 [(7, .int v), (6, .int r), (5, .int (nI i)), (4, .ref od), (3, .ref oa), (2, .ref mA), (1, .ref bA), (0, .ref b)] [] := by
    refine k_goto C 1086 dL_law_624 rfl ?_
    refine k_lv [2, 3, 4, 5, 6, 7] rfl ?_
    exact k_widen (by omega) (by omega) (K r wm' wb' ov' dv' hR')
  refine k_if_ne C 624 dL_law_609 rfl (fun _ => hend) (fun hz => ?_)
  have hv := hv hz
  refine k_aload_n C 4 dL_law_612 rfl rfl ?_
  refine k_iconst C (v := nI 0) dL_law_613 rfl ?_
  refine k_lald C (wm'.length + wb'.length) 1 (wO_at0 _ _ _ _ _ _ _ _) rfl (by decide) (by decide) dL_law_614 ?_
  refine k_iload C 0 dL_law_615 rfl ?_
  refine k_i2l C dL_law_617 ?_
  exact k_lc_eq C 624 dL_law_618 dL_law_619 rfl (fun _ => hend) (fun h => absurd hv h)
set_option maxHeartbeats 4000000 in
set_option maxRecDepth 100000 in
theorem s_support (C : Cx X cL_law RL wsL_law room_1 (tyG cI cJ cF cD) 9) (TX : Tx X) (NC : kNC (kxS X)) (S : Sx X b L xs) (AT : AgT Rl (kxL X) (kxD X) cI cJ cF cD mA) (ag : ∀ x y z : Int32, AgI Rl (kxL X) (kxD X) cI cJ cF cD oa od yL_support wsL_support ({ frames := 8, cells := 2, slots := 12, locals := 136 }) [.ref bA, .int x, .int y, .int z, .ref oa] 2 12 yX4_support wsX4_support ({ frames := 1, cells := 0, slots := 0, locals := 23 }) [.ref mA, .int x, .int y, .int z]) (hR : Rl thr wm wb) (hi : i + 4 ≤ L) (hk : k + 5 ≤ 601024) (hn : n + 30 ≤ 7293034)
    (K : ∀ (r : Int32) (wm wb : va_W) (ov : Nat → Int64) (dv : Nat → UInt64), Rl r wm wb → Kw X (k + 5) (n + 30) (wm ++ (wb ++ wO oa od cJ cD ov dv)) 1086 [(5, .int (nI i)), (4, .ref od), (3, .ref oa), (2, .ref mA), (1, .ref bA), (0, .ref b)] []) : Kw X k n (wm ++ (wb ++ wO oa od cJ cD ov dv)) 627 [(5, .int (nI i)), (4, .ref od), (3, .ref oa), (2, .ref mA), (1, .ref bA), (0, .ref b)] [] := by
  have hLs := S.2.2.2
  obtain ⟨pC, pM, hC, hM, hA⟩ := ag (xs (i + 1)) (xs (i + 2)) (xs (i + 3)) thr wm wb ov dv hR
  obtain ⟨fs, he⟩ := (AT thr wm wb hR).1
  refine k_aload_n C 4 dL_law_627 rfl rfl ?_
  refine k_aload_n C 5 dL_law_628 rfl rfl ?_
  refine k_iload C 0 dL_law_629 rfl ?_
  refine k_iconst C (v := nI 1) dL_law_631 rfl ?_
  refine k_iaddN C dL_law_632 ?_
  refine k_sld C S (by omega) dL_law_633 ?_
  refine k_aload_n C 5 dL_law_634 rfl rfl ?_
  refine k_iload C 0 dL_law_635 rfl ?_
  refine k_iconst C (v := nI 2) dL_law_637 rfl ?_
  refine k_iaddN C dL_law_638 ?_
  refine k_sld C S (by omega) dL_law_639 ?_
  refine k_aload_n C 5 dL_law_640 rfl rfl ?_
  refine k_iload C 0 dL_law_641 rfl ?_
  refine k_iconst C (v := nI 3) dL_law_643 rfl ?_
  refine k_iaddN C dL_law_644 ?_
  refine k_sld C S (by omega) dL_law_645 ?_
  refine k_aload_n C 2 dL_law_646 rfl rfl ?_
  refine k_callSW (ar := 5) C TX NC (cwI_frR hC) gL_law_L_support rfl rfl rfl (by decide +kernel) ⟨Nat.le_of_ble_eq_true rfl, Nat.le_of_ble_eq_true rfl⟩ rfl rfl (Nat.le_of_ble_eq_true rfl) dL_law_647 (by show _ ≤ 601024; omega) (by show _ ≤ 7293034; omega) ?_
  rintro r _ ⟨w, hp, rfl⟩
  refine k_istore C (lv' := [(6, .int r), (5, .int (nI i)), (4, .ref od), (3, .ref oa), (2, .ref mA), (1, .ref bA), (0, .ref b)]) dL_law_650 (by decide) rfl ?_
  refine k_aload_n C 4 dL_law_652 rfl rfl ?_
  refine k_aload_n C 6 dL_law_653 rfl rfl ?_
  refine k_iload C 1 dL_law_654 rfl ?_
  refine k_iconst C (v := nI 1) dL_law_656 rfl ?_
  refine k_iaddN C dL_law_657 ?_
  refine k_sld C S (by omega) dL_law_658 ?_
  refine k_aload_n C 6 dL_law_659 rfl rfl ?_
  refine k_iload C 1 dL_law_660 rfl ?_
  refine k_iconst C (v := nI 2) dL_law_662 rfl ?_
  refine k_iaddN C dL_law_663 ?_
  refine k_sld C S (by omega) dL_law_664 ?_
  refine k_aload_n C 6 dL_law_665 rfl rfl ?_
  refine k_iload C 1 dL_law_666 rfl ?_
  refine k_iconst C (v := nI 3) dL_law_668 rfl ?_
  refine k_iaddN C dL_law_669 ?_
  refine k_sld C S (by omega) dL_law_670 ?_
  refine k_callVI (ar := 3) C (ctI_frL hM) gL_law_X4_support rfl rfl rfl (by decide +kernel) ⟨Nat.le_of_ble_eq_true rfl, Nat.le_of_ble_eq_true rfl⟩ 0 (ge0 he) rfl rfl rfl (Nat.le_of_ble_eq_true rfl) dL_law_671 (by show _ ≤ 601024; omega) (by show _ ≤ 7293034; omega) ?_
  rintro v _ ⟨wm', hq, rfl⟩
  obtain ⟨wb', ov', dv', rfl, hR', hv⟩ := hA r w v wm' hp hq
  obtain ⟨⟨fs', he'⟩, hth⟩ := AT r wm' wb' hR'
  refine k_istore C (lv' := [(7, .int v), (6, .int r), (5, .int (nI i)), (4, .ref od), (3, .ref oa), (2, .ref mA), (1, .ref bA), (0, .ref b)]) dL_law_674 (by decide) rfl ?_
  refine k_aload_n C 5 dL_law_676 rfl rfl ?_
  refine k_callVI (ar := 0) C (ctI_frL hth) gL_law_X4_thrown rfl rfl rfl (by decide +kernel) ⟨Nat.le_of_ble_eq_true rfl, Nat.le_of_ble_eq_true rfl⟩ 0 (ge0 he') rfl rfl rfl (Nat.le_of_ble_eq_true rfl) dL_law_677 (by show _ ≤ 601024; omega) (by show _ ≤ 7293034; omega) ?_
  rintro _ _ ⟨_, ⟨e1, e2⟩, rfl⟩
  rw [e1, e2]
  refine k_iload C 1 dL_law_680 rfl ?_
  refine k_icmp_eq C 687 dL_law_682 rfl (fun _ => ?_) (fun h => absurd rfl h)
  refine k_iload C 1 dL_law_687 rfl ?_
  have hend : Kw X (k + 2) (n + 12) (wm' ++ (wb' ++ wO oa od cJ cD ov' dv')) 704 [(7, .int v), (6, .int r), (5, .int (nI i)), (4, .ref od), (3, .ref oa), (2, .ref mA), (1, .ref bA), (0, .ref b)] [] := by
    refine k_goto C 1086 dL_law_704 rfl ?_
    refine k_lv [2, 3, 4, 5, 6, 7] rfl ?_
    exact k_widen (by omega) (by omega) (K r wm' wb' ov' dv' hR')
  refine k_if_ne C 704 dL_law_689 rfl (fun _ => hend) (fun hz => ?_)
  have hv := hv hz
  refine k_aload_n C 4 dL_law_692 rfl rfl ?_
  refine k_iconst C (v := nI 0) dL_law_693 rfl ?_
  refine k_lald C (wm'.length + wb'.length) 1 (wO_at0 _ _ _ _ _ _ _ _) rfl (by decide) (by decide) dL_law_694 ?_
  refine k_iload C 0 dL_law_695 rfl ?_
  refine k_i2l C dL_law_697 ?_
  exact k_lc_eq C 704 dL_law_698 dL_law_699 rfl (fun _ => hend) (fun h => absurd hv h)
set_option maxHeartbeats 4000000 in
set_option maxRecDepth 100000 in
theorem s_steps (C : Cx X cL_law RL wsL_law room_1 (tyG cI cJ cF cD) 9) (TX : Tx X) (NC : kNC (kxS X)) (S : Sx X b L xs) (AT : AgT Rl (kxL X) (kxD X) cI cJ cF cD mA) (ag : ∀ x y : Int32, AgI Rl (kxL X) (kxD X) cI cJ cF cD oa od yL_steps wsL_steps ({ frames := 9, cells := 5, slots := 30, locals := 154 }) [.ref bA, .int x, .int y, .ref oa] 5 30 yX4_steps wsX4_steps ({ frames := 1, cells := 0, slots := 0, locals := 23 }) [.ref mA, .int x, .int y]) (hR : Rl thr wm wb) (hi : i + 4 ≤ L) (hk : k + 5 ≤ 601024) (hn : n + 30 ≤ 7293034)
    (K : ∀ (r : Int32) (wm wb : va_W) (ov : Nat → Int64) (dv : Nat → UInt64), Rl r wm wb → Kw X (k + 5) (n + 30) (wm ++ (wb ++ wO oa od cJ cD ov dv)) 1086 [(5, .int (nI i)), (4, .ref od), (3, .ref oa), (2, .ref mA), (1, .ref bA), (0, .ref b)] []) : Kw X k n (wm ++ (wb ++ wO oa od cJ cD ov dv)) 707 [(5, .int (nI i)), (4, .ref od), (3, .ref oa), (2, .ref mA), (1, .ref bA), (0, .ref b)] [] := by
  have hLs := S.2.2.2
  obtain ⟨pC, pM, hC, hM, hA⟩ := ag (xs (i + 1)) (xs (i + 2)) thr wm wb ov dv hR
  obtain ⟨fs, he⟩ := (AT thr wm wb hR).1
  refine k_aload_n C 4 dL_law_707 rfl rfl ?_
  refine k_aload_n C 5 dL_law_708 rfl rfl ?_
  refine k_iload C 0 dL_law_709 rfl ?_
  refine k_iconst C (v := nI 1) dL_law_711 rfl ?_
  refine k_iaddN C dL_law_712 ?_
  refine k_sld C S (by omega) dL_law_713 ?_
  refine k_aload_n C 5 dL_law_714 rfl rfl ?_
  refine k_iload C 0 dL_law_715 rfl ?_
  refine k_iconst C (v := nI 2) dL_law_717 rfl ?_
  refine k_iaddN C dL_law_718 ?_
  refine k_sld C S (by omega) dL_law_719 ?_
  refine k_aload_n C 2 dL_law_720 rfl rfl ?_
  refine k_callSW (ar := 4) C TX NC (cwI_frR hC) gL_law_L_steps rfl rfl rfl (by decide +kernel) ⟨Nat.le_of_ble_eq_true rfl, Nat.le_of_ble_eq_true rfl⟩ rfl rfl (Nat.le_of_ble_eq_true rfl) dL_law_721 (by show _ ≤ 601024; omega) (by show _ ≤ 7293034; omega) ?_
  rintro r _ ⟨w, hp, rfl⟩
  refine k_istore C (lv' := [(6, .int r), (5, .int (nI i)), (4, .ref od), (3, .ref oa), (2, .ref mA), (1, .ref bA), (0, .ref b)]) dL_law_724 (by decide) rfl ?_
  refine k_aload_n C 4 dL_law_726 rfl rfl ?_
  refine k_aload_n C 6 dL_law_727 rfl rfl ?_
  refine k_iload C 1 dL_law_728 rfl ?_
  refine k_iconst C (v := nI 1) dL_law_730 rfl ?_
  refine k_iaddN C dL_law_731 ?_
  refine k_sld C S (by omega) dL_law_732 ?_
  refine k_aload_n C 6 dL_law_733 rfl rfl ?_
  refine k_iload C 1 dL_law_734 rfl ?_
  refine k_iconst C (v := nI 2) dL_law_736 rfl ?_
  refine k_iaddN C dL_law_737 ?_
  refine k_sld C S (by omega) dL_law_738 ?_
  refine k_callVI (ar := 2) C (ctI_frL hM) gL_law_X4_steps rfl rfl rfl (by decide +kernel) ⟨Nat.le_of_ble_eq_true rfl, Nat.le_of_ble_eq_true rfl⟩ 0 (ge0 he) rfl rfl rfl (Nat.le_of_ble_eq_true rfl) dL_law_739 (by show _ ≤ 601024; omega) (by show _ ≤ 7293034; omega) ?_
  rintro v _ ⟨wm', hq, rfl⟩
  obtain ⟨wb', ov', dv', rfl, hR', hv⟩ := hA r w v wm' hp hq
  obtain ⟨⟨fs', he'⟩, hth⟩ := AT r wm' wb' hR'
  refine k_istore C (lv' := [(7, .int v), (6, .int r), (5, .int (nI i)), (4, .ref od), (3, .ref oa), (2, .ref mA), (1, .ref bA), (0, .ref b)]) dL_law_742 (by decide) rfl ?_
  refine k_aload_n C 5 dL_law_744 rfl rfl ?_
  refine k_callVI (ar := 0) C (ctI_frL hth) gL_law_X4_thrown rfl rfl rfl (by decide +kernel) ⟨Nat.le_of_ble_eq_true rfl, Nat.le_of_ble_eq_true rfl⟩ 0 (ge0 he') rfl rfl rfl (Nat.le_of_ble_eq_true rfl) dL_law_745 (by show _ ≤ 601024; omega) (by show _ ≤ 7293034; omega) ?_
  rintro _ _ ⟨_, ⟨e1, e2⟩, rfl⟩
  rw [e1, e2]
  refine k_iload C 1 dL_law_748 rfl ?_
  refine k_icmp_eq C 755 dL_law_750 rfl (fun _ => ?_) (fun h => absurd rfl h)
  refine k_iload C 1 dL_law_755 rfl ?_
  have hend : Kw X (k + 5) (n + 30) (wm' ++ (wb' ++ wO oa od cJ cD ov' dv')) 772 [(7, .int v), (6, .int r), (5, .int (nI i)), (4, .ref od), (3, .ref oa), (2, .ref mA), (1, .ref bA), (0, .ref b)] [] := by
    refine k_goto C 1086 dL_law_772 rfl ?_
    refine k_lv [2, 3, 4, 5, 6, 7] rfl ?_
    exact k_widen (by omega) (by omega) (K r wm' wb' ov' dv' hR')
  refine k_if_ne C 772 dL_law_757 rfl (fun _ => hend) (fun hz => ?_)
  have hv := hv hz
  refine k_aload_n C 4 dL_law_760 rfl rfl ?_
  refine k_iconst C (v := nI 0) dL_law_761 rfl ?_
  refine k_lald C (wm'.length + wb'.length) 1 (wO_at0 _ _ _ _ _ _ _ _) rfl (by decide) (by decide) dL_law_762 ?_
  refine k_iload C 0 dL_law_763 rfl ?_
  refine k_i2l C dL_law_765 ?_
  exact k_lc_eq C 772 dL_law_766 dL_law_767 rfl (fun _ => hend) (fun h => absurd hv h)
set_option maxHeartbeats 4000000 in
set_option maxRecDepth 100000 in
theorem s_side (C : Cx X cL_law RL wsL_law room_1 (tyG cI cJ cF cD) 9) (TX : Tx X) (NC : kNC (kxS X)) (S : Sx X b L xs) (AT : AgT Rl (kxL X) (kxD X) cI cJ cF cD mA) (ag : ∀ x y z : Int32, AgI Rl (kxL X) (kxD X) cI cJ cF cD oa od yL_side wsL_side ({ frames := 8, cells := 2, slots := 12, locals := 136 }) [.ref bA, .int x, .int y, .int z, .ref oa] 2 12 yX4_side wsX4_side ({ frames := 1, cells := 0, slots := 0, locals := 22 }) [.ref mA, .int x, .int y, .int z]) (hR : Rl thr wm wb) (hi : i + 4 ≤ L) (hk : k + 5 ≤ 601024) (hn : n + 30 ≤ 7293034)
    (K : ∀ (r : Int32) (wm wb : va_W) (ov : Nat → Int64) (dv : Nat → UInt64), Rl r wm wb → Kw X (k + 5) (n + 30) (wm ++ (wb ++ wO oa od cJ cD ov dv)) 1086 [(5, .int (nI i)), (4, .ref od), (3, .ref oa), (2, .ref mA), (1, .ref bA), (0, .ref b)] []) : Kw X k n (wm ++ (wb ++ wO oa od cJ cD ov dv)) 775 [(5, .int (nI i)), (4, .ref od), (3, .ref oa), (2, .ref mA), (1, .ref bA), (0, .ref b)] [] := by
  have hLs := S.2.2.2
  obtain ⟨pC, pM, hC, hM, hA⟩ := ag (xs (i + 1)) (xs (i + 2)) (xs (i + 3)) thr wm wb ov dv hR
  obtain ⟨fs, he⟩ := (AT thr wm wb hR).1
  refine k_aload_n C 4 dL_law_775 rfl rfl ?_
  refine k_aload_n C 5 dL_law_776 rfl rfl ?_
  refine k_iload C 0 dL_law_777 rfl ?_
  refine k_iconst C (v := nI 1) dL_law_779 rfl ?_
  refine k_iaddN C dL_law_780 ?_
  refine k_sld C S (by omega) dL_law_781 ?_
  refine k_aload_n C 5 dL_law_782 rfl rfl ?_
  refine k_iload C 0 dL_law_783 rfl ?_
  refine k_iconst C (v := nI 2) dL_law_785 rfl ?_
  refine k_iaddN C dL_law_786 ?_
  refine k_sld C S (by omega) dL_law_787 ?_
  refine k_aload_n C 5 dL_law_788 rfl rfl ?_
  refine k_iload C 0 dL_law_789 rfl ?_
  refine k_iconst C (v := nI 3) dL_law_791 rfl ?_
  refine k_iaddN C dL_law_792 ?_
  refine k_sld C S (by omega) dL_law_793 ?_
  refine k_aload_n C 2 dL_law_794 rfl rfl ?_
  refine k_callSW (ar := 5) C TX NC (cwI_frR hC) gL_law_L_side rfl rfl rfl (by decide +kernel) ⟨Nat.le_of_ble_eq_true rfl, Nat.le_of_ble_eq_true rfl⟩ rfl rfl (Nat.le_of_ble_eq_true rfl) dL_law_795 (by show _ ≤ 601024; omega) (by show _ ≤ 7293034; omega) ?_
  rintro r _ ⟨w, hp, rfl⟩
  refine k_istore C (lv' := [(6, .int r), (5, .int (nI i)), (4, .ref od), (3, .ref oa), (2, .ref mA), (1, .ref bA), (0, .ref b)]) dL_law_798 (by decide) rfl ?_
  refine k_aload_n C 4 dL_law_800 rfl rfl ?_
  refine k_aload_n C 6 dL_law_801 rfl rfl ?_
  refine k_iload C 1 dL_law_802 rfl ?_
  refine k_iconst C (v := nI 1) dL_law_804 rfl ?_
  refine k_iaddN C dL_law_805 ?_
  refine k_sld C S (by omega) dL_law_806 ?_
  refine k_aload_n C 6 dL_law_807 rfl rfl ?_
  refine k_iload C 1 dL_law_808 rfl ?_
  refine k_iconst C (v := nI 2) dL_law_810 rfl ?_
  refine k_iaddN C dL_law_811 ?_
  refine k_sld C S (by omega) dL_law_812 ?_
  refine k_aload_n C 6 dL_law_813 rfl rfl ?_
  refine k_iload C 1 dL_law_814 rfl ?_
  refine k_iconst C (v := nI 3) dL_law_816 rfl ?_
  refine k_iaddN C dL_law_817 ?_
  refine k_sld C S (by omega) dL_law_818 ?_
  refine k_callVI (ar := 3) C (ctI_frL hM) gL_law_X4_side rfl rfl rfl (by decide +kernel) ⟨Nat.le_of_ble_eq_true rfl, Nat.le_of_ble_eq_true rfl⟩ 0 (ge0 he) rfl rfl rfl (Nat.le_of_ble_eq_true rfl) dL_law_819 (by show _ ≤ 601024; omega) (by show _ ≤ 7293034; omega) ?_
  rintro v _ ⟨wm', hq, rfl⟩
  obtain ⟨wb', ov', dv', rfl, hR', hv⟩ := hA r w v wm' hp hq
  obtain ⟨⟨fs', he'⟩, hth⟩ := AT r wm' wb' hR'
  refine k_istore C (lv' := [(7, .int v), (6, .int r), (5, .int (nI i)), (4, .ref od), (3, .ref oa), (2, .ref mA), (1, .ref bA), (0, .ref b)]) dL_law_822 (by decide) rfl ?_
  refine k_aload_n C 5 dL_law_824 rfl rfl ?_
  refine k_callVI (ar := 0) C (ctI_frL hth) gL_law_X4_thrown rfl rfl rfl (by decide +kernel) ⟨Nat.le_of_ble_eq_true rfl, Nat.le_of_ble_eq_true rfl⟩ 0 (ge0 he') rfl rfl rfl (Nat.le_of_ble_eq_true rfl) dL_law_825 (by show _ ≤ 601024; omega) (by show _ ≤ 7293034; omega) ?_
  rintro _ _ ⟨_, ⟨e1, e2⟩, rfl⟩
  rw [e1, e2]
  refine k_iload C 1 dL_law_828 rfl ?_
  refine k_icmp_eq C 835 dL_law_830 rfl (fun _ => ?_) (fun h => absurd rfl h)
  refine k_iload C 1 dL_law_835 rfl ?_
  have hend : Kw X (k + 2) (n + 12) (wm' ++ (wb' ++ wO oa od cJ cD ov' dv')) 852 [(7, .int v), (6, .int r), (5, .int (nI i)), (4, .ref od), (3, .ref oa), (2, .ref mA), (1, .ref bA), (0, .ref b)] [] := by
    refine k_goto C 1086 dL_law_852 rfl ?_
    refine k_lv [2, 3, 4, 5, 6, 7] rfl ?_
    exact k_widen (by omega) (by omega) (K r wm' wb' ov' dv' hR')
  refine k_if_ne C 852 dL_law_837 rfl (fun _ => hend) (fun hz => ?_)
  have hv := hv hz
  refine k_aload_n C 4 dL_law_840 rfl rfl ?_
  refine k_iconst C (v := nI 0) dL_law_841 rfl ?_
  refine k_lald C (wm'.length + wb'.length) 1 (wO_at0 _ _ _ _ _ _ _ _) rfl (by decide) (by decide) dL_law_842 ?_
  refine k_iload C 0 dL_law_843 rfl ?_
  refine k_i2l C dL_law_845 ?_
  exact k_lc_eq C 852 dL_law_846 dL_law_847 rfl (fun _ => hend) (fun h => absurd hv h)
set_option maxHeartbeats 4000000 in
set_option maxRecDepth 100000 in
theorem s_volume (C : Cx X cL_law RL wsL_law room_1 (tyG cI cJ cF cD) 9) (TX : Tx X) (NC : kNC (kxS X)) (S : Sx X b L xs) (AT : AgT Rl (kxL X) (kxD X) cI cJ cF cD mA) (ag : AgL Rl (kxL X) (kxD X) cI cJ cF cD oa od yL_volume wsL_volume ({ frames := 8, cells := 1, slots := 6, locals := 130 }) [.ref bA, .ref oa] 1 6 yX4_volume wsX4_volume ({ frames := 1, cells := 0, slots := 0, locals := 32 }) [.ref mA]) (hR : Rl thr wm wb) (hi : i + 4 ≤ L) (hk : k + 5 ≤ 601024) (hn : n + 30 ≤ 7293034)
    (K : ∀ (r : Int32) (wm wb : va_W) (ov : Nat → Int64) (dv : Nat → UInt64), Rl r wm wb → Kw X (k + 5) (n + 30) (wm ++ (wb ++ wO oa od cJ cD ov dv)) 1086 [(5, .int (nI i)), (4, .ref od), (3, .ref oa), (2, .ref mA), (1, .ref bA), (0, .ref b)] []) : Kw X k n (wm ++ (wb ++ wO oa od cJ cD ov dv)) 855 [(5, .int (nI i)), (4, .ref od), (3, .ref oa), (2, .ref mA), (1, .ref bA), (0, .ref b)] [] := by
  have hLs := S.2.2.2
  obtain ⟨pC, pM, hC, hM, hA⟩ := ag thr wm wb ov dv hR
  obtain ⟨fs, he⟩ := (AT thr wm wb hR).1
  refine k_aload_n C 4 dL_law_855 rfl rfl ?_
  refine k_aload_n C 2 dL_law_856 rfl rfl ?_
  refine k_callSW (ar := 2) C TX NC (cwI_frR hC) gL_law_L_volume rfl rfl rfl (by decide +kernel) ⟨Nat.le_of_ble_eq_true rfl, Nat.le_of_ble_eq_true rfl⟩ rfl rfl (Nat.le_of_ble_eq_true rfl) dL_law_857 (by show _ ≤ 601024; omega) (by show _ ≤ 7293034; omega) ?_
  rintro r _ ⟨w, hp, rfl⟩
  refine k_istore C (lv' := [(6, .int r), (5, .int (nI i)), (4, .ref od), (3, .ref oa), (2, .ref mA), (1, .ref bA), (0, .ref b)]) dL_law_860 (by decide) rfl ?_
  refine k_aload_n C 4 dL_law_862 rfl rfl ?_
  refine k_callVL (ar := 0) C (ctL_frL hM) gL_law_X4_volume rfl rfl rfl (by decide +kernel) ⟨Nat.le_of_ble_eq_true rfl, Nat.le_of_ble_eq_true rfl⟩ 0 (ge0 he) rfl rfl rfl (Nat.le_of_ble_eq_true rfl) dL_law_863 (by show _ ≤ 601024; omega) (by show _ ≤ 7293034; omega) ?_
  rintro v _ ⟨wm', hq, rfl⟩
  obtain ⟨wb', ov', dv', rfl, hR', hv⟩ := hA r w v wm' hp hq
  obtain ⟨⟨fs', he'⟩, hth⟩ := AT r wm' wb' hR'
  refine k_lstore C (lv' := [(7, .long v), (6, .int r), (5, .int (nI i)), (4, .ref od), (3, .ref oa), (2, .ref mA), (1, .ref bA), (0, .ref b)]) dL_law_866 (by decide) rfl ?_
  refine k_aload_n C 5 dL_law_868 rfl rfl ?_
  refine k_callVI (ar := 0) C (ctI_frL hth) gL_law_X4_thrown rfl rfl rfl (by decide +kernel) ⟨Nat.le_of_ble_eq_true rfl, Nat.le_of_ble_eq_true rfl⟩ 0 (ge0 he') rfl rfl rfl (Nat.le_of_ble_eq_true rfl) dL_law_869 (by show _ ≤ 601024; omega) (by show _ ≤ 7293034; omega) ?_
  rintro _ _ ⟨_, ⟨e1, e2⟩, rfl⟩
  rw [e1, e2]
  refine k_iload C 1 dL_law_872 rfl ?_
  refine k_icmp_eq C 879 dL_law_874 rfl (fun _ => ?_) (fun h => absurd rfl h)
  refine k_iload C 1 dL_law_879 rfl ?_
  have hend : Kw X (k + 1) (n + 6) (wm' ++ (wb' ++ wO oa od cJ cD ov' dv')) 895 [(7, .long v), (6, .int r), (5, .int (nI i)), (4, .ref od), (3, .ref oa), (2, .ref mA), (1, .ref bA), (0, .ref b)] [] := by
    refine k_goto C 1086 dL_law_895 rfl ?_
    refine k_lv [2, 3, 4, 5, 6, 7] rfl ?_
    exact k_widen (by omega) (by omega) (K r wm' wb' ov' dv' hR')
  refine k_if_ne C 895 dL_law_881 rfl (fun _ => hend) (fun hz => ?_)
  have hv := hv hz
  refine k_aload_n C 4 dL_law_884 rfl rfl ?_
  refine k_iconst C (v := nI 0) dL_law_885 rfl ?_
  refine k_lald C (wm'.length + wb'.length) 1 (wO_at0 _ _ _ _ _ _ _ _) rfl (by decide) (by decide) dL_law_886 ?_
  refine k_lload C 0 dL_law_887 rfl ?_
  exact k_lc_eq C 895 dL_law_889 dL_law_890 rfl (fun _ => hend) (fun h => absurd hv h)
set_option maxHeartbeats 4000000 in
set_option maxRecDepth 100000 in
theorem s_centre (C : Cx X cL_law RL wsL_law room_1 (tyG cI cJ cF cD) 9) (TX : Tx X) (NC : kNC (kxS X)) (S : Sx X b L xs) (AT : AgT Rl (kxL X) (kxD X) cI cJ cF cD mA) (ag : ∀ x : Int32, AgL Rl (kxL X) (kxD X) cI cJ cF cD oa od yL_centre wsL_centre ({ frames := 8, cells := 2, slots := 12, locals := 132 }) [.ref bA, .int x, .ref oa] 2 12 yX4_centre wsX4_centre ({ frames := 1, cells := 0, slots := 0, locals := 32 }) [.ref mA, .int x]) (hR : Rl thr wm wb) (hi : i + 4 ≤ L) (hk : k + 5 ≤ 601024) (hn : n + 30 ≤ 7293034)
    (K : ∀ (r : Int32) (wm wb : va_W) (ov : Nat → Int64) (dv : Nat → UInt64), Rl r wm wb → Kw X (k + 5) (n + 30) (wm ++ (wb ++ wO oa od cJ cD ov dv)) 1086 [(5, .int (nI i)), (4, .ref od), (3, .ref oa), (2, .ref mA), (1, .ref bA), (0, .ref b)] []) : Kw X k n (wm ++ (wb ++ wO oa od cJ cD ov dv)) 898 [(5, .int (nI i)), (4, .ref od), (3, .ref oa), (2, .ref mA), (1, .ref bA), (0, .ref b)] [] := by
  have hLs := S.2.2.2
  obtain ⟨pC, pM, hC, hM, hA⟩ := ag (xs (i + 1)) thr wm wb ov dv hR
  obtain ⟨fs, he⟩ := (AT thr wm wb hR).1
  refine k_aload_n C 4 dL_law_898 rfl rfl ?_
  refine k_aload_n C 5 dL_law_899 rfl rfl ?_
  refine k_iload C 0 dL_law_900 rfl ?_
  refine k_iconst C (v := nI 1) dL_law_902 rfl ?_
  refine k_iaddN C dL_law_903 ?_
  refine k_sld C S (by omega) dL_law_904 ?_
  refine k_aload_n C 2 dL_law_905 rfl rfl ?_
  refine k_callSW (ar := 3) C TX NC (cwI_frR hC) gL_law_L_centre rfl rfl rfl (by decide +kernel) ⟨Nat.le_of_ble_eq_true rfl, Nat.le_of_ble_eq_true rfl⟩ rfl rfl (Nat.le_of_ble_eq_true rfl) dL_law_906 (by show _ ≤ 601024; omega) (by show _ ≤ 7293034; omega) ?_
  rintro r _ ⟨w, hp, rfl⟩
  refine k_istore C (lv' := [(6, .int r), (5, .int (nI i)), (4, .ref od), (3, .ref oa), (2, .ref mA), (1, .ref bA), (0, .ref b)]) dL_law_909 (by decide) rfl ?_
  refine k_aload_n C 4 dL_law_911 rfl rfl ?_
  refine k_aload_n C 6 dL_law_912 rfl rfl ?_
  refine k_iload C 1 dL_law_913 rfl ?_
  refine k_iconst C (v := nI 1) dL_law_915 rfl ?_
  refine k_iaddN C dL_law_916 ?_
  refine k_sld C S (by omega) dL_law_917 ?_
  refine k_callVL (ar := 1) C (ctL_frL hM) gL_law_X4_centre rfl rfl rfl (by decide +kernel) ⟨Nat.le_of_ble_eq_true rfl, Nat.le_of_ble_eq_true rfl⟩ 0 (ge0 he) rfl rfl rfl (Nat.le_of_ble_eq_true rfl) dL_law_918 (by show _ ≤ 601024; omega) (by show _ ≤ 7293034; omega) ?_
  rintro v _ ⟨wm', hq, rfl⟩
  obtain ⟨wb', ov', dv', rfl, hR', hv⟩ := hA r w v wm' hp hq
  obtain ⟨⟨fs', he'⟩, hth⟩ := AT r wm' wb' hR'
  refine k_lstore C (lv' := [(7, .long v), (6, .int r), (5, .int (nI i)), (4, .ref od), (3, .ref oa), (2, .ref mA), (1, .ref bA), (0, .ref b)]) dL_law_921 (by decide) rfl ?_
  refine k_aload_n C 5 dL_law_923 rfl rfl ?_
  refine k_callVI (ar := 0) C (ctI_frL hth) gL_law_X4_thrown rfl rfl rfl (by decide +kernel) ⟨Nat.le_of_ble_eq_true rfl, Nat.le_of_ble_eq_true rfl⟩ 0 (ge0 he') rfl rfl rfl (Nat.le_of_ble_eq_true rfl) dL_law_924 (by show _ ≤ 601024; omega) (by show _ ≤ 7293034; omega) ?_
  rintro _ _ ⟨_, ⟨e1, e2⟩, rfl⟩
  rw [e1, e2]
  refine k_iload C 1 dL_law_927 rfl ?_
  refine k_icmp_eq C 934 dL_law_929 rfl (fun _ => ?_) (fun h => absurd rfl h)
  refine k_iload C 1 dL_law_934 rfl ?_
  have hend : Kw X (k + 2) (n + 12) (wm' ++ (wb' ++ wO oa od cJ cD ov' dv')) 950 [(7, .long v), (6, .int r), (5, .int (nI i)), (4, .ref od), (3, .ref oa), (2, .ref mA), (1, .ref bA), (0, .ref b)] [] := by
    refine k_goto C 1086 dL_law_950 rfl ?_
    refine k_lv [2, 3, 4, 5, 6, 7] rfl ?_
    exact k_widen (by omega) (by omega) (K r wm' wb' ov' dv' hR')
  refine k_if_ne C 950 dL_law_936 rfl (fun _ => hend) (fun hz => ?_)
  have hv := hv hz
  refine k_aload_n C 4 dL_law_939 rfl rfl ?_
  refine k_iconst C (v := nI 0) dL_law_940 rfl ?_
  refine k_lald C (wm'.length + wb'.length) 1 (wO_at0 _ _ _ _ _ _ _ _) rfl (by decide) (by decide) dL_law_941 ?_
  refine k_lload C 0 dL_law_942 rfl ?_
  exact k_lc_eq C 950 dL_law_944 dL_law_945 rfl (fun _ => hend) (fun h => absurd hv h)
set_option maxHeartbeats 4000000 in
set_option maxRecDepth 100000 in
theorem s_middle (C : Cx X cL_law RL wsL_law room_1 (tyG cI cJ cF cD) 9) (TX : Tx X) (NC : kNC (kxS X)) (S : Sx X b L xs) (AT : AgT Rl (kxL X) (kxD X) cI cJ cF cD mA) (ag : ∀ x : Int32, AgD Rl (kxL X) (kxD X) cI cJ cF cD oa od yL_middle wsL_middle ({ frames := 8, cells := 2, slots := 12, locals := 134 }) [.ref bA, .int x, .ref od] 2 12 yX4_middle wsX4_middle ({ frames := 1, cells := 0, slots := 0, locals := 32 }) [.ref mA, .int x]) (hR : Rl thr wm wb) (hi : i + 4 ≤ L) (hk : k + 5 ≤ 601024) (hn : n + 30 ≤ 7293034)
    (K : ∀ (r : Int32) (wm wb : va_W) (ov : Nat → Int64) (dv : Nat → UInt64), Rl r wm wb → Kw X (k + 5) (n + 30) (wm ++ (wb ++ wO oa od cJ cD ov dv)) 1086 [(5, .int (nI i)), (4, .ref od), (3, .ref oa), (2, .ref mA), (1, .ref bA), (0, .ref b)] []) : Kw X k n (wm ++ (wb ++ wO oa od cJ cD ov dv)) 953 [(5, .int (nI i)), (4, .ref od), (3, .ref oa), (2, .ref mA), (1, .ref bA), (0, .ref b)] [] := by
  have hLs := S.2.2.2
  obtain ⟨pC, pM, hC, hM, hA⟩ := ag (xs (i + 1)) thr wm wb ov dv hR
  obtain ⟨fs, he⟩ := (AT thr wm wb hR).1
  refine k_aload_n C 4 dL_law_953 rfl rfl ?_
  refine k_aload_n C 5 dL_law_954 rfl rfl ?_
  refine k_iload C 0 dL_law_955 rfl ?_
  refine k_iconst C (v := nI 1) dL_law_957 rfl ?_
  refine k_iaddN C dL_law_958 ?_
  refine k_sld C S (by omega) dL_law_959 ?_
  refine k_aload C 1 dL_law_960 rfl ?_
  refine k_callSW (ar := 3) C TX NC (cwI_frR hC) gL_law_L_middle rfl rfl rfl (by decide +kernel) ⟨Nat.le_of_ble_eq_true rfl, Nat.le_of_ble_eq_true rfl⟩ rfl rfl (Nat.le_of_ble_eq_true rfl) dL_law_962 (by show _ ≤ 601024; omega) (by show _ ≤ 7293034; omega) ?_
  rintro r _ ⟨w, hp, rfl⟩
  refine k_istore C (lv' := [(6, .int r), (5, .int (nI i)), (4, .ref od), (3, .ref oa), (2, .ref mA), (1, .ref bA), (0, .ref b)]) dL_law_965 (by decide) rfl ?_
  refine k_aload_n C 4 dL_law_967 rfl rfl ?_
  refine k_aload_n C 6 dL_law_968 rfl rfl ?_
  refine k_iload C 1 dL_law_969 rfl ?_
  refine k_iconst C (v := nI 1) dL_law_971 rfl ?_
  refine k_iaddN C dL_law_972 ?_
  refine k_sld C S (by omega) dL_law_973 ?_
  refine k_callVD (ar := 1) C (ctD_frL hM) gL_law_X4_middle rfl rfl rfl (by decide +kernel) ⟨Nat.le_of_ble_eq_true rfl, Nat.le_of_ble_eq_true rfl⟩ 0 (ge0 he) rfl rfl rfl (Nat.le_of_ble_eq_true rfl) dL_law_974 (by show _ ≤ 601024; omega) (by show _ ≤ 7293034; omega) ?_
  rintro v _ ⟨wm', hq, rfl⟩
  obtain ⟨wb', ov', dv', rfl, hR', hv⟩ := hA r w v wm' hp hq
  obtain ⟨⟨fs', he'⟩, hth⟩ := AT r wm' wb' hR'
  refine k_dstore C (lv' := [(7, .double v), (6, .int r), (5, .int (nI i)), (4, .ref od), (3, .ref oa), (2, .ref mA), (1, .ref bA), (0, .ref b)]) dL_law_977 (by decide) rfl ?_
  refine k_aload_n C 5 dL_law_979 rfl rfl ?_
  refine k_callVI (ar := 0) C (ctI_frL hth) gL_law_X4_thrown rfl rfl rfl (by decide +kernel) ⟨Nat.le_of_ble_eq_true rfl, Nat.le_of_ble_eq_true rfl⟩ 0 (ge0 he') rfl rfl rfl (Nat.le_of_ble_eq_true rfl) dL_law_980 (by show _ ≤ 601024; omega) (by show _ ≤ 7293034; omega) ?_
  rintro _ _ ⟨_, ⟨e1, e2⟩, rfl⟩
  rw [e1, e2]
  refine k_iload C 1 dL_law_983 rfl ?_
  refine k_icmp_eq C 990 dL_law_985 rfl (fun _ => ?_) (fun h => absurd rfl h)
  refine k_iload C 1 dL_law_990 rfl ?_
  have hend : Kw X (k + 2) (n + 12) (wm' ++ (wb' ++ wO oa od cJ cD ov' dv')) 1027 [(7, .double v), (6, .int r), (5, .int (nI i)), (4, .ref od), (3, .ref oa), (2, .ref mA), (1, .ref bA), (0, .ref b)] [] := by
    refine k_goto C 1086 dL_law_1027 rfl ?_
    refine k_lv [2, 3, 4, 5, 6, 7] rfl ?_
    exact k_widen (by omega) (by omega) (K r wm' wb' ov' dv' hR')
  refine k_if_ne C 1027 dL_law_992 rfl (fun _ => hend) (fun hz => ?_)
  have hv := hv hz
  refine k_aload C 3 dL_law_995 rfl ?_
  refine k_iconst C (v := nI 0) dL_law_997 rfl ?_
  refine k_dald C (wm'.length + wb'.length + 1) 3 (wO_at1 _ _ _ _ _ _ _ _) rfl (by decide) (by decide) dL_law_998 ?_
  refine k_dload C 0 dL_law_999 rfl ?_
  rw [hv]
  refine k_dcmp C dL_law_1001 ?_
  refine k_if_eq C 1027 dL_law_1002 rfl (fun _ => hend) (fun hnz => ?_)
  have hend2 := hend
  refine k_aload C 3 dL_law_1005 rfl ?_
  refine k_iconst C (v := nI 0) dL_law_1007 rfl ?_
  refine k_dald C (wm'.length + wb'.length + 1) 3 (wO_at1 _ _ _ _ _ _ _ _) rfl (by decide) (by decide) dL_law_1008 ?_
  refine k_aload C 3 dL_law_1009 rfl ?_
  refine k_iconst C (v := nI 0) dL_law_1011 rfl ?_
  refine k_dald C (wm'.length + wb'.length + 1) 3 (wO_at1 _ _ _ _ _ _ _ _) rfl (by decide) (by decide) dL_law_1012 ?_
  rw [hv]
  refine k_dcmp C dL_law_1013 ?_
  refine k_if_eq C 1025 dL_law_1014 rfl (fun h => absurd h hnz) (fun _ => ?_)
  refine k_dload C 0 dL_law_1017 rfl ?_
  refine k_dload C 0 dL_law_1019 rfl ?_
  refine k_dcmp C dL_law_1021 ?_
  exact k_if_ne C 1027 dL_law_1022 rfl (fun _ => hend) (fun h => absurd h hnz)
set_option maxHeartbeats 4000000 in
set_option maxRecDepth 100000 in
theorem s_count (C : Cx X cL_law RL wsL_law room_1 (tyG cI cJ cF cD) 9) (TX : Tx X) (NC : kNC (kxS X)) (S : Sx X b L xs) (AT : AgT Rl (kxL X) (kxD X) cI cJ cF cD mA) (ag : ∀ x : Int32, AgI Rl (kxL X) (kxD X) cI cJ cF cD oa od yL_count wsL_count ({ frames := 7, cells := 1, slots := 6, locals := 111 }) [.ref bA, .int x, .ref oa] 1 6 yX4_count wsX4_count ({ frames := 1, cells := 0, slots := 0, locals := 23 }) [.ref mA, .int x]) (hR : Rl thr wm wb) (hi : i + 4 ≤ L) (hk : k + 5 ≤ 601024) (hn : n + 30 ≤ 7293034)
    (K : ∀ (r : Int32) (wm wb : va_W) (ov : Nat → Int64) (dv : Nat → UInt64), Rl r wm wb → Kw X (k + 5) (n + 30) (wm ++ (wb ++ wO oa od cJ cD ov dv)) 1086 [(5, .int (nI i)), (4, .ref od), (3, .ref oa), (2, .ref mA), (1, .ref bA), (0, .ref b)] []) : Kw X k n (wm ++ (wb ++ wO oa od cJ cD ov dv)) 1030 [(5, .int (nI i)), (4, .ref od), (3, .ref oa), (2, .ref mA), (1, .ref bA), (0, .ref b)] [] := by
  have hLs := S.2.2.2
  obtain ⟨pC, pM, hC, hM, hA⟩ := ag (xs (i + 1)) thr wm wb ov dv hR
  obtain ⟨fs, he⟩ := (AT thr wm wb hR).1
  refine k_aload_n C 4 dL_law_1030 rfl rfl ?_
  refine k_aload_n C 5 dL_law_1031 rfl rfl ?_
  refine k_iload C 0 dL_law_1032 rfl ?_
  refine k_iconst C (v := nI 1) dL_law_1034 rfl ?_
  refine k_iaddN C dL_law_1035 ?_
  refine k_sld C S (by omega) dL_law_1036 ?_
  refine k_aload_n C 2 dL_law_1037 rfl rfl ?_
  refine k_callSW (ar := 3) C TX NC (cwI_frR hC) gL_law_L_count rfl rfl rfl (by decide +kernel) ⟨Nat.le_of_ble_eq_true rfl, Nat.le_of_ble_eq_true rfl⟩ rfl rfl (Nat.le_of_ble_eq_true rfl) dL_law_1038 (by show _ ≤ 601024; omega) (by show _ ≤ 7293034; omega) ?_
  rintro r _ ⟨w, hp, rfl⟩
  refine k_istore C (lv' := [(6, .int r), (5, .int (nI i)), (4, .ref od), (3, .ref oa), (2, .ref mA), (1, .ref bA), (0, .ref b)]) dL_law_1041 (by decide) rfl ?_
  refine k_aload_n C 4 dL_law_1043 rfl rfl ?_
  refine k_aload_n C 6 dL_law_1044 rfl rfl ?_
  refine k_iload C 1 dL_law_1045 rfl ?_
  refine k_iconst C (v := nI 1) dL_law_1047 rfl ?_
  refine k_iaddN C dL_law_1048 ?_
  refine k_sld C S (by omega) dL_law_1049 ?_
  refine k_callVI (ar := 1) C (ctI_frL hM) gL_law_X4_count rfl rfl rfl (by decide +kernel) ⟨Nat.le_of_ble_eq_true rfl, Nat.le_of_ble_eq_true rfl⟩ 0 (ge0 he) rfl rfl rfl (Nat.le_of_ble_eq_true rfl) dL_law_1050 (by show _ ≤ 601024; omega) (by show _ ≤ 7293034; omega) ?_
  rintro v _ ⟨wm', hq, rfl⟩
  obtain ⟨wb', ov', dv', rfl, hR', hv⟩ := hA r w v wm' hp hq
  obtain ⟨⟨fs', he'⟩, hth⟩ := AT r wm' wb' hR'
  refine k_istore C (lv' := [(7, .int v), (6, .int r), (5, .int (nI i)), (4, .ref od), (3, .ref oa), (2, .ref mA), (1, .ref bA), (0, .ref b)]) dL_law_1053 (by decide) rfl ?_
  refine k_aload_n C 5 dL_law_1055 rfl rfl ?_
  refine k_callVI (ar := 0) C (ctI_frL hth) gL_law_X4_thrown rfl rfl rfl (by decide +kernel) ⟨Nat.le_of_ble_eq_true rfl, Nat.le_of_ble_eq_true rfl⟩ 0 (ge0 he') rfl rfl rfl (Nat.le_of_ble_eq_true rfl) dL_law_1056 (by show _ ≤ 601024; omega) (by show _ ≤ 7293034; omega) ?_
  rintro _ _ ⟨_, ⟨e1, e2⟩, rfl⟩
  rw [e1, e2]
  refine k_iload C 1 dL_law_1059 rfl ?_
  refine k_icmp_eq C 1066 dL_law_1061 rfl (fun _ => ?_) (fun h => absurd rfl h)
  refine k_iload C 1 dL_law_1066 rfl ?_
  have hend : Kw X (k + 1) (n + 6) (wm' ++ (wb' ++ wO oa od cJ cD ov' dv')) 1083 [(7, .int v), (6, .int r), (5, .int (nI i)), (4, .ref od), (3, .ref oa), (2, .ref mA), (1, .ref bA), (0, .ref b)] [] := by
    refine k_goto C 1086 dL_law_1083 rfl ?_
    refine k_lv [2, 3, 4, 5, 6, 7] rfl ?_
    exact k_widen (by omega) (by omega) (K r wm' wb' ov' dv' hR')
  refine k_if_ne C 1083 dL_law_1068 rfl (fun _ => hend) (fun hz => ?_)
  have hv := hv hz
  refine k_aload_n C 4 dL_law_1071 rfl rfl ?_
  refine k_iconst C (v := nI 0) dL_law_1072 rfl ?_
  refine k_lald C (wm'.length + wb'.length) 1 (wO_at0 _ _ _ _ _ _ _ _) rfl (by decide) (by decide) dL_law_1073 ?_
  refine k_iload C 0 dL_law_1074 rfl ?_
  refine k_i2l C dL_law_1076 ?_
  exact k_lc_eq C 1083 dL_law_1077 dL_law_1078 rfl (fun _ => hend) (fun h => absurd hv h)
end LCalls
