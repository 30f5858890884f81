/-! ===== HullBuilderModel: its contracts, 5 ===== -/
set_option maxHeartbeats 4000000 in
set_option maxRecDepth 100000 in
theorem c4_steps (l : Launch) (D : va_G) (cI cJ cF cD : ClassId) {ad : Nat → Nat} {thr pts bds : Int32} {tx ty tz : Int64} {xs ys zs : Nat → Int32} {hx hy hz : Nat → Int64} {F : FT} {bt : Bool} {nh : Nat} {o z p : Nat → Nat} {E : ET} {g : Nat → Nat} (q s9 : Int32) (hh : nh ≤ 24) (hEn : E.1 ≤ 128) (hE2 : ∀ i, E.2.1 i / 32 < 24 ∧ E.2.1 i % 32 < 24) (hg : ∀ i, g i ≤ 99) : CtI l D (tyG cI cJ cF cD) yX4_steps wsX4_steps ({ frames := 1, cells := 0, slots := 0, locals := 23 }) [.ref (ad 0), .int q, .int s9] (wM ad cI cJ thr pts (b2i bt) bds (nI nh) (nI F.1) (nI E.1) tx ty tz xs ys zs (nA z) (nA o) (nA p) (nA E.2.1) E.2.2.1 E.2.2.2 (nA g) hx hy hz F.2.1 F.2.2.1 F.2.2.2.1 F.2.2.2.2) (fun r w => r = (if (bt && (bt && (rngB nh q && (rngB nh s9 && (icB E.1 E.2.1 q && icB E.1 E.2.1 s9))))) = true then nI (rlxN E.2.1 E.1 (farI g q.toNatClampNeg nh) nh s9.toNatClampNeg) else 0) ∧ w = (wM ad cI cJ (goT bt (bt && (rngB nh q && (rngB nh s9 && (icB E.1 E.2.1 q && icB E.1 E.2.1 s9))))) pts (b2i bt) bds (nI nh) (nI F.1) (nI E.1) tx ty tz xs ys zs (nA z) (nA o) (nA p) (nA E.2.1) E.2.2.1 E.2.2.2 (nA (if (bt && (bt && (rngB nh q && (rngB nh s9 && (icB E.1 E.2.1 q && icB E.1 E.2.1 s9))))) = true then rlxN E.2.1 E.1 (farI g q.toNatClampNeg nh) nh else g)) hx hy hz F.2.1 F.2.2.1 F.2.2.2.1 F.2.2.2.2)) := by
  refine ctI_of (cc := cX4_steps) (maxL := 8) (by decide) rfl (Nat.le_of_ble_eq_true rfl) ?_
  intro X hXl hXd C hret
  have lk0 : Cond.fieldLink RX4 159 "HullBuilderModel" "built" "Z" ∈ wsX4_steps := by decide +kernel
  have hinX4 : ∀ w ∈ wsX40, w ∈ wsX4_steps := by decide +kernel
  have lk2 : Cond.fieldLink RX4 98 "HullBuilderModel" "held" "I" ∈ wsX4_steps := by decide +kernel
  have lk3 : Cond.fieldLink RX4 59 "HullBuilderModel" "far" "[I" ∈ wsX4_steps := by decide +kernel
  have lk4 : Cond.fieldLink RX4 132 "HullBuilderModel" "edges" "I" ∈ wsX4_steps := by decide +kernel
  have lk5 : Cond.fieldLink RX4 50 "HullBuilderModel" "ends" "[I" ∈ wsX4_steps := by decide +kernel
  have hEv : ∀ i, E.2.1 i < 1024 := fun i => by have := hE2 i; omega
  show Kw X 0 0 (wM ad cI cJ thr pts (b2i bt) bds (nI nh) (nI F.1) (nI E.1) tx ty tz xs ys zs (nA z) (nA o) (nA p) (nA E.2.1) E.2.2.1 E.2.2.2 (nA g) hx hy hz F.2.1 F.2.2.1 F.2.2.2.1 F.2.2.2.2) 0 [(0, .ref (ad 0)), (1, .int q), (2, .int s9)] []
  have J52 : Kw X 0 0 (wM ad cI cJ thr pts (b2i bt) bds (nI nh) (nI F.1) (nI E.1) tx ty tz xs ys zs (nA z) (nA o) (nA p) (nA E.2.1) E.2.2.1 E.2.2.2 (nA g) hx hy hz F.2.1 F.2.2.1 F.2.2.2.1 F.2.2.2.2) 52 [(0, .ref (ad 0)), (1, .int q), (2, .int s9)] [.int (b2i (bt && (rngB nh q && (rngB nh s9 && (icB E.1 E.2.1 q && icB E.1 E.2.1 s9)))))] := by
    refine k_istore_n C (lv' := [(3, .int (b2i (bt && (rngB nh q && (rngB nh s9 && (icB E.1 E.2.1 q && icB E.1 E.2.1 s9)))))), (0, .ref (ad 0)), (1, .int q), (2, .int s9)]) dX4_steps_52 rfl (by decide) rfl ?_
    refine k_aload_n C 1 dX4_steps_53 rfl rfl ?_
    refine k_aload_n C 1 dX4_steps_54 rfl rfl ?_
    refine k_get C hinX4 0 5 rfl rfl (by decide) lk0 rfl rfl dX4_steps_55 ?_
    refine k_iload_n C 0 dX4_steps_58 rfl rfl ?_
    refine k_callVI C (ar := 2) (As := [.int (b2i bt), .int (b2i (bt && (rngB nh q && (rngB nh s9 && (icB E.1 E.2.1 q && icB E.1 E.2.1 s9)))))]) (rest := []) (c4_goes (kxL X) (kxD X) cI cJ cF cD bt (bt && (rngB nh q && (rngB nh s9 && (icB E.1 E.2.1 q && icB E.1 E.2.1 s9))))) gX4_steps_X4_goes rfl rfl rfl (by decide +kernel) ⟨Nat.le_of_ble_eq_true rfl, Nat.le_of_ble_eq_true rfl⟩ 0 rfl rfl rfl rfl (Nat.le_of_ble_eq_true rfl) dX4_steps_59 (Nat.zero_le _) (Nat.zero_le _) (fun r w hw => ?_)
    obtain ⟨rfl, rfl⟩ := hw
    refine k_if_neB C 67 dX4_steps_62 (by decide) (fun h_1 => ?_) (fun h_1 => ?_)
    · have hOK := h_1
      simp only [Bool.and_eq_true] at hOK
      obtain ⟨jq, hjq, eq_, cq⟩ := rngB_t (by omega) hOK.2.2.1
      obtain ⟨js, hjs, es, cs⟩ := rngB_t (by omega) hOK.2.2.2.1
      refine k_iconst C (v := (nI 0)) dX4_steps_67 (by decide) ?_
      refine k_istore C (lv' := [(4, .int (nI 0)), (3, .int (b2i (bt && (rngB nh q && (rngB nh s9 && (icB E.1 E.2.1 q && icB E.1 E.2.1 s9)))))), (0, .ref (ad 0)), (1, .int q), (2, .int s9)]) dX4_steps_68 (by decide) rfl ?_
      suffices L70 : ∀ (n70 j70 : Nat), j70 ≤ nh → nh + 1 ≤ j70 + n70 → Kw X 0 0 (wM ad cI cJ (goT bt (bt && (rngB nh q && (rngB nh s9 && (icB E.1 E.2.1 q && icB E.1 E.2.1 s9))))) pts (b2i bt) bds (nI nh) (nI F.1) (nI E.1) tx ty tz xs ys zs (nA z) (nA o) (nA p) (nA E.2.1) E.2.2.1 E.2.2.2 (nA (farI g jq j70)) hx hy hz F.2.1 F.2.2.1 F.2.2.2.1 F.2.2.2.2) 70 [(0, .ref (ad 0)), (1, .int q), (2, .int s9), (4, .int (nI j70))] [] by
        have w17_0 : (nA g) = (nA (farI g jq 0)) := by rw [show farI g jq 0 = g from by funext i; simp [farI]]
        refine k_ws (ws' := (wM ad cI cJ (goT bt (bt && (rngB nh q && (rngB nh s9 && (icB E.1 E.2.1 q && icB E.1 E.2.1 s9))))) pts (b2i bt) bds (nI nh) (nI F.1) (nI E.1) tx ty tz xs ys zs (nA z) (nA o) (nA p) (nA E.2.1) E.2.2.1 E.2.2.2 (nA (farI g jq 0)) hx hy hz F.2.1 F.2.2.1 F.2.2.2.1 F.2.2.2.2)) (by rw [← w17_0]) ?_
        exact k_lv [2, 3, 4, 0] rfl (L70 (nh + 1) 0 (by omega) (by omega))
      intro n70
      induction n70 with
      | zero => intro j70 a1 a2; exact absurd a2 (by omega)
      | succ n70 ih70 =>
        intro j70 b70 c70
        refine k_iload C 3 dX4_steps_70 rfl ?_
        refine k_aload_n C 0 dX4_steps_72 rfl rfl ?_
        refine k_get C hinX4 0 7 rfl rfl (by decide) lk2 rfl rfl dX4_steps_73 ?_
        refine k_icmp_geN C (by omega) (by omega) 104 dX4_steps_76 (by decide) (fun h_2 => ?_) (fun h_2 => ?_)
        · refine k_iconst C (v := (nI 0)) dX4_steps_104 (by decide) ?_
          refine k_istore C (lv' := [(4, .int (nI 0)), (0, .ref (ad 0)), (1, .int q), (2, .int s9)]) dX4_steps_105 (by decide) rfl ?_
          suffices L107 : ∀ (n107 j107 : Nat), j107 ≤ nh → nh + 1 ≤ j107 + n107 → Kw X 0 0 (wM ad cI cJ (goT bt (bt && (rngB nh q && (rngB nh s9 && (icB E.1 E.2.1 q && icB E.1 E.2.1 s9))))) pts (b2i bt) bds (nI nh) (nI F.1) (nI E.1) tx ty tz xs ys zs (nA z) (nA o) (nA p) (nA E.2.1) E.2.2.1 E.2.2.2 (nA (rlxN E.2.1 E.1 (farI g jq nh) j107)) hx hy hz F.2.1 F.2.2.1 F.2.2.2.1 F.2.2.2.2) 107 [(0, .ref (ad 0)), (1, .int q), (2, .int s9), (4, .int (nI j107))] [] by
            have w33_0 : (nA (farI g jq j70)) = (nA (rlxN E.2.1 E.1 (farI g jq nh) 0)) := by rw [show j70 = nh by omega]; rfl
            refine k_ws (ws' := (wM ad cI cJ (goT bt (bt && (rngB nh q && (rngB nh s9 && (icB E.1 E.2.1 q && icB E.1 E.2.1 s9))))) pts (b2i bt) bds (nI nh) (nI F.1) (nI E.1) tx ty tz xs ys zs (nA z) (nA o) (nA p) (nA E.2.1) E.2.2.1 E.2.2.2 (nA (rlxN E.2.1 E.1 (farI g jq nh) 0)) hx hy hz F.2.1 F.2.2.1 F.2.2.2.1 F.2.2.2.2)) (by rw [← w33_0]) ?_
            exact k_lv [1, 2, 3, 0] rfl (L107 (nh + 1) 0 (by omega) (by omega))
          intro n107
          induction n107 with
          | zero => intro j107 a1 a2; exact absurd a2 (by omega)
          | succ n107 ih107 =>
            intro j107 b107 c107
            refine k_iload C 3 dX4_steps_107 rfl ?_
            refine k_aload_n C 0 dX4_steps_109 rfl rfl ?_
            refine k_get C hinX4 0 7 rfl rfl (by decide) lk2 rfl rfl dX4_steps_110 ?_
            refine k_icmp_geN C (by omega) (by omega) 254 dX4_steps_113 (by decide) (fun h_3 => ?_) (fun h_3 => ?_)
            · refine k_aload_n C 0 dX4_steps_254 rfl rfl ?_
              refine k_get C hinX4 0 26 rfl rfl (by decide) lk3 rfl rfl dX4_steps_255 ?_
              refine k_iload_n C 2 dX4_steps_258 rfl rfl ?_
              refine k_topi (nI js) es ?_
              refine k_ialdN C (j := js) 17 0 rfl rfl (by omega) (by decide) dX4_steps_259 ?_
              exact hret _ _ _ _ ⟨by rw [if_pos (by simp only [Bool.and_eq_true]; exact hOK), cq, cs, show j107 = nh by omega], by rw [if_pos (by simp only [Bool.and_eq_true]; exact hOK), cq, show j107 = nh by omega]⟩ dX4_steps_260
            · refine k_iconst C (v := (nI 0)) dX4_steps_116 (by decide) ?_
              refine k_istore C (lv' := [(5, .int (nI 0)), (0, .ref (ad 0)), (1, .int q), (2, .int s9), (4, .int (nI j107))]) dX4_steps_117 (by decide) rfl ?_
              suffices L119 : ∀ (n119 j119 : Nat), j119 ≤ E.1 → E.1 + 1 ≤ j119 + n119 → Kw X 0 0 (wM ad cI cJ (goT bt (bt && (rngB nh q && (rngB nh s9 && (icB E.1 E.2.1 q && icB E.1 E.2.1 s9))))) pts (b2i bt) bds (nI nh) (nI F.1) (nI E.1) tx ty tz xs ys zs (nA z) (nA o) (nA p) (nA E.2.1) E.2.2.1 E.2.2.2 (nA (rlxE E.2.1 (rlxN E.2.1 E.1 (farI g jq nh) j107) j119)) hx hy hz F.2.1 F.2.2.1 F.2.2.2.1 F.2.2.2.2) 119 [(0, .ref (ad 0)), (1, .int q), (2, .int s9), (4, .int (nI j107)), (5, .int (nI j119))] [] by
                have w55_0 : (nA (rlxN E.2.1 E.1 (farI g jq nh) j107)) = (nA (rlxE E.2.1 (rlxN E.2.1 E.1 (farI g jq nh) j107) 0)) := rfl
                refine k_ws (ws' := (wM ad cI cJ (goT bt (bt && (rngB nh q && (rngB nh s9 && (icB E.1 E.2.1 q && icB E.1 E.2.1 s9))))) pts (b2i bt) bds (nI nh) (nI F.1) (nI E.1) tx ty tz xs ys zs (nA z) (nA o) (nA p) (nA E.2.1) E.2.2.1 E.2.2.2 (nA (rlxE E.2.1 (rlxN E.2.1 E.1 (farI g jq nh) j107) 0)) hx hy hz F.2.1 F.2.2.1 F.2.2.2.1 F.2.2.2.2)) (by rw [← w55_0]) ?_
                exact k_lv [1, 2, 3, 4, 0] rfl (L119 (E.1 + 1) 0 (by omega) (by omega))
              intro n119
              induction n119 with
              | zero => intro j119 a1 a2; exact absurd a2 (by omega)
              | succ n119 ih119 =>
                intro j119 b119 c119
                refine k_iload C 4 dX4_steps_119 rfl ?_
                refine k_aload_n C 0 dX4_steps_121 rfl rfl ?_
                refine k_get C hinX4 0 19 rfl rfl (by decide) lk4 rfl rfl dX4_steps_122 ?_
                refine k_icmp_geN C (by omega) (by omega) 248 dX4_steps_125 (by decide) (fun h_4 => ?_) (fun h_4 => ?_)
                · refine k_iinc C (v := (nI (j107 + 1))) (lv' := [(4, .int (nI (j107 + 1))), (0, .ref (ad 0)), (1, .int q), (2, .int s9), (5, .int (nI j119))]) 3 dX4_steps_248 rfl (nI_1 _) (by decide) rfl ?_
                  refine k_goto C 107 dX4_steps_251 (by decide) ?_
                  have w70_0 : (nA (rlxE E.2.1 (rlxN E.2.1 E.1 (farI g jq nh) j107) j119)) = (nA (rlxN E.2.1 E.1 (farI g jq nh) (j107 + 1))) := by rw [show j119 = E.1 by omega]; rfl
                  refine k_ws (ws' := (wM ad cI cJ (goT bt (bt && (rngB nh q && (rngB nh s9 && (icB E.1 E.2.1 q && icB E.1 E.2.1 s9))))) pts (b2i bt) bds (nI nh) (nI F.1) (nI E.1) tx ty tz xs ys zs (nA z) (nA o) (nA p) (nA E.2.1) E.2.2.1 E.2.2.2 (nA (rlxN E.2.1 E.1 (farI g jq nh) (j107 + 1))) hx hy hz F.2.1 F.2.2.1 F.2.2.2.1 F.2.2.2.2)) (by rw [← w70_0]) ?_
                  exact k_lv [1, 2, 3, 0] rfl (ih107 (j107 + 1) (by omega) (by omega))
                · have hx9 := hE2 j119
                  have hg9 := rlxE_le (e := E.2.1) (rlxN_le (e := E.2.1) (ne := E.1) (farI_le jq nh hg) j107) j119
                  have hgx := hg9 (E.2.1 j119 / 32)
                  have hgy := hg9 (E.2.1 j119 % 32)
                  have hg8 := rlx1_le (E.2.1 j119 / 32) (E.2.1 j119 % 32) hg9
                  have hgx8 := hg8 (E.2.1 j119 / 32)
                  have hgy8 := hg8 (E.2.1 j119 % 32)
                  refine k_aload_n C 0 dX4_steps_128 rfl rfl ?_
                  refine k_get C hinX4 0 20 rfl rfl (by decide) lk5 rfl rfl dX4_steps_129 ?_
                  refine k_iload C 4 dX4_steps_132 rfl ?_
                  refine k_ialdN C (j := j119) 14 0 rfl rfl (by omega) (by decide) dX4_steps_134 ?_
                  refine k_bipush C (v := (nI 32)) dX4_steps_135 (by decide) ?_
                  refine k_idivN C (by omega) (by omega) (by omega) dX4_steps_137 ?_
                  refine k_istore C (lv' := [(6, .int (nI ((E.2.1 j119) / 32))), (0, .ref (ad 0)), (1, .int q), (2, .int s9), (4, .int (nI j107)), (5, .int (nI j119))]) dX4_steps_138 (by decide) rfl ?_
                  refine k_aload_n C 1 dX4_steps_140 rfl rfl ?_
                  refine k_get C hinX4 0 20 rfl rfl (by decide) lk5 rfl rfl dX4_steps_141 ?_
                  refine k_iload C 5 dX4_steps_144 rfl ?_
                  refine k_ialdN C (j := j119) 14 0 rfl rfl (by omega) (by decide) dX4_steps_146 ?_
                  refine k_bipush C (v := (nI 32)) dX4_steps_147 (by decide) ?_
                  refine k_iremN C (by omega) (by omega) (by omega) dX4_steps_149 ?_
                  refine k_istore C (lv' := [(7, .int (nI ((E.2.1 j119) % 32))), (6, .int (nI ((E.2.1 j119) / 32))), (0, .ref (ad 0)), (1, .int q), (2, .int s9), (4, .int (nI j107)), (5, .int (nI j119))]) dX4_steps_150 (by decide) rfl ?_
                  refine k_aload_n C 2 dX4_steps_152 rfl rfl ?_
                  refine k_get C hinX4 0 26 rfl rfl (by decide) lk3 rfl rfl dX4_steps_153 ?_
                  refine k_iload C 1 dX4_steps_156 rfl ?_
                  refine k_aload_n C 2 dX4_steps_158 rfl rfl ?_
                  refine k_get C hinX4 0 26 rfl rfl (by decide) lk3 rfl rfl dX4_steps_159 ?_
                  refine k_iload C 0 dX4_steps_162 rfl ?_
                  refine k_ialdN C (j := ((E.2.1 j119) % 32)) 17 0 rfl rfl (by omega) (by decide) dX4_steps_164 ?_
                  refine k_iconst C (v := (nI 1)) dX4_steps_165 (by decide) ?_
                  refine k_iaddN C dX4_steps_166 ?_
                  refine k_aload_n C 2 dX4_steps_167 rfl rfl ?_
                  refine k_get C hinX4 0 26 rfl rfl (by decide) lk3 rfl rfl dX4_steps_168 ?_
                  refine k_iload C 1 dX4_steps_171 rfl ?_
                  refine k_ialdN C (j := ((E.2.1 j119) / 32)) 17 0 rfl rfl (by omega) (by decide) dX4_steps_173 ?_
                  refine k_icmp_geN C (by omega) (by omega) 189 dX4_steps_174 (by decide) (fun h_5 => ?_) (fun h_5 => ?_)
                  · refine k_aload_n C 2 dX4_steps_189 rfl rfl ?_
                    refine k_get C hinX4 0 26 rfl rfl (by decide) lk3 rfl rfl dX4_steps_190 ?_
                    refine k_iload C 1 dX4_steps_193 rfl ?_
                    refine k_ialdN C (j := ((E.2.1 j119) / 32)) 17 0 rfl rfl (by omega) (by decide) dX4_steps_195 ?_
                    refine k_iastN C (ws' := (wM ad cI cJ (goT bt (bt && (rngB nh q && (rngB nh s9 && (icB E.1 E.2.1 q && icB E.1 E.2.1 s9))))) pts (b2i bt) bds (nI nh) (nI F.1) (nI E.1) tx ty tz xs ys zs (nA z) (nA o) (nA p) (nA E.2.1) E.2.2.1 E.2.2.2 (nA (updN (rlxE E.2.1 (rlxN E.2.1 E.1 (farI g jq nh) j107) j119) ((E.2.1 j119) / 32) ((rlxE E.2.1 (rlxN E.2.1 E.1 (farI g jq nh) j107) j119) ((E.2.1 j119) / 32)))) hx hy hz F.2.1 F.2.2.1 F.2.2.2.1 F.2.2.2.2)) (j := ((E.2.1 j119) / 32)) 17 0 rfl rfl (by omega) (by decide) rfl dX4_steps_196 ?_
                    refine k_ws (ws' := (wM ad cI cJ (goT bt (bt && (rngB nh q && (rngB nh s9 && (icB E.1 E.2.1 q && icB E.1 E.2.1 s9))))) pts (b2i bt) bds (nI nh) (nI F.1) (nI E.1) tx ty tz xs ys zs (nA z) (nA o) (nA p) (nA E.2.1) E.2.2.1 E.2.2.2 (nA (rlx1 (rlxE E.2.1 (rlxN E.2.1 E.1 (farI g jq nh) j107) j119) (E.2.1 j119 / 32) (E.2.1 j119 % 32))) hx hy hz F.2.1 F.2.2.1 F.2.2.2.1 F.2.2.2.2)) (by rw [rlx_neg (by assumption)]) ?_
                    refine k_aload_n C 2 dX4_steps_197 rfl rfl ?_
                    refine k_get C hinX4 0 26 rfl rfl (by decide) lk3 rfl rfl dX4_steps_198 ?_
                    refine k_iload C 0 dX4_steps_201 rfl ?_
                    refine k_aload_n C 2 dX4_steps_203 rfl rfl ?_
                    refine k_get C hinX4 0 26 rfl rfl (by decide) lk3 rfl rfl dX4_steps_204 ?_
                    refine k_iload C 1 dX4_steps_207 rfl ?_
                    refine k_ialdN C (j := ((E.2.1 j119) / 32)) 17 0 rfl rfl (by omega) (by decide) dX4_steps_209 ?_
                    refine k_iconst C (v := (nI 1)) dX4_steps_210 (by decide) ?_
                    refine k_iaddN C dX4_steps_211 ?_
                    refine k_aload_n C 2 dX4_steps_212 rfl rfl ?_
                    refine k_get C hinX4 0 26 rfl rfl (by decide) lk3 rfl rfl dX4_steps_213 ?_
                    refine k_iload C 0 dX4_steps_216 rfl ?_
                    refine k_ialdN C (j := ((E.2.1 j119) % 32)) 17 0 rfl rfl (by omega) (by decide) dX4_steps_218 ?_
                    refine k_icmp_geN C (by omega) (by omega) 234 dX4_steps_219 (by decide) (fun h_6 => ?_) (fun h_6 => ?_)
                    · refine k_aload_n C 2 dX4_steps_234 rfl rfl ?_
                      refine k_get C hinX4 0 26 rfl rfl (by decide) lk3 rfl rfl dX4_steps_235 ?_
                      refine k_iload C 0 dX4_steps_238 rfl ?_
                      refine k_ialdN C (j := ((E.2.1 j119) % 32)) 17 0 rfl rfl (by omega) (by decide) dX4_steps_240 ?_
                      refine k_iastN C (ws' := (wM ad cI cJ (goT bt (bt && (rngB nh q && (rngB nh s9 && (icB E.1 E.2.1 q && icB E.1 E.2.1 s9))))) pts (b2i bt) bds (nI nh) (nI F.1) (nI E.1) tx ty tz xs ys zs (nA z) (nA o) (nA p) (nA E.2.1) E.2.2.1 E.2.2.2 (nA (updN (rlx1 (rlxE E.2.1 (rlxN E.2.1 E.1 (farI g jq nh) j107) j119) (E.2.1 j119 / 32) (E.2.1 j119 % 32)) ((E.2.1 j119) % 32) ((rlx1 (rlxE E.2.1 (rlxN E.2.1 E.1 (farI g jq nh) j107) j119) (E.2.1 j119 / 32) (E.2.1 j119 % 32)) ((E.2.1 j119) % 32)))) hx hy hz F.2.1 F.2.2.1 F.2.2.2.1 F.2.2.2.2)) (j := ((E.2.1 j119) % 32)) 17 0 rfl rfl (by omega) (by decide) rfl dX4_steps_241 ?_
                      refine k_iinc C (v := (nI (j119 + 1))) (lv' := [(5, .int (nI (j119 + 1))), (7, .int (nI ((E.2.1 j119) % 32))), (6, .int (nI ((E.2.1 j119) / 32))), (0, .ref (ad 0)), (1, .int q), (2, .int s9), (4, .int (nI j107))]) 6 dX4_steps_242 rfl (nI_1 _) (by decide) rfl ?_
                      refine k_goto C 119 dX4_steps_245 (by decide) ?_
                      have w137_0 : (nA (updN (rlx1 (rlxE E.2.1 (rlxN E.2.1 E.1 (farI g jq nh) j107) j119) (E.2.1 j119 / 32) (E.2.1 j119 % 32)) ((E.2.1 j119) % 32) ((rlx1 (rlxE E.2.1 (rlxN E.2.1 E.1 (farI g jq nh) j107) j119) (E.2.1 j119 / 32) (E.2.1 j119 % 32)) ((E.2.1 j119) % 32)))) = (nA (rlxE E.2.1 (rlxN E.2.1 E.1 (farI g jq nh) j107) (j119 + 1))) := congrArg nA (rlx_neg (by assumption))
                      refine k_ws (ws' := (wM ad cI cJ (goT bt (bt && (rngB nh q && (rngB nh s9 && (icB E.1 E.2.1 q && icB E.1 E.2.1 s9))))) pts (b2i bt) bds (nI nh) (nI F.1) (nI E.1) tx ty tz xs ys zs (nA z) (nA o) (nA p) (nA E.2.1) E.2.2.1 E.2.2.2 (nA (rlxE E.2.1 (rlxN E.2.1 E.1 (farI g jq nh) j107) (j119 + 1))) hx hy hz F.2.1 F.2.2.1 F.2.2.2.1 F.2.2.2.2)) (by rw [← w137_0]) ?_
                      exact k_lv [3, 4, 5, 6, 0] rfl (ih119 (j119 + 1) (by omega) (by omega))
                    · refine k_aload_n C 2 dX4_steps_222 rfl rfl ?_
                      refine k_get C hinX4 0 26 rfl rfl (by decide) lk3 rfl rfl dX4_steps_223 ?_
                      refine k_iload C 1 dX4_steps_226 rfl ?_
                      refine k_ialdN C (j := ((E.2.1 j119) / 32)) 17 0 rfl rfl (by omega) (by decide) dX4_steps_228 ?_
                      refine k_iconst C (v := (nI 1)) dX4_steps_229 (by decide) ?_
                      refine k_iaddN C dX4_steps_230 ?_
                      refine k_goto C 241 dX4_steps_231 (by decide) ?_
                      refine k_iastN C (ws' := (wM ad cI cJ (goT bt (bt && (rngB nh q && (rngB nh s9 && (icB E.1 E.2.1 q && icB E.1 E.2.1 s9))))) pts (b2i bt) bds (nI nh) (nI F.1) (nI E.1) tx ty tz xs ys zs (nA z) (nA o) (nA p) (nA E.2.1) E.2.2.1 E.2.2.2 (nA (updN (rlx1 (rlxE E.2.1 (rlxN E.2.1 E.1 (farI g jq nh) j107) j119) (E.2.1 j119 / 32) (E.2.1 j119 % 32)) ((E.2.1 j119) % 32) (((rlx1 (rlxE E.2.1 (rlxN E.2.1 E.1 (farI g jq nh) j107) j119) (E.2.1 j119 / 32) (E.2.1 j119 % 32)) ((E.2.1 j119) / 32)) + 1))) hx hy hz F.2.1 F.2.2.1 F.2.2.2.1 F.2.2.2.2)) (j := ((E.2.1 j119) % 32)) 17 0 rfl rfl (by omega) (by decide) rfl dX4_steps_241 ?_
                      refine k_iinc C (v := (nI (j119 + 1))) (lv' := [(5, .int (nI (j119 + 1))), (7, .int (nI ((E.2.1 j119) % 32))), (6, .int (nI ((E.2.1 j119) / 32))), (0, .ref (ad 0)), (1, .int q), (2, .int s9), (4, .int (nI j107))]) 6 dX4_steps_242 rfl (nI_1 _) (by decide) rfl ?_
                      refine k_goto C 119 dX4_steps_245 (by decide) ?_
                      have w150_0 : (nA (updN (rlx1 (rlxE E.2.1 (rlxN E.2.1 E.1 (farI g jq nh) j107) j119) (E.2.1 j119 / 32) (E.2.1 j119 % 32)) ((E.2.1 j119) % 32) (((rlx1 (rlxE E.2.1 (rlxN E.2.1 E.1 (farI g jq nh) j107) j119) (E.2.1 j119 / 32) (E.2.1 j119 % 32)) ((E.2.1 j119) / 32)) + 1))) = (nA (rlxE E.2.1 (rlxN E.2.1 E.1 (farI g jq nh) j107) (j119 + 1))) := congrArg nA (rlx_pos (by assumption))
                      refine k_ws (ws' := (wM ad cI cJ (goT bt (bt && (rngB nh q && (rngB nh s9 && (icB E.1 E.2.1 q && icB E.1 E.2.1 s9))))) pts (b2i bt) bds (nI nh) (nI F.1) (nI E.1) tx ty tz xs ys zs (nA z) (nA o) (nA p) (nA E.2.1) E.2.2.1 E.2.2.2 (nA (rlxE E.2.1 (rlxN E.2.1 E.1 (farI g jq nh) j107) (j119 + 1))) hx hy hz F.2.1 F.2.2.1 F.2.2.2.1 F.2.2.2.2)) (by rw [← w150_0]) ?_
                      exact k_lv [3, 4, 5, 6, 0] rfl (ih119 (j119 + 1) (by omega) (by omega))
                  · refine k_aload_n C 2 dX4_steps_177 rfl rfl ?_
                    refine k_get C hinX4 0 26 rfl rfl (by decide) lk3 rfl rfl dX4_steps_178 ?_
                    refine k_iload C 0 dX4_steps_181 rfl ?_
                    refine k_ialdN C (j := ((E.2.1 j119) % 32)) 17 0 rfl rfl (by omega) (by decide) dX4_steps_183 ?_
                    refine k_iconst C (v := (nI 1)) dX4_steps_184 (by decide) ?_
                    refine k_iaddN C dX4_steps_185 ?_
                    refine k_goto C 196 dX4_steps_186 (by decide) ?_
                    refine k_iastN C (ws' := (wM ad cI cJ (goT bt (bt && (rngB nh q && (rngB nh s9 && (icB E.1 E.2.1 q && icB E.1 E.2.1 s9))))) pts (b2i bt) bds (nI nh) (nI F.1) (nI E.1) tx ty tz xs ys zs (nA z) (nA o) (nA p) (nA E.2.1) E.2.2.1 E.2.2.2 (nA (updN (rlxE E.2.1 (rlxN E.2.1 E.1 (farI g jq nh) j107) j119) ((E.2.1 j119) / 32) (((rlxE E.2.1 (rlxN E.2.1 E.1 (farI g jq nh) j107) j119) ((E.2.1 j119) % 32)) + 1))) hx hy hz F.2.1 F.2.2.1 F.2.2.2.1 F.2.2.2.2)) (j := ((E.2.1 j119) / 32)) 17 0 rfl rfl (by omega) (by decide) rfl dX4_steps_196 ?_
                    refine k_ws (ws' := (wM ad cI cJ (goT bt (bt && (rngB nh q && (rngB nh s9 && (icB E.1 E.2.1 q && icB E.1 E.2.1 s9))))) pts (b2i bt) bds (nI nh) (nI F.1) (nI E.1) tx ty tz xs ys zs (nA z) (nA o) (nA p) (nA E.2.1) E.2.2.1 E.2.2.2 (nA (rlx1 (rlxE E.2.1 (rlxN E.2.1 E.1 (farI g jq nh) j107) j119) (E.2.1 j119 / 32) (E.2.1 j119 % 32))) hx hy hz F.2.1 F.2.2.1 F.2.2.2.1 F.2.2.2.2)) (by rw [rlx_pos (by assumption)]) ?_
                    refine k_aload_n C 2 dX4_steps_197 rfl rfl ?_
                    refine k_get C hinX4 0 26 rfl rfl (by decide) lk3 rfl rfl dX4_steps_198 ?_
                    refine k_iload C 0 dX4_steps_201 rfl ?_
                    refine k_aload_n C 2 dX4_steps_203 rfl rfl ?_
                    refine k_get C hinX4 0 26 rfl rfl (by decide) lk3 rfl rfl dX4_steps_204 ?_
                    refine k_iload C 1 dX4_steps_207 rfl ?_
                    refine k_ialdN C (j := ((E.2.1 j119) / 32)) 17 0 rfl rfl (by omega) (by decide) dX4_steps_209 ?_
                    refine k_iconst C (v := (nI 1)) dX4_steps_210 (by decide) ?_
                    refine k_iaddN C dX4_steps_211 ?_
                    refine k_aload_n C 2 dX4_steps_212 rfl rfl ?_
                    refine k_get C hinX4 0 26 rfl rfl (by decide) lk3 rfl rfl dX4_steps_213 ?_
                    refine k_iload C 0 dX4_steps_216 rfl ?_
                    refine k_ialdN C (j := ((E.2.1 j119) % 32)) 17 0 rfl rfl (by omega) (by decide) dX4_steps_218 ?_
                    refine k_icmp_geN C (by omega) (by omega) 234 dX4_steps_219 (by decide) (fun h_7 => ?_) (fun h_7 => ?_)
                    · refine k_aload_n C 2 dX4_steps_234 rfl rfl ?_
                      refine k_get C hinX4 0 26 rfl rfl (by decide) lk3 rfl rfl dX4_steps_235 ?_
                      refine k_iload C 0 dX4_steps_238 rfl ?_
                      refine k_ialdN C (j := ((E.2.1 j119) % 32)) 17 0 rfl rfl (by omega) (by decide) dX4_steps_240 ?_
                      refine k_iastN C (ws' := (wM ad cI cJ (goT bt (bt && (rngB nh q && (rngB nh s9 && (icB E.1 E.2.1 q && icB E.1 E.2.1 s9))))) pts (b2i bt) bds (nI nh) (nI F.1) (nI E.1) tx ty tz xs ys zs (nA z) (nA o) (nA p) (nA E.2.1) E.2.2.1 E.2.2.2 (nA (updN (rlx1 (rlxE E.2.1 (rlxN E.2.1 E.1 (farI g jq nh) j107) j119) (E.2.1 j119 / 32) (E.2.1 j119 % 32)) ((E.2.1 j119) % 32) ((rlx1 (rlxE E.2.1 (rlxN E.2.1 E.1 (farI g jq nh) j107) j119) (E.2.1 j119 / 32) (E.2.1 j119 % 32)) ((E.2.1 j119) % 32)))) hx hy hz F.2.1 F.2.2.1 F.2.2.2.1 F.2.2.2.2)) (j := ((E.2.1 j119) % 32)) 17 0 rfl rfl (by omega) (by decide) rfl dX4_steps_241 ?_
                      refine k_iinc C (v := (nI (j119 + 1))) (lv' := [(5, .int (nI (j119 + 1))), (7, .int (nI ((E.2.1 j119) % 32))), (6, .int (nI ((E.2.1 j119) / 32))), (0, .ref (ad 0)), (1, .int q), (2, .int s9), (4, .int (nI j107))]) 6 dX4_steps_242 rfl (nI_1 _) (by decide) rfl ?_
                      refine k_goto C 119 dX4_steps_245 (by decide) ?_
                      have w183_0 : (nA (updN (rlx1 (rlxE E.2.1 (rlxN E.2.1 E.1 (farI g jq nh) j107) j119) (E.2.1 j119 / 32) (E.2.1 j119 % 32)) ((E.2.1 j119) % 32) ((rlx1 (rlxE E.2.1 (rlxN E.2.1 E.1 (farI g jq nh) j107) j119) (E.2.1 j119 / 32) (E.2.1 j119 % 32)) ((E.2.1 j119) % 32)))) = (nA (rlxE E.2.1 (rlxN E.2.1 E.1 (farI g jq nh) j107) (j119 + 1))) := congrArg nA (rlx_neg (by assumption))
                      refine k_ws (ws' := (wM ad cI cJ (goT bt (bt && (rngB nh q && (rngB nh s9 && (icB E.1 E.2.1 q && icB E.1 E.2.1 s9))))) pts (b2i bt) bds (nI nh) (nI F.1) (nI E.1) tx ty tz xs ys zs (nA z) (nA o) (nA p) (nA E.2.1) E.2.2.1 E.2.2.2 (nA (rlxE E.2.1 (rlxN E.2.1 E.1 (farI g jq nh) j107) (j119 + 1))) hx hy hz F.2.1 F.2.2.1 F.2.2.2.1 F.2.2.2.2)) (by rw [← w183_0]) ?_
                      exact k_lv [3, 4, 5, 6, 0] rfl (ih119 (j119 + 1) (by omega) (by omega))
                    · refine k_aload_n C 2 dX4_steps_222 rfl rfl ?_
                      refine k_get C hinX4 0 26 rfl rfl (by decide) lk3 rfl rfl dX4_steps_223 ?_
                      refine k_iload C 1 dX4_steps_226 rfl ?_
                      refine k_ialdN C (j := ((E.2.1 j119) / 32)) 17 0 rfl rfl (by omega) (by decide) dX4_steps_228 ?_
                      refine k_iconst C (v := (nI 1)) dX4_steps_229 (by decide) ?_
                      refine k_iaddN C dX4_steps_230 ?_
                      refine k_goto C 241 dX4_steps_231 (by decide) ?_
                      refine k_iastN C (ws' := (wM ad cI cJ (goT bt (bt && (rngB nh q && (rngB nh s9 && (icB E.1 E.2.1 q && icB E.1 E.2.1 s9))))) pts (b2i bt) bds (nI nh) (nI F.1) (nI E.1) tx ty tz xs ys zs (nA z) (nA o) (nA p) (nA E.2.1) E.2.2.1 E.2.2.2 (nA (updN (rlx1 (rlxE E.2.1 (rlxN E.2.1 E.1 (farI g jq nh) j107) j119) (E.2.1 j119 / 32) (E.2.1 j119 % 32)) ((E.2.1 j119) % 32) (((rlx1 (rlxE E.2.1 (rlxN E.2.1 E.1 (farI g jq nh) j107) j119) (E.2.1 j119 / 32) (E.2.1 j119 % 32)) ((E.2.1 j119) / 32)) + 1))) hx hy hz F.2.1 F.2.2.1 F.2.2.2.1 F.2.2.2.2)) (j := ((E.2.1 j119) % 32)) 17 0 rfl rfl (by omega) (by decide) rfl dX4_steps_241 ?_
                      refine k_iinc C (v := (nI (j119 + 1))) (lv' := [(5, .int (nI (j119 + 1))), (7, .int (nI ((E.2.1 j119) % 32))), (6, .int (nI ((E.2.1 j119) / 32))), (0, .ref (ad 0)), (1, .int q), (2, .int s9), (4, .int (nI j107))]) 6 dX4_steps_242 rfl (nI_1 _) (by decide) rfl ?_
                      refine k_goto C 119 dX4_steps_245 (by decide) ?_
                      have w196_0 : (nA (updN (rlx1 (rlxE E.2.1 (rlxN E.2.1 E.1 (farI g jq nh) j107) j119) (E.2.1 j119 / 32) (E.2.1 j119 % 32)) ((E.2.1 j119) % 32) (((rlx1 (rlxE E.2.1 (rlxN E.2.1 E.1 (farI g jq nh) j107) j119) (E.2.1 j119 / 32) (E.2.1 j119 % 32)) ((E.2.1 j119) / 32)) + 1))) = (nA (rlxE E.2.1 (rlxN E.2.1 E.1 (farI g jq nh) j107) (j119 + 1))) := congrArg nA (rlx_pos (by assumption))
                      refine k_ws (ws' := (wM ad cI cJ (goT bt (bt && (rngB nh q && (rngB nh s9 && (icB E.1 E.2.1 q && icB E.1 E.2.1 s9))))) pts (b2i bt) bds (nI nh) (nI F.1) (nI E.1) tx ty tz xs ys zs (nA z) (nA o) (nA p) (nA E.2.1) E.2.2.1 E.2.2.2 (nA (rlxE E.2.1 (rlxN E.2.1 E.1 (farI g jq nh) j107) (j119 + 1))) hx hy hz F.2.1 F.2.2.1 F.2.2.2.1 F.2.2.2.2)) (by rw [← w196_0]) ?_
                      exact k_lv [3, 4, 5, 6, 0] rfl (ih119 (j119 + 1) (by omega) (by omega))
        · refine k_aload_n C 0 dX4_steps_79 rfl rfl ?_
          refine k_get C hinX4 0 26 rfl rfl (by decide) lk3 rfl rfl dX4_steps_80 ?_
          refine k_iload C 3 dX4_steps_83 rfl ?_
          refine k_iload C 3 dX4_steps_85 rfl ?_
          refine k_iload_n C 1 dX4_steps_87 rfl rfl ?_
          refine k_topi (nI jq) eq_ ?_
          refine k_icmp_neN C (by omega) (by omega) 95 dX4_steps_88 (by decide) (fun h_8 => ?_) (fun h_8 => ?_)
          · refine k_bipush C (v := (nI 99)) dX4_steps_95 (by decide) ?_
            refine k_iastN C (ws' := (wM ad cI cJ (goT bt (bt && (rngB nh q && (rngB nh s9 && (icB E.1 E.2.1 q && icB E.1 E.2.1 s9))))) pts (b2i bt) bds (nI nh) (nI F.1) (nI E.1) tx ty tz xs ys zs (nA z) (nA o) (nA p) (nA E.2.1) E.2.2.1 E.2.2.2 (nA (updN (farI g jq j70) j70 99)) hx hy hz F.2.1 F.2.2.1 F.2.2.2.1 F.2.2.2.2)) (j := j70) 17 0 rfl rfl (by omega) (by decide) rfl dX4_steps_97 ?_
            refine k_iinc C (v := (nI (j70 + 1))) (lv' := [(4, .int (nI (j70 + 1))), (0, .ref (ad 0)), (1, .int q), (2, .int s9)]) 3 dX4_steps_98 rfl (nI_1 _) (by decide) rfl ?_
            refine k_goto C 70 dX4_steps_101 (by decide) ?_
            have w207_0 : (nA (updN (farI g jq j70) j70 99)) = (nA (farI g jq (j70 + 1))) := by rw [farI_s, if_neg (by assumption)]
            refine k_ws (ws' := (wM ad cI cJ (goT bt (bt && (rngB nh q && (rngB nh s9 && (icB E.1 E.2.1 q && icB E.1 E.2.1 s9))))) pts (b2i bt) bds (nI nh) (nI F.1) (nI E.1) tx ty tz xs ys zs (nA z) (nA o) (nA p) (nA E.2.1) E.2.2.1 E.2.2.2 (nA (farI g jq (j70 + 1))) hx hy hz F.2.1 F.2.2.1 F.2.2.2.1 F.2.2.2.2)) (by rw [← w207_0]) ?_
            exact k_lv [1, 2, 3, 0] rfl (ih70 (j70 + 1) (by omega) (by omega))
          · refine k_iconst C (v := (nI 0)) dX4_steps_91 (by decide) ?_
            refine k_goto C 97 dX4_steps_92 (by decide) ?_
            refine k_iastN C (ws' := (wM ad cI cJ (goT bt (bt && (rngB nh q && (rngB nh s9 && (icB E.1 E.2.1 q && icB E.1 E.2.1 s9))))) pts (b2i bt) bds (nI nh) (nI F.1) (nI E.1) tx ty tz xs ys zs (nA z) (nA o) (nA p) (nA E.2.1) E.2.2.1 E.2.2.2 (nA (updN (farI g jq j70) j70 0)) hx hy hz F.2.1 F.2.2.1 F.2.2.2.1 F.2.2.2.2)) (j := j70) 17 0 rfl rfl (by omega) (by decide) rfl dX4_steps_97 ?_
            refine k_iinc C (v := (nI (j70 + 1))) (lv' := [(4, .int (nI (j70 + 1))), (0, .ref (ad 0)), (1, .int q), (2, .int s9)]) 3 dX4_steps_98 rfl (nI_1 _) (by decide) rfl ?_
            refine k_goto C 70 dX4_steps_101 (by decide) ?_
            have w215_0 : (nA (updN (farI g jq j70) j70 0)) = (nA (farI g jq (j70 + 1))) := by rw [farI_s, if_pos (by assumption)]
            refine k_ws (ws' := (wM ad cI cJ (goT bt (bt && (rngB nh q && (rngB nh s9 && (icB E.1 E.2.1 q && icB E.1 E.2.1 s9))))) pts (b2i bt) bds (nI nh) (nI F.1) (nI E.1) tx ty tz xs ys zs (nA z) (nA o) (nA p) (nA E.2.1) E.2.2.1 E.2.2.2 (nA (farI g jq (j70 + 1))) hx hy hz F.2.1 F.2.2.1 F.2.2.2.1 F.2.2.2.2)) (by rw [← w215_0]) ?_
            exact k_lv [1, 2, 3, 0] rfl (ih70 (j70 + 1) (by omega) (by omega))
    · refine k_iconst C (v := (nI 0)) dX4_steps_65 (by decide) ?_
      exact hret _ _ _ _ ⟨by rw [if_neg (by rw [h_1]; decide)]; rfl, by rw [if_neg (by rw [h_1]; decide)]⟩ dX4_steps_66
  refine k_aload_n C 0 dX4_steps_0 rfl rfl ?_
  refine k_get C hinX4 0 5 rfl rfl (by decide) lk0 rfl rfl dX4_steps_1 ?_
  refine k_if_eqB C 51 dX4_steps_4 (by decide) (fun h_9 => ?_) (fun h_9 => ?_)
  · refine k_iconst C (v := (nI 0)) dX4_steps_51 (by decide) ?_
    refine k_topi (b2i (bt && (rngB nh q && (rngB nh s9 && (icB E.1 E.2.1 q && icB E.1 E.2.1 s9))))) (by simp [rngB, b2i, nI0, nI1, h_9]) ?_
    exact k_lv [0, 1, 2] rfl (J52)
  · refine k_iload_n C 1 dX4_steps_7 rfl rfl ?_
    refine k_if_lt C 51 dX4_steps_8 (by decide) (fun h_10 => ?_) (fun h_10 => ?_)
    · refine k_iconst C (v := (nI 0)) dX4_steps_51 (by decide) ?_
      refine k_topi (b2i (bt && (rngB nh q && (rngB nh s9 && (icB E.1 E.2.1 q && icB E.1 E.2.1 s9))))) (by simp [rngB, b2i, nI0, nI1, h_9, h_10]) ?_
      exact k_lv [0, 1, 2] rfl (J52)
    · refine k_iload_n C 1 dX4_steps_11 rfl rfl ?_
      refine k_aload_n C 0 dX4_steps_12 rfl rfl ?_
      refine k_get C hinX4 0 7 rfl rfl (by decide) lk2 rfl rfl dX4_steps_13 ?_
      refine k_icmp_ge C 51 dX4_steps_16 (by decide) (fun h_11 => ?_) (fun h_11 => ?_)
      · refine k_iconst C (v := (nI 0)) dX4_steps_51 (by decide) ?_
        refine k_topi (b2i (bt && (rngB nh q && (rngB nh s9 && (icB E.1 E.2.1 q && icB E.1 E.2.1 s9))))) (by simp [rngB, b2i, nI0, nI1, h_9, h_10, h_11]) ?_
        exact k_lv [0, 1, 2] rfl (J52)
      · refine k_iload_n C 2 dX4_steps_19 rfl rfl ?_
        refine k_if_lt C 51 dX4_steps_20 (by decide) (fun h_12 => ?_) (fun h_12 => ?_)
        · refine k_iconst C (v := (nI 0)) dX4_steps_51 (by decide) ?_
          refine k_topi (b2i (bt && (rngB nh q && (rngB nh s9 && (icB E.1 E.2.1 q && icB E.1 E.2.1 s9))))) (by simp [rngB, b2i, nI0, nI1, h_9, h_10, h_11, h_12]) ?_
          exact k_lv [0, 1, 2] rfl (J52)
        · refine k_iload_n C 2 dX4_steps_23 rfl rfl ?_
          refine k_aload_n C 0 dX4_steps_24 rfl rfl ?_
          refine k_get C hinX4 0 7 rfl rfl (by decide) lk2 rfl rfl dX4_steps_25 ?_
          refine k_icmp_ge C 51 dX4_steps_28 (by decide) (fun h_13 => ?_) (fun h_13 => ?_)
          · refine k_iconst C (v := (nI 0)) dX4_steps_51 (by decide) ?_
            refine k_topi (b2i (bt && (rngB nh q && (rngB nh s9 && (icB E.1 E.2.1 q && icB E.1 E.2.1 s9))))) (by simp [rngB, b2i, nI0, nI1, h_9, h_10, h_11, h_12, h_13]) ?_
            exact k_lv [0, 1, 2] rfl (J52)
          · refine k_aload_n C 0 dX4_steps_31 rfl rfl ?_
            refine k_iload_n C 1 dX4_steps_32 rfl rfl ?_
            refine k_callVI C (ar := 1) (As := [.int q]) (rest := []) (c4_isCorner (kxL X) (kxD X) cI cJ cF cD q hEn hEv) gX4_steps_X4_isCorner rfl rfl rfl (by decide +kernel) ⟨Nat.le_of_ble_eq_true rfl, Nat.le_of_ble_eq_true rfl⟩ 0 rfl rfl rfl rfl (Nat.le_of_ble_eq_true rfl) dX4_steps_33 (Nat.zero_le _) (Nat.zero_le _) (fun r w hw => ?_)
            obtain ⟨rfl, rfl⟩ := hw
            refine k_if_eqB C 51 dX4_steps_36 (by decide) (fun h_14 => ?_) (fun h_14 => ?_)
            · refine k_iconst C (v := (nI 0)) dX4_steps_51 (by decide) ?_
              refine k_topi (b2i (bt && (rngB nh q && (rngB nh s9 && (icB E.1 E.2.1 q && icB E.1 E.2.1 s9))))) (by simp [rngB, b2i, nI0, nI1, h_9, h_10, h_11, h_12, h_13, h_14]) ?_
              exact k_lv [0, 1, 2] rfl (J52)
            · refine k_aload_n C 0 dX4_steps_39 rfl rfl ?_
              refine k_iload_n C 2 dX4_steps_40 rfl rfl ?_
              refine k_callVI C (ar := 1) (As := [.int s9]) (rest := []) (c4_isCorner (kxL X) (kxD X) cI cJ cF cD s9 hEn hEv) gX4_steps_X4_isCorner rfl rfl rfl (by decide +kernel) ⟨Nat.le_of_ble_eq_true rfl, Nat.le_of_ble_eq_true rfl⟩ 0 rfl rfl rfl rfl (Nat.le_of_ble_eq_true rfl) dX4_steps_41 (Nat.zero_le _) (Nat.zero_le _) (fun r w hw => ?_)
              obtain ⟨rfl, rfl⟩ := hw
              refine k_if_eqB C 51 dX4_steps_44 (by decide) (fun h_15 => ?_) (fun h_15 => ?_)
              · refine k_iconst C (v := (nI 0)) dX4_steps_51 (by decide) ?_
                refine k_topi (b2i (bt && (rngB nh q && (rngB nh s9 && (icB E.1 E.2.1 q && icB E.1 E.2.1 s9))))) (by simp [rngB, b2i, nI0, nI1, h_9, h_10, h_11, h_12, h_13, h_14, h_15]) ?_
                exact k_lv [0, 1, 2] rfl (J52)
              · refine k_iconst C (v := (nI 1)) dX4_steps_47 (by decide) ?_
                refine k_goto C 52 dX4_steps_48 (by decide) ?_
                refine k_topi (b2i (bt && (rngB nh q && (rngB nh s9 && (icB E.1 E.2.1 q && icB E.1 E.2.1 s9))))) (by simp [rngB, b2i, nI0, nI1, h_9, h_10, h_11, h_12, h_13, h_14, h_15]) ?_
                exact k_lv [0, 1, 2] rfl (J52)
set_option maxHeartbeats 4000000 in
set_option maxRecDepth 100000 in
theorem c4_count (l : Launch) (D : va_G) (cI cJ cF cD : ClassId) {ad : Nat → Nat} {thr bds : Int32} {tx ty tz : Int64} {xs ys zs far : Nat → Int32} {hx hy hz : Nat → Int64} {F : FT} {bt : Bool} {nh : Nat} {o z p : Nat → Nat} {E : ET} {np : Nat} (wh : Int32) (hh : nh ≤ 24) (hEn : E.1 ≤ 128) (hEv : ∀ i, E.2.1 i < 1024) : CtI l D (tyG cI cJ cF cD) yX4_count wsX4_count ({ frames := 1, cells := 0, slots := 0, locals := 23 }) [.ref (ad 0), .int wh] (wM ad cI cJ thr (nI np) (b2i bt) bds (nI nh) (nI F.1) (nI E.1) tx ty tz xs ys zs (nA z) (nA o) (nA p) (nA E.2.1) E.2.2.1 E.2.2.2 far hx hy hz F.2.1 F.2.2.1 F.2.2.2.1 F.2.2.2.2) (fun r w => r = (if whB 4 wh = true then cnV np bt F.1 E.1 (cntB nh (fun k => icB E.1 E.2.1 (nI k))) bds wh.toNatClampNeg else 0) ∧ w = (wM ad cI cJ (goT (whB 4 wh) true) (nI np) (b2i bt) bds (nI nh) (nI F.1) (nI E.1) tx ty tz xs ys zs (nA z) (nA o) (nA p) (nA E.2.1) E.2.2.1 E.2.2.2 far hx hy hz F.2.1 F.2.2.1 F.2.2.2.1 F.2.2.2.2)) := by
  refine ctI_of (cc := cX4_count) (maxL := 4) (by decide) rfl (Nat.le_of_ble_eq_true rfl) ?_
  intro X hXl hXd C hret
  have lk0 : Cond.fieldLink RX4 98 "HullBuilderModel" "held" "I" ∈ wsX4_count := by decide +kernel
  have hinX4 : ∀ w ∈ wsX40, w ∈ wsX4_count := by decide +kernel
  have lk2 : Cond.fieldLink RX4 66 "HullBuilderModel" "points" "I" ∈ wsX4_count := by decide +kernel
  have lk3 : Cond.fieldLink RX4 159 "HullBuilderModel" "built" "Z" ∈ wsX4_count := by decide +kernel
  have lk4 : Cond.fieldLink RX4 91 "HullBuilderModel" "faces" "I" ∈ wsX4_count := by decide +kernel
  have lk5 : Cond.fieldLink RX4 132 "HullBuilderModel" "edges" "I" ∈ wsX4_count := by decide +kernel
  have lk6 : Cond.fieldLink RX4 163 "HullBuilderModel" "builds" "I" ∈ wsX4_count := by decide +kernel
  show Kw X 0 0 (wM ad cI cJ thr (nI np) (b2i bt) bds (nI nh) (nI F.1) (nI E.1) tx ty tz xs ys zs (nA z) (nA o) (nA p) (nA E.2.1) E.2.2.1 E.2.2.2 far hx hy hz F.2.1 F.2.2.1 F.2.2.2.1 F.2.2.2.2) 0 [(0, .ref (ad 0)), (1, .int wh)] []
  have J15 : Kw X 0 0 (wM ad cI cJ thr (nI np) (b2i bt) bds (nI nh) (nI F.1) (nI E.1) tx ty tz xs ys zs (nA z) (nA o) (nA p) (nA E.2.1) E.2.2.1 E.2.2.2 far hx hy hz F.2.1 F.2.2.1 F.2.2.2.1 F.2.2.2.2) 15 [(0, .ref (ad 0)), (1, .int wh)] [.int (b2i (whB 4 wh)), .ref (ad 0)] := by
    refine k_iconst C (v := (nI 1)) dX4_count_15 (by decide) ?_
    refine k_callVI C (ar := 2) (As := [.int (b2i (whB 4 wh)), .int (nI 1)]) (rest := []) (c4_goes (kxL X) (kxD X) cI cJ cF cD (whB 4 wh) true) gX4_count_X4_goes rfl rfl rfl (by decide +kernel) ⟨Nat.le_of_ble_eq_true rfl, Nat.le_of_ble_eq_true rfl⟩ 0 rfl rfl rfl rfl (Nat.le_of_ble_eq_true rfl) dX4_count_16 (Nat.zero_le _) (Nat.zero_le _) (fun r w hw => ?_)
    obtain ⟨rfl, rfl⟩ := hw
    refine k_topi (b2i (whB 4 wh)) (by rw [Bool.and_true]) ?_
    refine k_if_neB C 24 dX4_count_19 (by decide) (fun h_1 => ?_) (fun h_1 => ?_)
    · have hOK := h_1
      obtain ⟨jw, hjw, ew, cw⟩ := whB_t (by decide) hOK
      refine k_iconst C (v := (nI 0)) dX4_count_24 (by decide) ?_
      refine k_istore_n C (lv' := [(2, .int (nI 0)), (0, .ref (ad 0)), (1, .int wh)]) dX4_count_25 rfl (by decide) rfl ?_
      refine k_iconst C (v := (nI 0)) dX4_count_26 (by decide) ?_
      refine k_istore_n C (lv' := [(3, .int (nI 0)), (2, .int (nI 0)), (0, .ref (ad 0)), (1, .int wh)]) dX4_count_27 rfl (by decide) rfl ?_
      suffices L28 : ∀ (n28 j28 : Nat), j28 ≤ nh → nh + 1 ≤ j28 + n28 → Kw X 0 0 (wM ad cI cJ (goT (whB 4 wh) true) (nI np) (b2i bt) bds (nI nh) (nI F.1) (nI E.1) tx ty tz xs ys zs (nA z) (nA o) (nA p) (nA E.2.1) E.2.2.1 E.2.2.2 far hx hy hz F.2.1 F.2.2.1 F.2.2.2.1 F.2.2.2.2) 28 [(0, .ref (ad 0)), (1, .int wh), (2, .int (nI (cntB j28 (fun k => icB E.1 E.2.1 (nI k))))), (3, .int (nI j28))] [] by
        have e14_0 : (nI 0) = (nI (cntB 0 (fun k => icB E.1 E.2.1 (nI k)))) := rfl
        exact k_lv [2, 3, 1, 0] (by rw [← e14_0]; rfl) (L28 (nh + 1) 0 (by omega) (by omega))
      intro n28
      induction n28 with
      | zero => intro j28 a1 a2; exact absurd a2 (by omega)
      | succ n28 ih28 =>
        intro j28 b28 c28
        refine k_iload_n C 3 dX4_count_28 rfl rfl ?_
        refine k_aload_n C 0 dX4_count_29 rfl rfl ?_
        refine k_get C hinX4 0 7 rfl rfl (by decide) lk0 rfl rfl dX4_count_30 ?_
        refine k_icmp_geN C (by omega) (by omega) 58 dX4_count_33 (by decide) (fun h_2 => ?_) (fun h_2 => ?_)
        · have ej : nh = j28 := by omega
          subst ej
          refine k_lv (lv' := [(0, .ref (ad 0)), (1, .int wh), (2, .int (nI (cntB nh (fun k => icB E.1 E.2.1 (nI k))))), (3, .int (nI nh))]) [0, 1, 2, 3] rfl ?_
          refine k_iload_n C 1 dX4_count_58 rfl rfl ?_
          refine k_topi (nI jw) ew ?_
          rcases (show jw = 0 ∨ jw = 1 ∨ jw = 2 ∨ jw = 3 ∨ jw = 4 by omega) with hsw | hsw | hsw | hsw | hsw
          · refine k_topi (nI 0) (by rw [hsw]) ?_
            refine k_tableIn C 88 dX4_count_59 (by decide) (by decide) rfl (by decide) ?_
            refine k_aload_n C 0 dX4_count_88 rfl rfl ?_
            refine k_get C hinX4 0 1 rfl rfl (by decide) lk2 rfl rfl dX4_count_89 ?_
            exact hret _ _ _ _ ⟨by rw [if_pos hOK, cw]; simp [cnV, nI0, hsw, h_2, hsw], rfl⟩ dX4_count_92
          · refine k_topi (nI 1) (by rw [hsw]) ?_
            refine k_tableIn C 93 dX4_count_59 (by decide) (by decide) rfl (by decide) ?_
            refine k_aload_n C 0 dX4_count_93 rfl rfl ?_
            refine k_get C hinX4 0 5 rfl rfl (by decide) lk3 rfl rfl dX4_count_94 ?_
            refine k_if_eqB C 107 dX4_count_97 (by decide) (fun h_3 => ?_) (fun h_3 => ?_)
            · refine k_iconst C (v := (nI 0)) dX4_count_107 (by decide) ?_
              exact hret _ _ _ _ ⟨by rw [if_pos hOK, cw]; simp [cnV, nI0, hsw, h_2, hsw, h_3], rfl⟩ dX4_count_108
            · refine k_aload_n C 0 dX4_count_100 rfl rfl ?_
              refine k_get C hinX4 0 11 rfl rfl (by decide) lk4 rfl rfl dX4_count_101 ?_
              refine k_goto C 108 dX4_count_104 (by decide) ?_
              exact hret _ _ _ _ ⟨by rw [if_pos hOK, cw]; simp [cnV, nI0, hsw, h_2, hsw, h_3], rfl⟩ dX4_count_108
          · refine k_topi (nI 2) (by rw [hsw]) ?_
            refine k_tableIn C 109 dX4_count_59 (by decide) (by decide) rfl (by decide) ?_
            refine k_aload_n C 0 dX4_count_109 rfl rfl ?_
            refine k_get C hinX4 0 5 rfl rfl (by decide) lk3 rfl rfl dX4_count_110 ?_
            refine k_if_eqB C 123 dX4_count_113 (by decide) (fun h_4 => ?_) (fun h_4 => ?_)
            · refine k_iconst C (v := (nI 0)) dX4_count_123 (by decide) ?_
              exact hret _ _ _ _ ⟨by rw [if_pos hOK, cw]; simp [cnV, nI0, hsw, h_2, hsw, h_4], rfl⟩ dX4_count_124
            · refine k_aload_n C 0 dX4_count_116 rfl rfl ?_
              refine k_get C hinX4 0 19 rfl rfl (by decide) lk5 rfl rfl dX4_count_117 ?_
              refine k_goto C 124 dX4_count_120 (by decide) ?_
              exact hret _ _ _ _ ⟨by rw [if_pos hOK, cw]; simp [cnV, nI0, hsw, h_2, hsw, h_4], rfl⟩ dX4_count_124
          · refine k_topi (nI 3) (by rw [hsw]) ?_
            refine k_tableIn C 125 dX4_count_59 (by decide) (by decide) rfl (by decide) ?_
            refine k_aload_n C 0 dX4_count_125 rfl rfl ?_
            refine k_get C hinX4 0 5 rfl rfl (by decide) lk3 rfl rfl dX4_count_126 ?_
            refine k_if_eqB C 136 dX4_count_129 (by decide) (fun h_5 => ?_) (fun h_5 => ?_)
            · refine k_iconst C (v := (nI 0)) dX4_count_136 (by decide) ?_
              exact hret _ _ _ _ ⟨by rw [if_pos hOK, cw]; simp [cnV, nI0, hsw, h_2, hsw, h_5], rfl⟩ dX4_count_137
            · refine k_iload_n C 2 dX4_count_132 rfl rfl ?_
              refine k_goto C 137 dX4_count_133 (by decide) ?_
              exact hret _ _ _ _ ⟨by rw [if_pos hOK, cw]; simp [cnV, nI0, hsw, h_2, hsw, h_5], rfl⟩ dX4_count_137
          · refine k_topi (nI 4) (by rw [hsw]) ?_
            refine k_tableOut C 138 dX4_count_59 (by decide) (by decide) ?_
            refine k_aload_n C 0 dX4_count_138 rfl rfl ?_
            refine k_get C hinX4 0 6 rfl rfl (by decide) lk6 rfl rfl dX4_count_139 ?_
            exact hret _ _ _ _ ⟨by rw [if_pos hOK, cw]; simp [cnV, nI0, hsw, h_2, hsw], rfl⟩ dX4_count_142
        · refine k_aload_n C 0 dX4_count_36 rfl rfl ?_
          refine k_iload_n C 3 dX4_count_37 rfl rfl ?_
          refine k_callVI C (ar := 1) (As := [.int (nI j28)]) (rest := []) (c4_isCorner (kxL X) (kxD X) cI cJ cF cD (nI j28) hEn hEv) gX4_count_X4_isCorner rfl rfl rfl (by decide +kernel) ⟨Nat.le_of_ble_eq_true rfl, Nat.le_of_ble_eq_true rfl⟩ 0 rfl rfl rfl rfl (Nat.le_of_ble_eq_true rfl) dX4_count_38 (Nat.zero_le _) (Nat.zero_le _) (fun r w hw => ?_)
          obtain ⟨rfl, rfl⟩ := hw
          refine k_if_eqB C 50 dX4_count_41 (by decide) (fun h_6 => ?_) (fun h_6 => ?_)
          · refine k_iload_n C 2 dX4_count_50 rfl rfl ?_
            refine k_istore_n C (lv' := [(2, .int (nI (cntB j28 (fun k => icB E.1 E.2.1 (nI k))))), (0, .ref (ad 0)), (1, .int wh), (3, .int (nI j28))]) dX4_count_51 rfl (by decide) rfl ?_
            refine k_iinc C (v := (nI (j28 + 1))) (lv' := [(3, .int (nI (j28 + 1))), (2, .int (nI (cntB j28 (fun k => icB E.1 E.2.1 (nI k))))), (0, .ref (ad 0)), (1, .int wh)]) 3 dX4_count_52 rfl (nI_1 _) (by decide) rfl ?_
            refine k_goto C 28 dX4_count_55 (by decide) ?_
            have e84_0 : (nI (cntB j28 (fun k => icB E.1 E.2.1 (nI k)))) = (nI (cntB (j28 + 1) (fun k => icB E.1 E.2.1 (nI k)))) := by rw [cntB_s, if_neg (by simp [h_2, h_6])]; rfl
            exact k_lv [2, 3, 1, 0] (by rw [← e84_0]; rfl) (ih28 (j28 + 1) (by omega) (by omega))
          · refine k_iload_n C 2 dX4_count_44 rfl rfl ?_
            refine k_iconst C (v := (nI 1)) dX4_count_45 (by decide) ?_
            refine k_iaddN C dX4_count_46 ?_
            refine k_goto C 51 dX4_count_47 (by decide) ?_
            refine k_istore_n C (lv' := [(2, .int (nI ((cntB j28 (fun k => icB E.1 E.2.1 (nI k))) + 1))), (0, .ref (ad 0)), (1, .int wh), (3, .int (nI j28))]) dX4_count_51 rfl (by decide) rfl ?_
            refine k_iinc C (v := (nI (j28 + 1))) (lv' := [(3, .int (nI (j28 + 1))), (2, .int (nI ((cntB j28 (fun k => icB E.1 E.2.1 (nI k))) + 1))), (0, .ref (ad 0)), (1, .int wh)]) 3 dX4_count_52 rfl (nI_1 _) (by decide) rfl ?_
            refine k_goto C 28 dX4_count_55 (by decide) ?_
            have e93_0 : (nI ((cntB j28 (fun k => icB E.1 E.2.1 (nI k))) + 1)) = (nI (cntB (j28 + 1) (fun k => icB E.1 E.2.1 (nI k)))) := by rw [cntB_s, if_pos (by simp [h_2, h_6])]
            exact k_lv [2, 3, 1, 0] (by rw [← e93_0]; rfl) (ih28 (j28 + 1) (by omega) (by omega))
    · refine k_iconst C (v := (nI 0)) dX4_count_22 (by decide) ?_
      exact hret _ _ _ _ ⟨by rw [if_neg (by rw [h_1]; decide)]; rfl, rfl⟩ dX4_count_23
  refine k_aload_n C 0 dX4_count_0 rfl rfl ?_
  refine k_iload_n C 1 dX4_count_1 rfl rfl ?_
  refine k_if_lt C 14 dX4_count_2 (by decide) (fun h_7 => ?_) (fun h_7 => ?_)
  · refine k_iconst C (v := (nI 0)) dX4_count_14 (by decide) ?_
    refine k_topi (b2i (whB 4 wh)) (by simp [rngB, whB, b2i, nI0, nI1, h_7]) ?_
    exact k_lv [0, 1] rfl (J15)
  · refine k_iload_n C 1 dX4_count_5 rfl rfl ?_
    refine k_iconst C (v := (nI 4)) dX4_count_6 (by decide) ?_
    refine k_icmp_gt C 14 dX4_count_7 (by decide) (fun h_8 => ?_) (fun h_8 => ?_)
    · refine k_iconst C (v := (nI 0)) dX4_count_14 (by decide) ?_
      refine k_topi (b2i (whB 4 wh)) (by simp [rngB, whB, b2i, nI0, nI1, h_7, h_8]) ?_
      exact k_lv [0, 1] rfl (J15)
    · refine k_iconst C (v := (nI 1)) dX4_count_10 (by decide) ?_
      refine k_goto C 15 dX4_count_11 (by decide) ?_
      refine k_topi (b2i (whB 4 wh)) (by simp [rngB, whB, b2i, nI0, nI1, h_7, h_8]) ?_
      exact k_lv [0, 1] rfl (J15)
set_option maxHeartbeats 4000000 in
set_option maxRecDepth 100000 in
theorem c4_point (l : Launch) (D : va_G) (cI cJ cF cD : ClassId) {ad : Nat → Nat} {thr blt bds hld fcs egs : Int32} {tx ty tz : Int64} {xs ys zs szs crn odr nds lfs rts far : Nat → Int32} {hx hy hz nx ny nz ofs : Nat → Int64} {np : Nat} (x y z : Int32) (hnp : np ≤ 24) : CtI l D (tyG cI cJ cF cD) yX4_point wsX4_point ({ frames := 1, cells := 0, slots := 0, locals := 25 }) [.ref (ad 0), .int x, .int y, .int z] (wM ad cI cJ thr (nI np) blt bds hld fcs egs tx ty tz xs ys zs szs crn odr nds lfs rts far hx hy hz nx ny nz ofs) (fun r w => r = (if (ptB np xs ys zs x y z && decide (np < 24)) = true then nI np else 0) ∧ w = (wM ad cI cJ (goT (ptB np xs ys zs x y z) (decide (np < 24))) (nI (if (ptB np xs ys zs x y z && decide (np < 24)) = true then np + 1 else np)) blt bds hld fcs egs tx ty tz (if (ptB np xs ys zs x y z && decide (np < 24)) = true then upd xs np x else xs) (if (ptB np xs ys zs x y z && decide (np < 24)) = true then upd ys np y else ys) (if (ptB np xs ys zs x y z && decide (np < 24)) = true then upd zs np z else zs) szs crn odr nds lfs rts far hx hy hz nx ny nz ofs)) := by
  refine ctI_of (cc := cX4_point) (maxL := 5) (by decide) rfl (Nat.le_of_ble_eq_true rfl) ?_
  intro X hXl hXd C hret
  have lk0 : Cond.fieldLink RX4 7 "HullBuilderModel" "xs" "[I" ∈ wsX4_point := by decide +kernel
  have hinX4 : ∀ w ∈ wsX40, w ∈ wsX4_point := by decide +kernel
  have lk2 : Cond.fieldLink RX4 66 "HullBuilderModel" "points" "I" ∈ wsX4_point := by decide +kernel
  have lk3 : Cond.fieldLink RX4 13 "HullBuilderModel" "ys" "[I" ∈ wsX4_point := by decide +kernel
  have lk4 : Cond.fieldLink RX4 16 "HullBuilderModel" "zs" "[I" ∈ wsX4_point := by decide +kernel
  show Kw X 0 0 (wM ad cI cJ thr (nI np) blt bds hld fcs egs tx ty tz xs ys zs szs crn odr nds lfs rts far hx hy hz nx ny nz ofs) 0 [(0, .ref (ad 0)), (1, .int x), (2, .int y), (3, .int z)] []
  have J45 : Kw X 0 0 (wM ad cI cJ thr (nI np) blt bds hld fcs egs tx ty tz xs ys zs szs crn odr nds lfs rts far hx hy hz nx ny nz ofs) 45 [(0, .ref (ad 0)), (1, .int x), (2, .int y), (3, .int z)] [.int (b2i (ptB np xs ys zs x y z))] := by
    refine k_istore C (lv' := [(4, .int (b2i (ptB np xs ys zs x y z))), (0, .ref (ad 0)), (1, .int x), (2, .int y), (3, .int z)]) dX4_point_45 (by decide) rfl ?_
    refine k_aload_n C 1 dX4_point_47 rfl rfl ?_
    refine k_iload C 0 dX4_point_48 rfl ?_
    have J64 : Kw X 0 0 (wM ad cI cJ thr (nI np) blt bds hld fcs egs tx ty tz xs ys zs szs crn odr nds lfs rts far hx hy hz nx ny nz ofs) 64 [(4, .int (b2i (ptB np xs ys zs x y z))), (0, .ref (ad 0)), (1, .int x), (2, .int y), (3, .int z)] [.int (b2i (decide (np < 24))), .int (b2i (ptB np xs ys zs x y z)), .ref (ad 0)] := by
      refine k_callVI C (ar := 2) (As := [.int (b2i (ptB np xs ys zs x y z)), .int (b2i (decide (np < 24)))]) (rest := []) (c4_goes (kxL X) (kxD X) cI cJ cF cD (ptB np xs ys zs x y z) (decide (np < 24))) gX4_point_X4_goes rfl rfl rfl (by decide +kernel) ⟨Nat.le_of_ble_eq_true rfl, Nat.le_of_ble_eq_true rfl⟩ 0 rfl rfl rfl rfl (Nat.le_of_ble_eq_true rfl) dX4_point_64 (Nat.zero_le _) (Nat.zero_le _) (fun r w hw => ?_)
      obtain ⟨rfl, rfl⟩ := hw
      refine k_if_neB C 72 dX4_point_67 (by decide) (fun h_1 => ?_) (fun h_1 => ?_)
      · have hOK := h_1
        simp only [Bool.and_eq_true, decide_eq_true_eq] at hOK
        refine k_aload_n C 1 dX4_point_72 rfl rfl ?_
        refine k_get C hinX4 0 2 rfl rfl (by decide) lk0 rfl rfl dX4_point_73 ?_
        refine k_aload_n C 1 dX4_point_76 rfl rfl ?_
        refine k_get C hinX4 0 1 rfl rfl (by decide) lk2 rfl rfl dX4_point_77 ?_
        refine k_iload_n C 2 dX4_point_80 rfl rfl ?_
        refine k_iast C (ws' := (wM ad cI cJ (goT (ptB np xs ys zs x y z) (decide (np < 24))) (nI np) blt bds hld fcs egs tx ty tz (upd xs np x) ys zs szs crn odr nds lfs rts far hx hy hz nx ny nz ofs)) (j := np) 1 0 rfl rfl (by omega) (by decide) rfl dX4_point_81 ?_
        refine k_aload_n C 1 dX4_point_82 rfl rfl ?_
        refine k_get C hinX4 0 3 rfl rfl (by decide) lk3 rfl rfl dX4_point_83 ?_
        refine k_aload_n C 1 dX4_point_86 rfl rfl ?_
        refine k_get C hinX4 0 1 rfl rfl (by decide) lk2 rfl rfl dX4_point_87 ?_
        refine k_iload_n C 3 dX4_point_90 rfl rfl ?_
        refine k_iast C (ws' := (wM ad cI cJ (goT (ptB np xs ys zs x y z) (decide (np < 24))) (nI np) blt bds hld fcs egs tx ty tz (upd xs np x) (upd ys np y) zs szs crn odr nds lfs rts far hx hy hz nx ny nz ofs)) (j := np) 2 0 rfl rfl (by omega) (by decide) rfl dX4_point_91 ?_
        refine k_aload_n C 1 dX4_point_92 rfl rfl ?_
        refine k_get C hinX4 0 4 rfl rfl (by decide) lk4 rfl rfl dX4_point_93 ?_
        refine k_aload_n C 1 dX4_point_96 rfl rfl ?_
        refine k_get C hinX4 0 1 rfl rfl (by decide) lk2 rfl rfl dX4_point_97 ?_
        refine k_iload_n C 4 dX4_point_100 rfl rfl ?_
        refine k_iast C (ws' := (wM ad cI cJ (goT (ptB np xs ys zs x y z) (decide (np < 24))) (nI np) blt bds hld fcs egs tx ty tz (upd xs np x) (upd ys np y) (upd zs np z) szs crn odr nds lfs rts far hx hy hz nx ny nz ofs)) (j := np) 3 0 rfl rfl (by omega) (by decide) rfl dX4_point_101 ?_
        refine k_aload_n C 1 dX4_point_102 rfl rfl ?_
        refine k_dup C dX4_point_103 rfl ?_
        refine k_get C hinX4 0 1 rfl rfl (by decide) lk2 rfl rfl dX4_point_104 ?_
        refine k_iconst C (v := (nI 1)) dX4_point_107 (by decide) ?_
        refine k_iaddN C dX4_point_108 ?_
        refine k_put C (ws' := (wM ad cI cJ (goT (ptB np xs ys zs x y z) (decide (np < 24))) (nI (np + 1)) blt bds hld fcs egs tx ty tz (upd xs np x) (upd ys np y) (upd zs np z) szs crn odr nds lfs rts far hx hy hz nx ny nz ofs)) hinX4 tyX4 tyX4_ok nmX4 0 1 rfl rfl (by decide) lk2 rfl rfl rfl rfl (Nat.le_of_ble_eq_true rfl) rfl dX4_point_109 ?_
        refine k_aload_n C 1 dX4_point_112 rfl rfl ?_
        refine k_get C hinX4 0 1 rfl rfl (by decide) lk2 rfl rfl dX4_point_113 ?_
        refine k_iconst C (v := (nI 1)) dX4_point_116 (by decide) ?_
        refine k_isubN C (by omega) dX4_point_117 ?_
        refine k_topi (nI np) (by rw [Nat.add_sub_cancel]) ?_
        exact hret _ _ _ _ ⟨by rw [if_pos (by simp only [Bool.and_eq_true, decide_eq_true_eq]; exact hOK)], by simp only [if_pos (show (ptB np xs ys zs x y z && decide (np < 24)) = true by simp only [Bool.and_eq_true, decide_eq_true_eq]; exact hOK)]⟩ dX4_point_118
      · refine k_iconst C (v := (nI 0)) dX4_point_70 (by decide) ?_
        exact hret _ _ _ _ ⟨by rw [if_neg (by rw [h_1]; decide)]; rfl, by simp only [if_neg (show ¬ (ptB np xs ys zs x y z && decide (np < 24)) = true by rw [h_1]; decide)]⟩ dX4_point_71
    refine k_aload_n C 1 dX4_point_50 rfl rfl ?_
    refine k_get C hinX4 0 1 rfl rfl (by decide) lk2 rfl rfl dX4_point_51 ?_
    refine k_bipush C (v := (nI 24)) dX4_point_54 (by decide) ?_
    refine k_icmp_geN C (by omega) (by omega) 63 dX4_point_56 (by decide) (fun h_2 => ?_) (fun h_2 => ?_)
    · refine k_iconst C (v := (nI 0)) dX4_point_63 (by decide) ?_
      refine k_topi (b2i (decide (np < 24))) (by simp [b2i, nI0, nI1, h_2]) ?_
      exact k_lv [0, 1, 2, 3, 4] rfl (J64)
    · refine k_iconst C (v := (nI 1)) dX4_point_59 (by decide) ?_
      refine k_goto C 64 dX4_point_60 (by decide) ?_
      refine k_topi (b2i (decide (np < 24))) (by simp [b2i, nI0, nI1, h_2]) ?_
      exact k_lv [0, 1, 2, 3, 4] rfl (J64)
  refine k_iload_n C 1 dX4_point_0 rfl rfl ?_
  refine k_sipush C (v := (nI 512)) dX4_point_1 (by decide) ?_
  refine k_callSI C (ar := 2) (As := [.int x, .int (nI 512)]) (rest := []) (c4_within (kxL X) (kxD X) cI cJ cF cD x (nI 512)) gX4_point_X4_within rfl rfl rfl (by decide +kernel) ⟨Nat.le_of_ble_eq_true rfl, Nat.le_of_ble_eq_true rfl⟩ rfl rfl (Nat.le_of_ble_eq_true rfl) dX4_point_4 (Nat.zero_le _) (Nat.zero_le _) (fun r w hw => ?_)
  obtain ⟨rfl, rfl⟩ := hw
  refine k_if_eqB C 44 dX4_point_7 (by decide) (fun h_3 => ?_) (fun h_3 => ?_)
  · refine k_iconst C (v := (nI 0)) dX4_point_44 (by decide) ?_
    refine k_topi (b2i (ptB np xs ys zs x y z)) (by simp [ptB, b2i, nI0, nI1, h_3]) ?_
    exact k_lv [0, 1, 2, 3] rfl (J45)
  · refine k_iload_n C 2 dX4_point_10 rfl rfl ?_
    refine k_sipush C (v := (nI 512)) dX4_point_11 (by decide) ?_
    refine k_callSI C (ar := 2) (As := [.int y, .int (nI 512)]) (rest := []) (c4_within (kxL X) (kxD X) cI cJ cF cD y (nI 512)) gX4_point_X4_within rfl rfl rfl (by decide +kernel) ⟨Nat.le_of_ble_eq_true rfl, Nat.le_of_ble_eq_true rfl⟩ rfl rfl (Nat.le_of_ble_eq_true rfl) dX4_point_14 (Nat.zero_le _) (Nat.zero_le _) (fun r w hw => ?_)
    obtain ⟨rfl, rfl⟩ := hw
    refine k_if_eqB C 44 dX4_point_17 (by decide) (fun h_4 => ?_) (fun h_4 => ?_)
    · refine k_iconst C (v := (nI 0)) dX4_point_44 (by decide) ?_
      refine k_topi (b2i (ptB np xs ys zs x y z)) (by simp [ptB, b2i, nI0, nI1, h_3, h_4]) ?_
      exact k_lv [0, 1, 2, 3] rfl (J45)
    · refine k_iload_n C 3 dX4_point_20 rfl rfl ?_
      refine k_sipush C (v := (nI 512)) dX4_point_21 (by decide) ?_
      refine k_callSI C (ar := 2) (As := [.int z, .int (nI 512)]) (rest := []) (c4_within (kxL X) (kxD X) cI cJ cF cD z (nI 512)) gX4_point_X4_within rfl rfl rfl (by decide +kernel) ⟨Nat.le_of_ble_eq_true rfl, Nat.le_of_ble_eq_true rfl⟩ rfl rfl (Nat.le_of_ble_eq_true rfl) dX4_point_24 (Nat.zero_le _) (Nat.zero_le _) (fun r w hw => ?_)
      obtain ⟨rfl, rfl⟩ := hw
      refine k_if_eqB C 44 dX4_point_27 (by decide) (fun h_5 => ?_) (fun h_5 => ?_)
      · refine k_iconst C (v := (nI 0)) dX4_point_44 (by decide) ?_
        refine k_topi (b2i (ptB np xs ys zs x y z)) (by simp [ptB, b2i, nI0, nI1, h_3, h_4, h_5]) ?_
        exact k_lv [0, 1, 2, 3] rfl (J45)
      · refine k_aload_n C 0 dX4_point_30 rfl rfl ?_
        refine k_iload_n C 1 dX4_point_31 rfl rfl ?_
        refine k_iload_n C 2 dX4_point_32 rfl rfl ?_
        refine k_iload_n C 3 dX4_point_33 rfl rfl ?_
        refine k_callVI C (ar := 3) (As := [.int x, .int y, .int z]) (rest := []) (c4_taken (kxL X) (kxD X) cI cJ cF cD x y z (by omega)) gX4_point_X4_taken rfl rfl rfl (by decide +kernel) ⟨Nat.le_of_ble_eq_true rfl, Nat.le_of_ble_eq_true rfl⟩ 0 rfl rfl rfl rfl (Nat.le_of_ble_eq_true rfl) dX4_point_34 (Nat.zero_le _) (Nat.zero_le _) (fun r w hw => ?_)
        obtain ⟨rfl, rfl⟩ := hw
        refine k_if_neB C 44 dX4_point_37 (by decide) (fun h_6 => ?_) (fun h_6 => ?_)
        · refine k_iconst C (v := (nI 0)) dX4_point_44 (by decide) ?_
          refine k_topi (b2i (ptB np xs ys zs x y z)) (by simp [ptB, b2i, nI0, nI1, h_3, h_4, h_5, h_6]) ?_
          exact k_lv [0, 1, 2, 3] rfl (J45)
        · refine k_iconst C (v := (nI 1)) dX4_point_40 (by decide) ?_
          refine k_goto C 45 dX4_point_41 (by decide) ?_
          refine k_topi (b2i (ptB np xs ys zs x y z)) (by simp [ptB, b2i, nI0, nI1, h_3, h_4, h_5, h_6]) ?_
          exact k_lv [0, 1, 2, 3] rfl (J45)
set_option maxHeartbeats 4000000 in
set_option maxRecDepth 100000 in
theorem c4_take (l : Launch) (D : va_G) (cI cJ cF cD : ClassId) {ad : Nat → Nat} {thr blt bds hld fcs egs : Int32} {tx ty tz : Int64} {xs ys zs szs crn odr nds lfs rts far : Nat → Int32} {hx hy hz nx ny nz ofs : Nat → Int64} {np : Nat} (q : Int32) (hnp : np ≤ 24) : CtI l D (tyG cI cJ cF cD) yX4_take wsX4_take ({ frames := 1, cells := 0, slots := 0, locals := 22 }) [.ref (ad 0), .int q] (wM ad cI cJ thr (nI np) blt bds hld fcs egs tx ty tz xs ys zs szs crn odr nds lfs rts far hx hy hz nx ny nz ofs) (fun r w => r = (if rngB np q = true then nI (np - 1) else 0) ∧ w = (wM ad cI cJ (goT (rngB np q) true) (nI (if rngB np q = true then np - 1 else np)) blt bds hld fcs egs tx ty tz (if rngB np q = true then shfJ xs q.toNatClampNeg (np - 1) else xs) (if rngB np q = true then shfJ ys q.toNatClampNeg (np - 1) else ys) (if rngB np q = true then shfJ zs q.toNatClampNeg (np - 1) else zs) szs crn odr nds lfs rts far hx hy hz nx ny nz ofs)) := by
  refine ctI_of (cc := cX4_take) (maxL := 3) (by decide) rfl (Nat.le_of_ble_eq_true rfl) ?_
  intro X hXl hXd C hret
  have lk0 : Cond.fieldLink RX4 66 "HullBuilderModel" "points" "I" ∈ wsX4_take := by decide +kernel
  have hinX4 : ∀ w ∈ wsX40, w ∈ wsX4_take := by decide +kernel
  have lk2 : Cond.fieldLink RX4 7 "HullBuilderModel" "xs" "[I" ∈ wsX4_take := by decide +kernel
  have lk3 : Cond.fieldLink RX4 13 "HullBuilderModel" "ys" "[I" ∈ wsX4_take := by decide +kernel
  have lk4 : Cond.fieldLink RX4 16 "HullBuilderModel" "zs" "[I" ∈ wsX4_take := by decide +kernel
  show Kw X 0 0 (wM ad cI cJ thr (nI np) blt bds hld fcs egs tx ty tz xs ys zs szs crn odr nds lfs rts far hx hy hz nx ny nz ofs) 0 [(0, .ref (ad 0)), (1, .int q)] []
  have J18 : Kw X 0 0 (wM ad cI cJ thr (nI np) blt bds hld fcs egs tx ty tz xs ys zs szs crn odr nds lfs rts far hx hy hz nx ny nz ofs) 18 [(0, .ref (ad 0)), (1, .int q)] [.int (b2i (rngB np q)), .ref (ad 0)] := by
    refine k_iconst C (v := (nI 1)) dX4_take_18 (by decide) ?_
    refine k_callVI C (ar := 2) (As := [.int (b2i (rngB np q)), .int (nI 1)]) (rest := []) (c4_goes (kxL X) (kxD X) cI cJ cF cD (rngB np q) true) gX4_take_X4_goes rfl rfl rfl (by decide +kernel) ⟨Nat.le_of_ble_eq_true rfl, Nat.le_of_ble_eq_true rfl⟩ 0 rfl rfl rfl rfl (Nat.le_of_ble_eq_true rfl) dX4_take_19 (Nat.zero_le _) (Nat.zero_le _) (fun r w hw => ?_)
    obtain ⟨rfl, rfl⟩ := hw
    refine k_topi (b2i (rngB np q)) (by rw [Bool.and_true]) ?_
    refine k_if_neB C 27 dX4_take_22 (by decide) (fun h_1 => ?_) (fun h_1 => ?_)
    · have hOK := h_1
      obtain ⟨jq, hjq, eq_, cq⟩ := rngB_t (by omega) hOK
      refine k_iload_n C 1 dX4_take_27 rfl rfl ?_
      refine k_topi (nI jq) eq_ ?_
      refine k_istore_n C (lv' := [(2, .int (nI jq)), (0, .ref (ad 0)), (1, .int q)]) dX4_take_28 rfl (by decide) rfl ?_
      suffices L29 : ∀ (n29 j29 : Nat), j29 ≤ (np - 1) → (np - 1) + 1 ≤ j29 + n29 → jq ≤ j29 → Kw X 0 0 (wM ad cI cJ (goT (rngB np q) true) (nI np) blt bds hld fcs egs tx ty tz (shfJ xs jq j29) (shfJ ys jq j29) (shfJ zs jq j29) szs crn odr nds lfs rts far hx hy hz nx ny nz ofs) 29 [(0, .ref (ad 0)), (1, .int q), (2, .int (nI j29))] [] by
        have w13_0 : xs = (shfJ xs jq jq) := (shfJ_0 _ _).symm
        have w14_1 : ys = (shfJ ys jq jq) := (shfJ_0 _ _).symm
        have w15_2 : zs = (shfJ zs jq jq) := (shfJ_0 _ _).symm
        refine k_ws (ws' := (wM ad cI cJ (goT (rngB np q) true) (nI np) blt bds hld fcs egs tx ty tz (shfJ xs jq jq) (shfJ ys jq jq) (shfJ zs jq jq) szs crn odr nds lfs rts far hx hy hz nx ny nz ofs)) (by rw [← w13_0, ← w14_1, ← w15_2]) ?_
        exact k_lv [1, 2, 0] rfl (L29 ((np - 1) + 1) jq (by omega) (by omega) (Nat.le_refl _))
      intro n29
      induction n29 with
      | zero => intro j29 a1 a2; exact absurd a2 (by omega)
      | succ n29 ih29 =>
        intro j29 b29 c29 g29_0
        refine k_iload_n C 2 dX4_take_29 rfl rfl ?_
        refine k_iconst C (v := (nI 1)) dX4_take_30 (by decide) ?_
        refine k_iaddN C dX4_take_31 ?_
        refine k_aload_n C 0 dX4_take_32 rfl rfl ?_
        refine k_get C hinX4 0 1 rfl rfl (by decide) lk0 rfl rfl dX4_take_33 ?_
        refine k_icmp_geN C (by omega) (by omega) 87 dX4_take_36 (by decide) (fun h_2 => ?_) (fun h_2 => ?_)
        · refine k_aload_n C 0 dX4_take_87 rfl rfl ?_
          refine k_dup C dX4_take_88 rfl ?_
          refine k_get C hinX4 0 1 rfl rfl (by decide) lk0 rfl rfl dX4_take_89 ?_
          refine k_iconst C (v := (nI 1)) dX4_take_92 (by decide) ?_
          refine k_isubN C (by omega) dX4_take_93 ?_
          refine k_put C (ws' := (wM ad cI cJ (goT (rngB np q) true) (nI (np - 1)) blt bds hld fcs egs tx ty tz (shfJ xs jq j29) (shfJ ys jq j29) (shfJ zs jq j29) szs crn odr nds lfs rts far hx hy hz nx ny nz ofs)) hinX4 tyX4 tyX4_ok nmX4 0 1 rfl rfl (by decide) lk0 rfl rfl rfl rfl (Nat.le_of_ble_eq_true rfl) rfl dX4_take_94 ?_
          refine k_aload_n C 0 dX4_take_97 rfl rfl ?_
          refine k_get C hinX4 0 1 rfl rfl (by decide) lk0 rfl rfl dX4_take_98 ?_
          exact hret _ _ _ _ ⟨by rw [if_pos hOK], by simp only [if_pos hOK, cq, show j29 = np - 1 by omega]⟩ dX4_take_101
        · refine k_aload_n C 0 dX4_take_39 rfl rfl ?_
          refine k_get C hinX4 0 2 rfl rfl (by decide) lk2 rfl rfl dX4_take_40 ?_
          refine k_iload_n C 2 dX4_take_43 rfl rfl ?_
          refine k_aload_n C 0 dX4_take_44 rfl rfl ?_
          refine k_get C hinX4 0 2 rfl rfl (by decide) lk2 rfl rfl dX4_take_45 ?_
          refine k_iload_n C 2 dX4_take_48 rfl rfl ?_
          refine k_iconst C (v := (nI 1)) dX4_take_49 (by decide) ?_
          refine k_iaddN C dX4_take_50 ?_
          refine k_iald C (j := (j29 + 1)) 1 0 rfl rfl (by omega) (by decide) dX4_take_51 ?_
          refine k_iast C (ws' := (wM ad cI cJ (goT (rngB np q) true) (nI np) blt bds hld fcs egs tx ty tz (upd (shfJ xs jq j29) j29 ((shfJ xs jq j29) (j29 + 1))) (shfJ ys jq j29) (shfJ zs jq j29) szs crn odr nds lfs rts far hx hy hz nx ny nz ofs)) (j := j29) 1 0 rfl rfl (by omega) (by decide) rfl dX4_take_52 ?_
          refine k_aload_n C 0 dX4_take_53 rfl rfl ?_
          refine k_get C hinX4 0 3 rfl rfl (by decide) lk3 rfl rfl dX4_take_54 ?_
          refine k_iload_n C 2 dX4_take_57 rfl rfl ?_
          refine k_aload_n C 0 dX4_take_58 rfl rfl ?_
          refine k_get C hinX4 0 3 rfl rfl (by decide) lk3 rfl rfl dX4_take_59 ?_
          refine k_iload_n C 2 dX4_take_62 rfl rfl ?_
          refine k_iconst C (v := (nI 1)) dX4_take_63 (by decide) ?_
          refine k_iaddN C dX4_take_64 ?_
          refine k_iald C (j := (j29 + 1)) 2 0 rfl rfl (by omega) (by decide) dX4_take_65 ?_
          refine k_iast C (ws' := (wM ad cI cJ (goT (rngB np q) true) (nI np) blt bds hld fcs egs tx ty tz (upd (shfJ xs jq j29) j29 ((shfJ xs jq j29) (j29 + 1))) (upd (shfJ ys jq j29) j29 ((shfJ ys jq j29) (j29 + 1))) (shfJ zs jq j29) szs crn odr nds lfs rts far hx hy hz nx ny nz ofs)) (j := j29) 2 0 rfl rfl (by omega) (by decide) rfl dX4_take_66 ?_
          refine k_aload_n C 0 dX4_take_67 rfl rfl ?_
          refine k_get C hinX4 0 4 rfl rfl (by decide) lk4 rfl rfl dX4_take_68 ?_
          refine k_iload_n C 2 dX4_take_71 rfl rfl ?_
          refine k_aload_n C 0 dX4_take_72 rfl rfl ?_
          refine k_get C hinX4 0 4 rfl rfl (by decide) lk4 rfl rfl dX4_take_73 ?_
          refine k_iload_n C 2 dX4_take_76 rfl rfl ?_
          refine k_iconst C (v := (nI 1)) dX4_take_77 (by decide) ?_
          refine k_iaddN C dX4_take_78 ?_
          refine k_iald C (j := (j29 + 1)) 3 0 rfl rfl (by omega) (by decide) dX4_take_79 ?_
          refine k_iast C (ws' := (wM ad cI cJ (goT (rngB np q) true) (nI np) blt bds hld fcs egs tx ty tz (upd (shfJ xs jq j29) j29 ((shfJ xs jq j29) (j29 + 1))) (upd (shfJ ys jq j29) j29 ((shfJ ys jq j29) (j29 + 1))) (upd (shfJ zs jq j29) j29 ((shfJ zs jq j29) (j29 + 1))) szs crn odr nds lfs rts far hx hy hz nx ny nz ofs)) (j := j29) 3 0 rfl rfl (by omega) (by decide) rfl dX4_take_80 ?_
          refine k_iinc C (v := (nI (j29 + 1))) (lv' := [(2, .int (nI (j29 + 1))), (0, .ref (ad 0)), (1, .int q)]) 2 dX4_take_81 rfl (nI_1 _) (by decide) rfl ?_
          refine k_goto C 29 dX4_take_84 (by decide) ?_
          have w71_0 : (upd (shfJ xs jq j29) j29 ((shfJ xs jq j29) (j29 + 1))) = (shfJ xs jq (j29 + 1)) := shfJ_s _ _ _ g29_0
          have w72_1 : (upd (shfJ ys jq j29) j29 ((shfJ ys jq j29) (j29 + 1))) = (shfJ ys jq (j29 + 1)) := shfJ_s _ _ _ g29_0
          have w73_2 : (upd (shfJ zs jq j29) j29 ((shfJ zs jq j29) (j29 + 1))) = (shfJ zs jq (j29 + 1)) := shfJ_s _ _ _ g29_0
          refine k_ws (ws' := (wM ad cI cJ (goT (rngB np q) true) (nI np) blt bds hld fcs egs tx ty tz (shfJ xs jq (j29 + 1)) (shfJ ys jq (j29 + 1)) (shfJ zs jq (j29 + 1)) szs crn odr nds lfs rts far hx hy hz nx ny nz ofs)) (by rw [← w71_0, ← w72_1, ← w73_2]) ?_
          exact k_lv [1, 2, 0] rfl (ih29 (j29 + 1) (by omega) (by omega) (by omega))
    · refine k_iconst C (v := (nI 0)) dX4_take_25 (by decide) ?_
      exact hret _ _ _ _ ⟨by rw [if_neg (by rw [h_1]; decide)]; rfl, by simp only [if_neg (show ¬ rngB np q = true by rw [h_1]; decide)]⟩ dX4_take_26
  refine k_aload_n C 0 dX4_take_0 rfl rfl ?_
  refine k_iload_n C 1 dX4_take_1 rfl rfl ?_
  refine k_if_lt C 17 dX4_take_2 (by decide) (fun h_3 => ?_) (fun h_3 => ?_)
  · refine k_iconst C (v := (nI 0)) dX4_take_17 (by decide) ?_
    refine k_topi (b2i (rngB np q)) (by simp [rngB, whB, b2i, nI0, nI1, h_3]) ?_
    exact k_lv [0, 1] rfl (J18)
  · refine k_iload_n C 1 dX4_take_5 rfl rfl ?_
    refine k_aload_n C 0 dX4_take_6 rfl rfl ?_
    refine k_get C hinX4 0 1 rfl rfl (by decide) lk0 rfl rfl dX4_take_7 ?_
    refine k_icmp_ge C 17 dX4_take_10 (by decide) (fun h_4 => ?_) (fun h_4 => ?_)
    · refine k_iconst C (v := (nI 0)) dX4_take_17 (by decide) ?_
      refine k_topi (b2i (rngB np q)) (by simp [rngB, whB, b2i, nI0, nI1, h_3, h_4]) ?_
      exact k_lv [0, 1] rfl (J18)
    · refine k_iconst C (v := (nI 1)) dX4_take_13 (by decide) ?_
      refine k_goto C 18 dX4_take_14 (by decide) ?_
      refine k_topi (b2i (rngB np q)) (by simp [rngB, whB, b2i, nI0, nI1, h_3, h_4]) ?_
      exact k_lv [0, 1] rfl (J18)
