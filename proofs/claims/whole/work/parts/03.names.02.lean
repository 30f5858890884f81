theorem dX4_tries_229 : decode cX4_tries 229 = .ok (.iload_n 1, 1) := by decide +kernel
theorem dX4_tries_230 : decode cX4_tries 230 = .ok (.laload, 1) := by decide +kernel
theorem dX4_tries_231 : decode cX4_tries 231 = .ok (.lmul, 1) := by decide +kernel
theorem dX4_tries_232 : decode cX4_tries 232 = .ok (.ladd, 1) := by decide +kernel
theorem dX4_tries_233 : decode cX4_tries 233 = .ok (.invokevirtual 111, 3) := by decide +kernel
theorem dX4_tries_236 : decode cX4_tries 236 = .ok (.iconst 0, 1) := by decide +kernel
theorem dX4_tries_237 : decode cX4_tries 237 = .ok (.ireturn, 1) := by decide +kernel
set_option maxRecDepth 20000 in
theorem ggX4_addFace_X4_knownFace : GoodIn wsX4_addFace wsX4_knownFace := goodIn_r _ [13, 2, 1, 3, 4, 5, 6, 7, 8, 14, 15, 16, 17, 18, 19, 20, 21, 22, 23, 24, 25, 26, 27, 28, 29, 30, 31, 32, 33, 34, 35, 36, 37, 38, 39, 40] (by decide +kernel) (by decide +kernel)
set_option maxRecDepth 20000 in
theorem gX4_addFace_X4_knownFace : GoodIn wsX4_addFace (wsV RX4 115 RX4 yX4_knownFace wsX4_knownFace) := goodIn_app (goodIn_of _ (by decide +kernel)) ggX4_addFace_X4_knownFace
theorem dX4_addFace_0 : decode cX4_addFace 0 = .ok (.aload_n 0, 1) := by decide +kernel
theorem dX4_addFace_1 : decode cX4_addFace 1 = .ok (.lload_n 1, 1) := by decide +kernel
theorem dX4_addFace_2 : decode cX4_addFace 2 = .ok (.invokevirtual 115, 3) := by decide +kernel
theorem dX4_addFace_5 : decode cX4_addFace 5 = .ok (.ifCond .ne 62, 3) := by decide +kernel
theorem dX4_addFace_8 : decode cX4_addFace 8 = .ok (.aload_n 0, 1) := by decide +kernel
theorem dX4_addFace_9 : decode cX4_addFace 9 = .ok (.getfield 29, 3) := by decide +kernel
theorem dX4_addFace_12 : decode cX4_addFace 12 = .ok (.aload_n 0, 1) := by decide +kernel
theorem dX4_addFace_13 : decode cX4_addFace 13 = .ok (.getfield 91, 3) := by decide +kernel
theorem dX4_addFace_16 : decode cX4_addFace 16 = .ok (.aload_n 0, 1) := by decide +kernel
theorem dX4_addFace_17 : decode cX4_addFace 17 = .ok (.getfield 81, 3) := by decide +kernel
theorem dX4_addFace_20 : decode cX4_addFace 20 = .ok (.lastore, 1) := by decide +kernel
theorem dX4_addFace_21 : decode cX4_addFace 21 = .ok (.aload_n 0, 1) := by decide +kernel
theorem dX4_addFace_22 : decode cX4_addFace 22 = .ok (.getfield 32, 3) := by decide +kernel
theorem dX4_addFace_25 : decode cX4_addFace 25 = .ok (.aload_n 0, 1) := by decide +kernel
theorem dX4_addFace_26 : decode cX4_addFace 26 = .ok (.getfield 91, 3) := by decide +kernel
theorem dX4_addFace_29 : decode cX4_addFace 29 = .ok (.aload_n 0, 1) := by decide +kernel
theorem dX4_addFace_30 : decode cX4_addFace 30 = .ok (.getfield 85, 3) := by decide +kernel
theorem dX4_addFace_33 : decode cX4_addFace 33 = .ok (.lastore, 1) := by decide +kernel
theorem dX4_addFace_34 : decode cX4_addFace 34 = .ok (.aload_n 0, 1) := by decide +kernel
theorem dX4_addFace_35 : decode cX4_addFace 35 = .ok (.getfield 35, 3) := by decide +kernel
theorem dX4_addFace_38 : decode cX4_addFace 38 = .ok (.aload_n 0, 1) := by decide +kernel
theorem dX4_addFace_39 : decode cX4_addFace 39 = .ok (.getfield 91, 3) := by decide +kernel
theorem dX4_addFace_42 : decode cX4_addFace 42 = .ok (.aload_n 0, 1) := by decide +kernel
theorem dX4_addFace_43 : decode cX4_addFace 43 = .ok (.getfield 88, 3) := by decide +kernel
theorem dX4_addFace_46 : decode cX4_addFace 46 = .ok (.lastore, 1) := by decide +kernel
theorem dX4_addFace_47 : decode cX4_addFace 47 = .ok (.aload_n 0, 1) := by decide +kernel
theorem dX4_addFace_48 : decode cX4_addFace 48 = .ok (.getfield 38, 3) := by decide +kernel
theorem dX4_addFace_51 : decode cX4_addFace 51 = .ok (.aload_n 0, 1) := by decide +kernel
theorem dX4_addFace_52 : decode cX4_addFace 52 = .ok (.getfield 91, 3) := by decide +kernel
theorem dX4_addFace_55 : decode cX4_addFace 55 = .ok (.lload_n 1, 1) := by decide +kernel
theorem dX4_addFace_56 : decode cX4_addFace 56 = .ok (.lastore, 1) := by decide +kernel
theorem dX4_addFace_57 : decode cX4_addFace 57 = .ok (.aload_n 0, 1) := by decide +kernel
theorem dX4_addFace_58 : decode cX4_addFace 58 = .ok (.dup, 1) := by decide +kernel
theorem dX4_addFace_59 : decode cX4_addFace 59 = .ok (.getfield 91, 3) := by decide +kernel
theorem dX4_addFace_62 : decode cX4_addFace 62 = .ok (.iconst 1, 1) := by decide +kernel
theorem dX4_addFace_63 : decode cX4_addFace 63 = .ok (.iadd, 1) := by decide +kernel
theorem dX4_addFace_64 : decode cX4_addFace 64 = .ok (.putfield 91, 3) := by decide +kernel
theorem dX4_addFace_67 : decode cX4_addFace 67 = .ok (.return_, 1) := by decide +kernel
theorem dX4_in_0 : decode cX4_in 0 = .ok (.aload_n 0, 1) := by decide +kernel
theorem dX4_in_1 : decode cX4_in 1 = .ok (.getfield 29, 3) := by decide +kernel
theorem dX4_in_4 : decode cX4_in 4 = .ok (.iload_n 1, 1) := by decide +kernel
theorem dX4_in_5 : decode cX4_in 5 = .ok (.laload, 1) := by decide +kernel
theorem dX4_in_6 : decode cX4_in 6 = .ok (.aload_n 0, 1) := by decide +kernel
theorem dX4_in_7 : decode cX4_in 7 = .ok (.getfield 19, 3) := by decide +kernel
theorem dX4_in_10 : decode cX4_in 10 = .ok (.iload_n 2, 1) := by decide +kernel
theorem dX4_in_11 : decode cX4_in 11 = .ok (.laload, 1) := by decide +kernel
theorem dX4_in_12 : decode cX4_in 12 = .ok (.lmul, 1) := by decide +kernel
theorem dX4_in_13 : decode cX4_in 13 = .ok (.aload_n 0, 1) := by decide +kernel
theorem dX4_in_14 : decode cX4_in 14 = .ok (.getfield 32, 3) := by decide +kernel
theorem dX4_in_17 : decode cX4_in 17 = .ok (.iload_n 1, 1) := by decide +kernel
theorem dX4_in_18 : decode cX4_in 18 = .ok (.laload, 1) := by decide +kernel
theorem dX4_in_19 : decode cX4_in 19 = .ok (.aload_n 0, 1) := by decide +kernel
theorem dX4_in_20 : decode cX4_in 20 = .ok (.getfield 23, 3) := by decide +kernel
theorem dX4_in_23 : decode cX4_in 23 = .ok (.iload_n 2, 1) := by decide +kernel
theorem dX4_in_24 : decode cX4_in 24 = .ok (.laload, 1) := by decide +kernel
theorem dX4_in_25 : decode cX4_in 25 = .ok (.lmul, 1) := by decide +kernel
theorem dX4_in_26 : decode cX4_in 26 = .ok (.ladd, 1) := by decide +kernel
theorem dX4_in_27 : decode cX4_in 27 = .ok (.aload_n 0, 1) := by decide +kernel
theorem dX4_in_28 : decode cX4_in 28 = .ok (.getfield 35, 3) := by decide +kernel
theorem dX4_in_31 : decode cX4_in 31 = .ok (.iload_n 1, 1) := by decide +kernel
theorem dX4_in_32 : decode cX4_in 32 = .ok (.laload, 1) := by decide +kernel
theorem dX4_in_33 : decode cX4_in 33 = .ok (.aload_n 0, 1) := by decide +kernel
theorem dX4_in_34 : decode cX4_in 34 = .ok (.getfield 26, 3) := by decide +kernel
theorem dX4_in_37 : decode cX4_in 37 = .ok (.iload_n 2, 1) := by decide +kernel
theorem dX4_in_38 : decode cX4_in 38 = .ok (.laload, 1) := by decide +kernel
theorem dX4_in_39 : decode cX4_in 39 = .ok (.lmul, 1) := by decide +kernel
theorem dX4_in_40 : decode cX4_in 40 = .ok (.ladd, 1) := by decide +kernel
theorem dX4_in_41 : decode cX4_in 41 = .ok (.aload_n 0, 1) := by decide +kernel
theorem dX4_in_42 : decode cX4_in 42 = .ok (.getfield 38, 3) := by decide +kernel
theorem dX4_in_45 : decode cX4_in 45 = .ok (.iload_n 1, 1) := by decide +kernel
theorem dX4_in_46 : decode cX4_in 46 = .ok (.laload, 1) := by decide +kernel
theorem dX4_in_47 : decode cX4_in 47 = .ok (.lcmp, 1) := by decide +kernel
theorem dX4_in_48 : decode cX4_in 48 = .ok (.ifCond .ne 7, 3) := by decide +kernel
theorem dX4_in_51 : decode cX4_in 51 = .ok (.iconst 1, 1) := by decide +kernel
theorem dX4_in_52 : decode cX4_in 52 = .ok (.goto 4, 3) := by decide +kernel
theorem dX4_in_55 : decode cX4_in 55 = .ok (.iconst 0, 1) := by decide +kernel
theorem dX4_in_56 : decode cX4_in 56 = .ok (.ireturn, 1) := by decide +kernel
set_option maxRecDepth 20000 in
theorem ggX4_goesOn_X4_in : GoodIn wsX4_goesOn wsX4_in := goodIn_r _ [15, 3, 8, 5, 9, 7, 10, 16, 21, 22, 23, 24, 25, 26, 27, 28, 29, 30, 31, 32, 33, 34, 35, 36, 37, 38, 39, 40, 41, 42, 43, 44, 45, 46, 47] (by decide +kernel) (by decide +kernel)
set_option maxRecDepth 20000 in
theorem gX4_goesOn_X4_in : GoodIn wsX4_goesOn (wsV RX4 119 RX4 yX4_in wsX4_in) := goodIn_app (goodIn_of _ (by decide +kernel)) ggX4_goesOn_X4_in
set_option maxRecDepth 20000 in
theorem ggX4_goesOn_X4_across : GoodIn wsX4_goesOn wsX4_across := goodIn_r _ [20, 8, 9, 10, 2, 4, 6, 21, 22, 23, 24, 25, 26, 27, 28, 29, 30, 31, 32, 33, 34, 35, 36, 37, 38, 39, 40, 41, 42, 43, 44, 45, 46, 47] (by decide +kernel) (by decide +kernel)
set_option maxRecDepth 20000 in
theorem gX4_goesOn_X4_across : GoodIn wsX4_goesOn (wsV RX4 94 RX4 yX4_across wsX4_across) := goodIn_app (goodIn_of _ (by decide +kernel)) ggX4_goesOn_X4_across
theorem dX4_goesOn_0 : decode cX4_goesOn 0 = .ok (.iload_n 2, 1) := by decide +kernel
theorem dX4_goesOn_1 : decode cX4_goesOn 1 = .ok (.iload_n 3, 1) := by decide +kernel
theorem dX4_goesOn_2 : decode cX4_goesOn 2 = .ok (.if_icmp .eq 7, 3) := by decide +kernel
theorem dX4_goesOn_5 : decode cX4_goesOn 5 = .ok (.iconst 1, 1) := by decide +kernel
theorem dX4_goesOn_6 : decode cX4_goesOn 6 = .ok (.goto 4, 3) := by decide +kernel
theorem dX4_goesOn_9 : decode cX4_goesOn 9 = .ok (.iconst 0, 1) := by decide +kernel
theorem dX4_goesOn_10 : decode cX4_goesOn 10 = .ok (.istore 4, 2) := by decide +kernel
theorem dX4_goesOn_12 : decode cX4_goesOn 12 = .ok (.iconst 0, 1) := by decide +kernel
theorem dX4_goesOn_13 : decode cX4_goesOn 13 = .ok (.istore 5, 2) := by decide +kernel
theorem dX4_goesOn_15 : decode cX4_goesOn 15 = .ok (.iload 5, 2) := by decide +kernel
theorem dX4_goesOn_17 : decode cX4_goesOn 17 = .ok (.aload_n 0, 1) := by decide +kernel
theorem dX4_goesOn_18 : decode cX4_goesOn 18 = .ok (.getfield 98, 3) := by decide +kernel
theorem dX4_goesOn_21 : decode cX4_goesOn 21 = .ok (.if_icmp .ge 200, 3) := by decide +kernel
theorem dX4_goesOn_24 : decode cX4_goesOn 24 = .ok (.iload 4, 2) := by decide +kernel
theorem dX4_goesOn_26 : decode cX4_goesOn 26 = .ok (.ifCond .eq 195, 3) := by decide +kernel
theorem dX4_goesOn_29 : decode cX4_goesOn 29 = .ok (.iload 5, 2) := by decide +kernel
theorem dX4_goesOn_31 : decode cX4_goesOn 31 = .ok (.iload_n 2, 1) := by decide +kernel
theorem dX4_goesOn_32 : decode cX4_goesOn 32 = .ok (.if_icmp .eq 183, 3) := by decide +kernel
theorem dX4_goesOn_35 : decode cX4_goesOn 35 = .ok (.iload 5, 2) := by decide +kernel
theorem dX4_goesOn_37 : decode cX4_goesOn 37 = .ok (.iload_n 3, 1) := by decide +kernel
theorem dX4_goesOn_38 : decode cX4_goesOn 38 = .ok (.if_icmp .eq 177, 3) := by decide +kernel
theorem dX4_goesOn_41 : decode cX4_goesOn 41 = .ok (.aload_n 0, 1) := by decide +kernel
theorem dX4_goesOn_42 : decode cX4_goesOn 42 = .ok (.iload_n 1, 1) := by decide +kernel
theorem dX4_goesOn_43 : decode cX4_goesOn 43 = .ok (.iload 5, 2) := by decide +kernel
theorem dX4_goesOn_45 : decode cX4_goesOn 45 = .ok (.invokevirtual 119, 3) := by decide +kernel
theorem dX4_goesOn_48 : decode cX4_goesOn 48 = .ok (.ifCond .eq 167, 3) := by decide +kernel
theorem dX4_goesOn_51 : decode cX4_goesOn 51 = .ok (.aload_n 0, 1) := by decide +kernel
theorem dX4_goesOn_52 : decode cX4_goesOn 52 = .ok (.iload_n 2, 1) := by decide +kernel
theorem dX4_goesOn_53 : decode cX4_goesOn 53 = .ok (.iload_n 3, 1) := by decide +kernel
theorem dX4_goesOn_54 : decode cX4_goesOn 54 = .ok (.iload 5, 2) := by decide +kernel
theorem dX4_goesOn_56 : decode cX4_goesOn 56 = .ok (.invokevirtual 94, 3) := by decide +kernel
theorem dX4_goesOn_59 : decode cX4_goesOn 59 = .ok (.aload_n 0, 1) := by decide +kernel
theorem dX4_goesOn_60 : decode cX4_goesOn 60 = .ok (.getfield 81, 3) := by decide +kernel
theorem dX4_goesOn_63 : decode cX4_goesOn 63 = .ok (.aload_n 0, 1) := by decide +kernel
theorem dX4_goesOn_64 : decode cX4_goesOn 64 = .ok (.getfield 29, 3) := by decide +kernel
theorem dX4_goesOn_67 : decode cX4_goesOn 67 = .ok (.iload_n 1, 1) := by decide +kernel
theorem dX4_goesOn_68 : decode cX4_goesOn 68 = .ok (.laload, 1) := by decide +kernel
theorem dX4_goesOn_69 : decode cX4_goesOn 69 = .ok (.lmul, 1) := by decide +kernel
theorem dX4_goesOn_70 : decode cX4_goesOn 70 = .ok (.aload_n 0, 1) := by decide +kernel
theorem dX4_goesOn_71 : decode cX4_goesOn 71 = .ok (.getfield 85, 3) := by decide +kernel
theorem dX4_goesOn_74 : decode cX4_goesOn 74 = .ok (.aload_n 0, 1) := by decide +kernel
theorem dX4_goesOn_75 : decode cX4_goesOn 75 = .ok (.getfield 32, 3) := by decide +kernel
theorem dX4_goesOn_78 : decode cX4_goesOn 78 = .ok (.iload_n 1, 1) := by decide +kernel
theorem dX4_goesOn_79 : decode cX4_goesOn 79 = .ok (.laload, 1) := by decide +kernel
theorem dX4_goesOn_80 : decode cX4_goesOn 80 = .ok (.lmul, 1) := by decide +kernel
theorem dX4_goesOn_81 : decode cX4_goesOn 81 = .ok (.ladd, 1) := by decide +kernel
theorem dX4_goesOn_82 : decode cX4_goesOn 82 = .ok (.aload_n 0, 1) := by decide +kernel
theorem dX4_goesOn_83 : decode cX4_goesOn 83 = .ok (.getfield 88, 3) := by decide +kernel
theorem dX4_goesOn_86 : decode cX4_goesOn 86 = .ok (.aload_n 0, 1) := by decide +kernel
theorem dX4_goesOn_87 : decode cX4_goesOn 87 = .ok (.getfield 35, 3) := by decide +kernel
theorem dX4_goesOn_90 : decode cX4_goesOn 90 = .ok (.iload_n 1, 1) := by decide +kernel
theorem dX4_goesOn_91 : decode cX4_goesOn 91 = .ok (.laload, 1) := by decide +kernel
theorem dX4_goesOn_92 : decode cX4_goesOn 92 = .ok (.lmul, 1) := by decide +kernel
theorem dX4_goesOn_93 : decode cX4_goesOn 93 = .ok (.ladd, 1) := by decide +kernel
theorem dX4_goesOn_94 : decode cX4_goesOn 94 = .ok (.lstore 6, 2) := by decide +kernel
theorem dX4_goesOn_96 : decode cX4_goesOn 96 = .ok (.aload_n 0, 1) := by decide +kernel
theorem dX4_goesOn_97 : decode cX4_goesOn 97 = .ok (.getfield 19, 3) := by decide +kernel
theorem dX4_goesOn_100 : decode cX4_goesOn 100 = .ok (.iload 5, 2) := by decide +kernel
theorem dX4_goesOn_102 : decode cX4_goesOn 102 = .ok (.laload, 1) := by decide +kernel
theorem dX4_goesOn_103 : decode cX4_goesOn 103 = .ok (.aload_n 0, 1) := by decide +kernel
theorem dX4_goesOn_104 : decode cX4_goesOn 104 = .ok (.getfield 19, 3) := by decide +kernel
theorem dX4_goesOn_107 : decode cX4_goesOn 107 = .ok (.iload_n 2, 1) := by decide +kernel
theorem dX4_goesOn_108 : decode cX4_goesOn 108 = .ok (.laload, 1) := by decide +kernel
theorem dX4_goesOn_109 : decode cX4_goesOn 109 = .ok (.lsub, 1) := by decide +kernel
theorem dX4_goesOn_110 : decode cX4_goesOn 110 = .ok (.aload_n 0, 1) := by decide +kernel
theorem dX4_goesOn_111 : decode cX4_goesOn 111 = .ok (.getfield 19, 3) := by decide +kernel
theorem dX4_goesOn_114 : decode cX4_goesOn 114 = .ok (.iload 5, 2) := by decide +kernel
theorem dX4_goesOn_116 : decode cX4_goesOn 116 = .ok (.laload, 1) := by decide +kernel
theorem dX4_goesOn_117 : decode cX4_goesOn 117 = .ok (.aload_n 0, 1) := by decide +kernel
theorem dX4_goesOn_118 : decode cX4_goesOn 118 = .ok (.getfield 19, 3) := by decide +kernel
theorem dX4_goesOn_121 : decode cX4_goesOn 121 = .ok (.iload_n 3, 1) := by decide +kernel
theorem dX4_goesOn_122 : decode cX4_goesOn 122 = .ok (.laload, 1) := by decide +kernel
theorem dX4_goesOn_123 : decode cX4_goesOn 123 = .ok (.lsub, 1) := by decide +kernel
theorem dX4_goesOn_124 : decode cX4_goesOn 124 = .ok (.lmul, 1) := by decide +kernel
theorem dX4_goesOn_125 : decode cX4_goesOn 125 = .ok (.aload_n 0, 1) := by decide +kernel
theorem dX4_goesOn_126 : decode cX4_goesOn 126 = .ok (.getfield 23, 3) := by decide +kernel
theorem dX4_goesOn_129 : decode cX4_goesOn 129 = .ok (.iload 5, 2) := by decide +kernel
theorem dX4_goesOn_131 : decode cX4_goesOn 131 = .ok (.laload, 1) := by decide +kernel
theorem dX4_goesOn_132 : decode cX4_goesOn 132 = .ok (.aload_n 0, 1) := by decide +kernel
theorem dX4_goesOn_133 : decode cX4_goesOn 133 = .ok (.getfield 23, 3) := by decide +kernel
theorem dX4_goesOn_136 : decode cX4_goesOn 136 = .ok (.iload_n 2, 1) := by decide +kernel
theorem dX4_goesOn_137 : decode cX4_goesOn 137 = .ok (.laload, 1) := by decide +kernel
theorem dX4_goesOn_138 : decode cX4_goesOn 138 = .ok (.lsub, 1) := by decide +kernel
theorem dX4_goesOn_139 : decode cX4_goesOn 139 = .ok (.aload_n 0, 1) := by decide +kernel
theorem dX4_goesOn_140 : decode cX4_goesOn 140 = .ok (.getfield 23, 3) := by decide +kernel
theorem dX4_goesOn_143 : decode cX4_goesOn 143 = .ok (.iload 5, 2) := by decide +kernel
theorem dX4_goesOn_145 : decode cX4_goesOn 145 = .ok (.laload, 1) := by decide +kernel
theorem dX4_goesOn_146 : decode cX4_goesOn 146 = .ok (.aload_n 0, 1) := by decide +kernel
theorem dX4_goesOn_147 : decode cX4_goesOn 147 = .ok (.getfield 23, 3) := by decide +kernel
theorem dX4_goesOn_150 : decode cX4_goesOn 150 = .ok (.iload_n 3, 1) := by decide +kernel
theorem dX4_goesOn_151 : decode cX4_goesOn 151 = .ok (.laload, 1) := by decide +kernel
theorem dX4_goesOn_152 : decode cX4_goesOn 152 = .ok (.lsub, 1) := by decide +kernel
theorem dX4_goesOn_153 : decode cX4_goesOn 153 = .ok (.lmul, 1) := by decide +kernel
theorem dX4_goesOn_154 : decode cX4_goesOn 154 = .ok (.ladd, 1) := by decide +kernel
theorem dX4_goesOn_155 : decode cX4_goesOn 155 = .ok (.aload_n 0, 1) := by decide +kernel
theorem dX4_goesOn_156 : decode cX4_goesOn 156 = .ok (.getfield 26, 3) := by decide +kernel
theorem dX4_goesOn_159 : decode cX4_goesOn 159 = .ok (.iload 5, 2) := by decide +kernel
theorem dX4_goesOn_161 : decode cX4_goesOn 161 = .ok (.laload, 1) := by decide +kernel
theorem dX4_goesOn_162 : decode cX4_goesOn 162 = .ok (.aload_n 0, 1) := by decide +kernel
theorem dX4_goesOn_163 : decode cX4_goesOn 163 = .ok (.getfield 26, 3) := by decide +kernel
theorem dX4_goesOn_166 : decode cX4_goesOn 166 = .ok (.iload_n 2, 1) := by decide +kernel
theorem dX4_goesOn_167 : decode cX4_goesOn 167 = .ok (.laload, 1) := by decide +kernel
theorem dX4_goesOn_168 : decode cX4_goesOn 168 = .ok (.lsub, 1) := by decide +kernel
theorem dX4_goesOn_169 : decode cX4_goesOn 169 = .ok (.aload_n 0, 1) := by decide +kernel
theorem dX4_goesOn_170 : decode cX4_goesOn 170 = .ok (.getfield 26, 3) := by decide +kernel
theorem dX4_goesOn_173 : decode cX4_goesOn 173 = .ok (.iload 5, 2) := by decide +kernel
theorem dX4_goesOn_175 : decode cX4_goesOn 175 = .ok (.laload, 1) := by decide +kernel
theorem dX4_goesOn_176 : decode cX4_goesOn 176 = .ok (.aload_n 0, 1) := by decide +kernel
theorem dX4_goesOn_177 : decode cX4_goesOn 177 = .ok (.getfield 26, 3) := by decide +kernel
theorem dX4_goesOn_180 : decode cX4_goesOn 180 = .ok (.iload_n 3, 1) := by decide +kernel
theorem dX4_goesOn_181 : decode cX4_goesOn 181 = .ok (.laload, 1) := by decide +kernel
theorem dX4_goesOn_182 : decode cX4_goesOn 182 = .ok (.lsub, 1) := by decide +kernel
theorem dX4_goesOn_183 : decode cX4_goesOn 183 = .ok (.lmul, 1) := by decide +kernel
theorem dX4_goesOn_184 : decode cX4_goesOn 184 = .ok (.ladd, 1) := by decide +kernel
theorem dX4_goesOn_185 : decode cX4_goesOn 185 = .ok (.lstore 8, 2) := by decide +kernel
theorem dX4_goesOn_187 : decode cX4_goesOn 187 = .ok (.lload 6, 2) := by decide +kernel
theorem dX4_goesOn_189 : decode cX4_goesOn 189 = .ok (.lconst 0, 1) := by decide +kernel
theorem dX4_goesOn_190 : decode cX4_goesOn 190 = .ok (.lcmp, 1) := by decide +kernel
theorem dX4_goesOn_191 : decode cX4_goesOn 191 = .ok (.ifCond .gt 17, 3) := by decide +kernel
theorem dX4_goesOn_194 : decode cX4_goesOn 194 = .ok (.lload 6, 2) := by decide +kernel
theorem dX4_goesOn_196 : decode cX4_goesOn 196 = .ok (.lconst 0, 1) := by decide +kernel
theorem dX4_goesOn_197 : decode cX4_goesOn 197 = .ok (.lcmp, 1) := by decide +kernel
theorem dX4_goesOn_198 : decode cX4_goesOn 198 = .ok (.ifCond .ne 14, 3) := by decide +kernel
theorem dX4_goesOn_201 : decode cX4_goesOn 201 = .ok (.lload 8, 2) := by decide +kernel
theorem dX4_goesOn_203 : decode cX4_goesOn 203 = .ok (.lconst 0, 1) := by decide +kernel
theorem dX4_goesOn_204 : decode cX4_goesOn 204 = .ok (.lcmp, 1) := by decide +kernel
theorem dX4_goesOn_205 : decode cX4_goesOn 205 = .ok (.ifCond .ge 7, 3) := by decide +kernel
theorem dX4_goesOn_208 : decode cX4_goesOn 208 = .ok (.iconst 1, 1) := by decide +kernel
theorem dX4_goesOn_209 : decode cX4_goesOn 209 = .ok (.goto 4, 3) := by decide +kernel
theorem dX4_goesOn_212 : decode cX4_goesOn 212 = .ok (.iconst 0, 1) := by decide +kernel
theorem dX4_goesOn_213 : decode cX4_goesOn 213 = .ok (.istore 4, 2) := by decide +kernel
theorem dX4_goesOn_215 : decode cX4_goesOn 215 = .ok (.iinc 5 1, 3) := by decide +kernel
theorem dX4_goesOn_218 : decode cX4_goesOn 218 = .ok (.goto (-203), 3) := by decide +kernel
theorem dX4_goesOn_221 : decode cX4_goesOn 221 = .ok (.iload 4, 2) := by decide +kernel
theorem dX4_goesOn_223 : decode cX4_goesOn 223 = .ok (.ireturn, 1) := by decide +kernel
set_option maxRecDepth 20000 in
theorem ggX4_behind_X4_in : GoodIn wsX4_behind wsX4_in := goodIn_r _ [6, 7, 8, 9, 10, 11, 12, 13, 25, 26, 27, 28, 29, 30, 31, 32, 33, 34, 35, 36, 37, 38, 39, 40, 41, 42, 43, 44, 45, 46, 47, 48, 49, 50, 51] (by decide +kernel) (by decide +kernel)
set_option maxRecDepth 20000 in
theorem gX4_behind_X4_in : GoodIn wsX4_behind (wsV RX4 119 RX4 yX4_in wsX4_in) := goodIn_app (goodIn_of _ (by decide +kernel)) ggX4_behind_X4_in
set_option maxRecDepth 20000 in
theorem ggX4_behind_X4_goesOn : GoodIn wsX4_behind wsX4_goesOn := goodIn_r _ [17, 1, 18, 7, 19, 9, 20, 11, 8, 10, 12, 2, 3, 4, 5, 6, 13, 21, 22, 23, 24, 25, 26, 27, 28, 29, 30, 31, 32, 33, 34, 35, 36, 37, 38, 39, 40, 41, 42, 43, 44, 45, 46, 47, 48, 49, 50, 51] (by decide +kernel) (by decide +kernel)
set_option maxRecDepth 20000 in
theorem gX4_behind_X4_goesOn : GoodIn wsX4_behind (wsV RX4 122 RX4 yX4_goesOn wsX4_goesOn) := goodIn_app (goodIn_of _ (by decide +kernel)) ggX4_behind_X4_goesOn
theorem dX4_behind_0 : decode cX4_behind 0 = .ok (.iconst 0, 1) := by decide +kernel
theorem dX4_behind_1 : decode cX4_behind 1 = .ok (.istore_n 3, 1) := by decide +kernel
theorem dX4_behind_2 : decode cX4_behind 2 = .ok (.iload_n 3, 1) := by decide +kernel
theorem dX4_behind_3 : decode cX4_behind 3 = .ok (.aload_n 0, 1) := by decide +kernel
theorem dX4_behind_4 : decode cX4_behind 4 = .ok (.getfield 98, 3) := by decide +kernel
theorem dX4_behind_7 : decode cX4_behind 7 = .ok (.if_icmp .ge 30, 3) := by decide +kernel
theorem dX4_behind_10 : decode cX4_behind 10 = .ok (.aload_n 0, 1) := by decide +kernel
theorem dX4_behind_11 : decode cX4_behind 11 = .ok (.iload_n 1, 1) := by decide +kernel
theorem dX4_behind_12 : decode cX4_behind 12 = .ok (.iload_n 3, 1) := by decide +kernel
theorem dX4_behind_13 : decode cX4_behind 13 = .ok (.invokevirtual 119, 3) := by decide +kernel
theorem dX4_behind_16 : decode cX4_behind 16 = .ok (.ifCond .eq 15, 3) := by decide +kernel
theorem dX4_behind_19 : decode cX4_behind 19 = .ok (.aload_n 0, 1) := by decide +kernel
theorem dX4_behind_20 : decode cX4_behind 20 = .ok (.iload_n 1, 1) := by decide +kernel
theorem dX4_behind_21 : decode cX4_behind 21 = .ok (.iload_n 2, 1) := by decide +kernel
theorem dX4_behind_22 : decode cX4_behind 22 = .ok (.iload_n 3, 1) := by decide +kernel
theorem dX4_behind_23 : decode cX4_behind 23 = .ok (.invokevirtual 122, 3) := by decide +kernel
theorem dX4_behind_26 : decode cX4_behind 26 = .ok (.ifCond .eq 5, 3) := by decide +kernel
theorem dX4_behind_29 : decode cX4_behind 29 = .ok (.iload_n 3, 1) := by decide +kernel
theorem dX4_behind_30 : decode cX4_behind 30 = .ok (.ireturn, 1) := by decide +kernel
theorem dX4_behind_31 : decode cX4_behind 31 = .ok (.iinc 3 1, 3) := by decide +kernel
theorem dX4_behind_34 : decode cX4_behind 34 = .ok (.goto (-32), 3) := by decide +kernel
theorem dX4_behind_37 : decode cX4_behind 37 = .ok (.iconst (-1), 1) := by decide +kernel
theorem dX4_behind_38 : decode cX4_behind 38 = .ok (.ireturn, 1) := by decide +kernel
set_option maxRecDepth 20000 in
theorem ggX4_walk_X4_in : GoodIn wsX4_walk wsX4_in := goodIn_r _ [7, 8, 9, 10, 11, 12, 13, 14, 31, 32, 33, 34, 35, 36, 37, 38, 39, 40, 41, 42, 43, 44, 45, 46, 47, 48, 49, 50, 51, 52, 53, 54, 55, 56, 57] (by decide +kernel) (by decide +kernel)
set_option maxRecDepth 20000 in
theorem gX4_walk_X4_in : GoodIn wsX4_walk (wsV RX4 119 RX4 yX4_in wsX4_in) := goodIn_app (goodIn_of _ (by decide +kernel)) ggX4_walk_X4_in
set_option maxRecDepth 20000 in
theorem ggX4_walk_X4_behind : GoodIn wsX4_walk wsX4_behind := goodIn_r _ [18, 19, 3, 4, 5, 6, 7, 8, 9, 10, 11, 12, 13, 14, 20, 21, 22, 23, 24, 25, 26, 27, 28, 29, 30, 31, 32, 33, 34, 35, 36, 37, 38, 39, 40, 41, 42, 43, 44, 45, 46, 47, 48, 49, 50, 51, 52, 53, 54, 55, 56, 57] (by decide +kernel) (by decide +kernel)
set_option maxRecDepth 20000 in
theorem gX4_walk_X4_behind : GoodIn wsX4_walk (wsV RX4 125 RX4 yX4_behind wsX4_behind) := goodIn_app (goodIn_of _ (by decide +kernel)) ggX4_walk_X4_behind
theorem dX4_walk_0 : decode cX4_walk 0 = .ok (.iconst 0, 1) := by decide +kernel
theorem dX4_walk_1 : decode cX4_walk 1 = .ok (.istore_n 2, 1) := by decide +kernel
theorem dX4_walk_2 : decode cX4_walk 2 = .ok (.aload_n 0, 1) := by decide +kernel
theorem dX4_walk_3 : decode cX4_walk 3 = .ok (.iload_n 1, 1) := by decide +kernel
theorem dX4_walk_4 : decode cX4_walk 4 = .ok (.iload_n 2, 1) := by decide +kernel
theorem dX4_walk_5 : decode cX4_walk 5 = .ok (.invokevirtual 119, 3) := by decide +kernel
theorem dX4_walk_8 : decode cX4_walk 8 = .ok (.ifCond .eq 12, 3) := by decide +kernel
theorem dX4_walk_11 : decode cX4_walk 11 = .ok (.aload_n 0, 1) := by decide +kernel
theorem dX4_walk_12 : decode cX4_walk 12 = .ok (.iload_n 1, 1) := by decide +kernel
theorem dX4_walk_13 : decode cX4_walk 13 = .ok (.iload_n 2, 1) := by decide +kernel
theorem dX4_walk_14 : decode cX4_walk 14 = .ok (.invokevirtual 125, 3) := by decide +kernel
theorem dX4_walk_17 : decode cX4_walk 17 = .ok (.ifCond .ge 9, 3) := by decide +kernel
theorem dX4_walk_20 : decode cX4_walk 20 = .ok (.iinc 2 1, 3) := by decide +kernel
theorem dX4_walk_23 : decode cX4_walk 23 = .ok (.goto (-21), 3) := by decide +kernel
theorem dX4_walk_26 : decode cX4_walk 26 = .ok (.iconst 0, 1) := by decide +kernel
theorem dX4_walk_27 : decode cX4_walk 27 = .ok (.istore_n 3, 1) := by decide +kernel
theorem dX4_walk_28 : decode cX4_walk 28 = .ok (.iload_n 2, 1) := by decide +kernel
theorem dX4_walk_29 : decode cX4_walk 29 = .ok (.istore 4, 2) := by decide +kernel
theorem dX4_walk_31 : decode cX4_walk 31 = .ok (.iconst 0, 1) := by decide +kernel
theorem dX4_walk_32 : decode cX4_walk 32 = .ok (.istore 5, 2) := by decide +kernel
theorem dX4_walk_34 : decode cX4_walk 34 = .ok (.iload 5, 2) := by decide +kernel
theorem dX4_walk_36 : decode cX4_walk 36 = .ok (.bipush 24, 2) := by decide +kernel
theorem dX4_walk_38 : decode cX4_walk 38 = .ok (.if_icmp .ge 44, 3) := by decide +kernel
theorem dX4_walk_41 : decode cX4_walk 41 = .ok (.iload_n 3, 1) := by decide +kernel
theorem dX4_walk_42 : decode cX4_walk 42 = .ok (.ifCond .eq 9, 3) := by decide +kernel
theorem dX4_walk_45 : decode cX4_walk 45 = .ok (.iload 4, 2) := by decide +kernel
theorem dX4_walk_47 : decode cX4_walk 47 = .ok (.iload_n 2, 1) := by decide +kernel
theorem dX4_walk_48 : decode cX4_walk 48 = .ok (.if_icmp .eq 34, 3) := by decide +kernel
theorem dX4_walk_51 : decode cX4_walk 51 = .ok (.aload_n 0, 1) := by decide +kernel
theorem dX4_walk_52 : decode cX4_walk 52 = .ok (.getfield 44, 3) := by decide +kernel
theorem dX4_walk_55 : decode cX4_walk 55 = .ok (.bipush 24, 2) := by decide +kernel
theorem dX4_walk_57 : decode cX4_walk 57 = .ok (.iload_n 1, 1) := by decide +kernel
theorem dX4_walk_58 : decode cX4_walk 58 = .ok (.imul, 1) := by decide +kernel
theorem dX4_walk_59 : decode cX4_walk 59 = .ok (.iload_n 3, 1) := by decide +kernel
theorem dX4_walk_60 : decode cX4_walk 60 = .ok (.iadd, 1) := by decide +kernel
theorem dX4_walk_61 : decode cX4_walk 61 = .ok (.iload 4, 2) := by decide +kernel
theorem dX4_walk_63 : decode cX4_walk 63 = .ok (.iastore, 1) := by decide +kernel
theorem dX4_walk_64 : decode cX4_walk 64 = .ok (.iinc 3 1, 3) := by decide +kernel
theorem dX4_walk_67 : decode cX4_walk 67 = .ok (.aload_n 0, 1) := by decide +kernel
theorem dX4_walk_68 : decode cX4_walk 68 = .ok (.iload_n 1, 1) := by decide +kernel
theorem dX4_walk_69 : decode cX4_walk 69 = .ok (.iload 4, 2) := by decide +kernel
theorem dX4_walk_71 : decode cX4_walk 71 = .ok (.invokevirtual 125, 3) := by decide +kernel
theorem dX4_walk_74 : decode cX4_walk 74 = .ok (.istore 4, 2) := by decide +kernel
theorem dX4_walk_76 : decode cX4_walk 76 = .ok (.iinc 5 1, 3) := by decide +kernel
theorem dX4_walk_79 : decode cX4_walk 79 = .ok (.goto (-45), 3) := by decide +kernel
theorem dX4_walk_82 : decode cX4_walk 82 = .ok (.aload_n 0, 1) := by decide +kernel
theorem dX4_walk_83 : decode cX4_walk 83 = .ok (.getfield 41, 3) := by decide +kernel
theorem dX4_walk_86 : decode cX4_walk 86 = .ok (.iload_n 1, 1) := by decide +kernel
theorem dX4_walk_87 : decode cX4_walk 87 = .ok (.iload_n 3, 1) := by decide +kernel
theorem dX4_walk_88 : decode cX4_walk 88 = .ok (.iastore, 1) := by decide +kernel
theorem dX4_walk_89 : decode cX4_walk 89 = .ok (.return_, 1) := by decide +kernel
theorem dX4_earlier_0 : decode cX4_earlier 0 = .ok (.bipush 32, 2) := by decide +kernel
theorem dX4_earlier_2 : decode cX4_earlier 2 = .ok (.aload_n 0, 1) := by decide +kernel
theorem dX4_earlier_3 : decode cX4_earlier 3 = .ok (.getfield 44, 3) := by decide +kernel
theorem dX4_earlier_6 : decode cX4_earlier 6 = .ok (.bipush 24, 2) := by decide +kernel
theorem dX4_earlier_8 : decode cX4_earlier 8 = .ok (.iload_n 1, 1) := by decide +kernel
theorem dX4_earlier_9 : decode cX4_earlier 9 = .ok (.imul, 1) := by decide +kernel
theorem dX4_earlier_10 : decode cX4_earlier 10 = .ok (.iaload, 1) := by decide +kernel
theorem dX4_earlier_11 : decode cX4_earlier 11 = .ok (.imul, 1) := by decide +kernel
theorem dX4_earlier_12 : decode cX4_earlier 12 = .ok (.aload_n 0, 1) := by decide +kernel
theorem dX4_earlier_13 : decode cX4_earlier 13 = .ok (.getfield 44, 3) := by decide +kernel
theorem dX4_earlier_16 : decode cX4_earlier 16 = .ok (.bipush 24, 2) := by decide +kernel
theorem dX4_earlier_18 : decode cX4_earlier 18 = .ok (.iload_n 1, 1) := by decide +kernel
theorem dX4_earlier_19 : decode cX4_earlier 19 = .ok (.imul, 1) := by decide +kernel
theorem dX4_earlier_20 : decode cX4_earlier 20 = .ok (.iconst 1, 1) := by decide +kernel
theorem dX4_earlier_21 : decode cX4_earlier 21 = .ok (.iadd, 1) := by decide +kernel
theorem dX4_earlier_22 : decode cX4_earlier 22 = .ok (.iaload, 1) := by decide +kernel
theorem dX4_earlier_23 : decode cX4_earlier 23 = .ok (.iadd, 1) := by decide +kernel
theorem dX4_earlier_24 : decode cX4_earlier 24 = .ok (.istore_n 3, 1) := by decide +kernel
theorem dX4_earlier_25 : decode cX4_earlier 25 = .ok (.bipush 32, 2) := by decide +kernel
theorem dX4_earlier_27 : decode cX4_earlier 27 = .ok (.aload_n 0, 1) := by decide +kernel
theorem dX4_earlier_28 : decode cX4_earlier 28 = .ok (.getfield 44, 3) := by decide +kernel
theorem dX4_earlier_31 : decode cX4_earlier 31 = .ok (.bipush 24, 2) := by decide +kernel
theorem dX4_earlier_33 : decode cX4_earlier 33 = .ok (.iload_n 2, 1) := by decide +kernel
theorem dX4_earlier_34 : decode cX4_earlier 34 = .ok (.imul, 1) := by decide +kernel
theorem dX4_earlier_35 : decode cX4_earlier 35 = .ok (.iaload, 1) := by decide +kernel
theorem dX4_earlier_36 : decode cX4_earlier 36 = .ok (.imul, 1) := by decide +kernel
theorem dX4_earlier_37 : decode cX4_earlier 37 = .ok (.aload_n 0, 1) := by decide +kernel
theorem dX4_earlier_38 : decode cX4_earlier 38 = .ok (.getfield 44, 3) := by decide +kernel
theorem dX4_earlier_41 : decode cX4_earlier 41 = .ok (.bipush 24, 2) := by decide +kernel
theorem dX4_earlier_43 : decode cX4_earlier 43 = .ok (.iload_n 2, 1) := by decide +kernel
theorem dX4_earlier_44 : decode cX4_earlier 44 = .ok (.imul, 1) := by decide +kernel
theorem dX4_earlier_45 : decode cX4_earlier 45 = .ok (.iconst 1, 1) := by decide +kernel
theorem dX4_earlier_46 : decode cX4_earlier 46 = .ok (.iadd, 1) := by decide +kernel
theorem dX4_earlier_47 : decode cX4_earlier 47 = .ok (.iaload, 1) := by decide +kernel
theorem dX4_earlier_48 : decode cX4_earlier 48 = .ok (.iadd, 1) := by decide +kernel
theorem dX4_earlier_49 : decode cX4_earlier 49 = .ok (.istore 4, 2) := by decide +kernel
theorem dX4_earlier_51 : decode cX4_earlier 51 = .ok (.iload_n 3, 1) := by decide +kernel
theorem dX4_earlier_52 : decode cX4_earlier 52 = .ok (.iload 4, 2) := by decide +kernel
theorem dX4_earlier_54 : decode cX4_earlier 54 = .ok (.if_icmp .ge 7, 3) := by decide +kernel
theorem dX4_earlier_57 : decode cX4_earlier 57 = .ok (.iconst 1, 1) := by decide +kernel
theorem dX4_earlier_58 : decode cX4_earlier 58 = .ok (.goto 4, 3) := by decide +kernel
theorem dX4_earlier_61 : decode cX4_earlier 61 = .ok (.iconst 0, 1) := by decide +kernel
theorem dX4_earlier_62 : decode cX4_earlier 62 = .ok (.ireturn, 1) := by decide +kernel
set_option maxRecDepth 20000 in
theorem ggX4_orderFaces_X4_earlier : GoodIn wsX4_orderFaces wsX4_earlier := goodIn_r _ [7, 8, 9, 10, 11, 12, 13, 14, 15, 16, 17, 18, 19, 20, 21, 22, 23, 24, 25, 26, 27, 28, 29, 30, 31, 32, 33, 34, 35] (by decide +kernel) (by decide +kernel)
set_option maxRecDepth 20000 in
theorem gX4_orderFaces_X4_earlier : GoodIn wsX4_orderFaces (wsV RX4 129 RX4 yX4_earlier wsX4_earlier) := goodIn_app (goodIn_of _ (by decide +kernel)) ggX4_orderFaces_X4_earlier
theorem dX4_orderFaces_0 : decode cX4_orderFaces 0 = .ok (.iconst 0, 1) := by decide +kernel
theorem dX4_orderFaces_1 : decode cX4_orderFaces 1 = .ok (.istore_n 1, 1) := by decide +kernel
theorem dX4_orderFaces_2 : decode cX4_orderFaces 2 = .ok (.iload_n 1, 1) := by decide +kernel
theorem dX4_orderFaces_3 : decode cX4_orderFaces 3 = .ok (.aload_n 0, 1) := by decide +kernel
theorem dX4_orderFaces_4 : decode cX4_orderFaces 4 = .ok (.getfield 91, 3) := by decide +kernel
theorem dX4_orderFaces_7 : decode cX4_orderFaces 7 = .ok (.if_icmp .ge 58, 3) := by decide +kernel
theorem dX4_orderFaces_10 : decode cX4_orderFaces 10 = .ok (.iload_n 1, 1) := by decide +kernel
theorem dX4_orderFaces_11 : decode cX4_orderFaces 11 = .ok (.istore_n 2, 1) := by decide +kernel
theorem dX4_orderFaces_12 : decode cX4_orderFaces 12 = .ok (.iload_n 2, 1) := by decide +kernel
theorem dX4_orderFaces_13 : decode cX4_orderFaces 13 = .ok (.ifCond .le 39, 3) := by decide +kernel
theorem dX4_orderFaces_16 : decode cX4_orderFaces 16 = .ok (.aload_n 0, 1) := by decide +kernel
theorem dX4_orderFaces_17 : decode cX4_orderFaces 17 = .ok (.iload_n 1, 1) := by decide +kernel
theorem dX4_orderFaces_18 : decode cX4_orderFaces 18 = .ok (.aload_n 0, 1) := by decide +kernel
theorem dX4_orderFaces_19 : decode cX4_orderFaces 19 = .ok (.getfield 47, 3) := by decide +kernel
theorem dX4_orderFaces_22 : decode cX4_orderFaces 22 = .ok (.iload_n 2, 1) := by decide +kernel
theorem dX4_orderFaces_23 : decode cX4_orderFaces 23 = .ok (.iconst 1, 1) := by decide +kernel
theorem dX4_orderFaces_24 : decode cX4_orderFaces 24 = .ok (.isub, 1) := by decide +kernel
theorem dX4_orderFaces_25 : decode cX4_orderFaces 25 = .ok (.iaload, 1) := by decide +kernel
theorem dX4_orderFaces_26 : decode cX4_orderFaces 26 = .ok (.invokevirtual 129, 3) := by decide +kernel
theorem dX4_orderFaces_29 : decode cX4_orderFaces 29 = .ok (.ifCond .eq 23, 3) := by decide +kernel
theorem dX4_orderFaces_32 : decode cX4_orderFaces 32 = .ok (.aload_n 0, 1) := by decide +kernel
theorem dX4_orderFaces_33 : decode cX4_orderFaces 33 = .ok (.getfield 47, 3) := by decide +kernel
theorem dX4_orderFaces_36 : decode cX4_orderFaces 36 = .ok (.iload_n 2, 1) := by decide +kernel
theorem dX4_orderFaces_37 : decode cX4_orderFaces 37 = .ok (.aload_n 0, 1) := by decide +kernel
theorem dX4_orderFaces_38 : decode cX4_orderFaces 38 = .ok (.getfield 47, 3) := by decide +kernel
theorem dX4_orderFaces_41 : decode cX4_orderFaces 41 = .ok (.iload_n 2, 1) := by decide +kernel
theorem dX4_orderFaces_42 : decode cX4_orderFaces 42 = .ok (.iconst 1, 1) := by decide +kernel
theorem dX4_orderFaces_43 : decode cX4_orderFaces 43 = .ok (.isub, 1) := by decide +kernel
theorem dX4_orderFaces_44 : decode cX4_orderFaces 44 = .ok (.iaload, 1) := by decide +kernel
theorem dX4_orderFaces_45 : decode cX4_orderFaces 45 = .ok (.iastore, 1) := by decide +kernel
theorem dX4_orderFaces_46 : decode cX4_orderFaces 46 = .ok (.iinc 2 (-1), 3) := by decide +kernel
theorem dX4_orderFaces_49 : decode cX4_orderFaces 49 = .ok (.goto (-37), 3) := by decide +kernel
theorem dX4_orderFaces_52 : decode cX4_orderFaces 52 = .ok (.aload_n 0, 1) := by decide +kernel
theorem dX4_orderFaces_53 : decode cX4_orderFaces 53 = .ok (.getfield 47, 3) := by decide +kernel
theorem dX4_orderFaces_56 : decode cX4_orderFaces 56 = .ok (.iload_n 2, 1) := by decide +kernel
theorem dX4_orderFaces_57 : decode cX4_orderFaces 57 = .ok (.iload_n 1, 1) := by decide +kernel
theorem dX4_orderFaces_58 : decode cX4_orderFaces 58 = .ok (.iastore, 1) := by decide +kernel
theorem dX4_orderFaces_59 : decode cX4_orderFaces 59 = .ok (.iinc 1 1, 3) := by decide +kernel
theorem dX4_orderFaces_62 : decode cX4_orderFaces 62 = .ok (.goto (-60), 3) := by decide +kernel
theorem dX4_orderFaces_65 : decode cX4_orderFaces 65 = .ok (.return_, 1) := by decide +kernel
theorem dX4_faceFrom_0 : decode cX4_faceFrom 0 = .ok (.iconst (-1), 1) := by decide +kernel
theorem dX4_faceFrom_1 : decode cX4_faceFrom 1 = .ok (.istore_n 3, 1) := by decide +kernel
theorem dX4_faceFrom_2 : decode cX4_faceFrom 2 = .ok (.iconst 0, 1) := by decide +kernel
theorem dX4_faceFrom_3 : decode cX4_faceFrom 3 = .ok (.istore 4, 2) := by decide +kernel
theorem dX4_faceFrom_5 : decode cX4_faceFrom 5 = .ok (.iload 4, 2) := by decide +kernel
theorem dX4_faceFrom_7 : decode cX4_faceFrom 7 = .ok (.aload_n 0, 1) := by decide +kernel
theorem dX4_faceFrom_8 : decode cX4_faceFrom 8 = .ok (.getfield 91, 3) := by decide +kernel
theorem dX4_faceFrom_11 : decode cX4_faceFrom 11 = .ok (.if_icmp .ge 102, 3) := by decide +kernel
theorem dX4_faceFrom_14 : decode cX4_faceFrom 14 = .ok (.aload_n 0, 1) := by decide +kernel
theorem dX4_faceFrom_15 : decode cX4_faceFrom 15 = .ok (.getfield 47, 3) := by decide +kernel
theorem dX4_faceFrom_18 : decode cX4_faceFrom 18 = .ok (.iload 4, 2) := by decide +kernel
theorem dX4_faceFrom_20 : decode cX4_faceFrom 20 = .ok (.iaload, 1) := by decide +kernel
theorem dX4_faceFrom_21 : decode cX4_faceFrom 21 = .ok (.istore 5, 2) := by decide +kernel
theorem dX4_faceFrom_23 : decode cX4_faceFrom 23 = .ok (.iconst 0, 1) := by decide +kernel
theorem dX4_faceFrom_24 : decode cX4_faceFrom 24 = .ok (.istore 6, 2) := by decide +kernel
theorem dX4_faceFrom_26 : decode cX4_faceFrom 26 = .ok (.iload 6, 2) := by decide +kernel
theorem dX4_faceFrom_28 : decode cX4_faceFrom 28 = .ok (.aload_n 0, 1) := by decide +kernel
theorem dX4_faceFrom_29 : decode cX4_faceFrom 29 = .ok (.getfield 41, 3) := by decide +kernel
theorem dX4_faceFrom_32 : decode cX4_faceFrom 32 = .ok (.iload 5, 2) := by decide +kernel
theorem dX4_faceFrom_34 : decode cX4_faceFrom 34 = .ok (.iaload, 1) := by decide +kernel
theorem dX4_faceFrom_35 : decode cX4_faceFrom 35 = .ok (.if_icmp .ge 72, 3) := by decide +kernel
theorem dX4_faceFrom_38 : decode cX4_faceFrom 38 = .ok (.aload_n 0, 1) := by decide +kernel
theorem dX4_faceFrom_39 : decode cX4_faceFrom 39 = .ok (.getfield 44, 3) := by decide +kernel
theorem dX4_faceFrom_42 : decode cX4_faceFrom 42 = .ok (.bipush 24, 2) := by decide +kernel
theorem dX4_faceFrom_44 : decode cX4_faceFrom 44 = .ok (.iload 5, 2) := by decide +kernel
theorem dX4_faceFrom_46 : decode cX4_faceFrom 46 = .ok (.imul, 1) := by decide +kernel
theorem dX4_faceFrom_47 : decode cX4_faceFrom 47 = .ok (.iload 6, 2) := by decide +kernel
theorem dX4_faceFrom_49 : decode cX4_faceFrom 49 = .ok (.iadd, 1) := by decide +kernel
theorem dX4_faceFrom_50 : decode cX4_faceFrom 50 = .ok (.iaload, 1) := by decide +kernel
theorem dX4_faceFrom_51 : decode cX4_faceFrom 51 = .ok (.iload_n 1, 1) := by decide +kernel
theorem dX4_faceFrom_52 : decode cX4_faceFrom 52 = .ok (.if_icmp .ne 34, 3) := by decide +kernel
theorem dX4_faceFrom_55 : decode cX4_faceFrom 55 = .ok (.aload_n 0, 1) := by decide +kernel
theorem dX4_faceFrom_56 : decode cX4_faceFrom 56 = .ok (.getfield 44, 3) := by decide +kernel
theorem dX4_faceFrom_59 : decode cX4_faceFrom 59 = .ok (.bipush 24, 2) := by decide +kernel
theorem dX4_faceFrom_61 : decode cX4_faceFrom 61 = .ok (.iload 5, 2) := by decide +kernel
theorem dX4_faceFrom_63 : decode cX4_faceFrom 63 = .ok (.imul, 1) := by decide +kernel
theorem dX4_faceFrom_64 : decode cX4_faceFrom 64 = .ok (.iload 6, 2) := by decide +kernel
theorem dX4_faceFrom_66 : decode cX4_faceFrom 66 = .ok (.iconst 1, 1) := by decide +kernel
theorem dX4_faceFrom_67 : decode cX4_faceFrom 67 = .ok (.iadd, 1) := by decide +kernel
theorem dX4_faceFrom_68 : decode cX4_faceFrom 68 = .ok (.aload_n 0, 1) := by decide +kernel
theorem dX4_faceFrom_69 : decode cX4_faceFrom 69 = .ok (.getfield 41, 3) := by decide +kernel
theorem dX4_faceFrom_72 : decode cX4_faceFrom 72 = .ok (.iload 5, 2) := by decide +kernel
theorem dX4_faceFrom_74 : decode cX4_faceFrom 74 = .ok (.iaload, 1) := by decide +kernel
theorem dX4_faceFrom_75 : decode cX4_faceFrom 75 = .ok (.irem, 1) := by decide +kernel
theorem dX4_faceFrom_76 : decode cX4_faceFrom 76 = .ok (.iadd, 1) := by decide +kernel
theorem dX4_faceFrom_77 : decode cX4_faceFrom 77 = .ok (.iaload, 1) := by decide +kernel
theorem dX4_faceFrom_78 : decode cX4_faceFrom 78 = .ok (.iload_n 2, 1) := by decide +kernel
theorem dX4_faceFrom_79 : decode cX4_faceFrom 79 = .ok (.if_icmp .ne 7, 3) := by decide +kernel
theorem dX4_faceFrom_82 : decode cX4_faceFrom 82 = .ok (.iconst 1, 1) := by decide +kernel
theorem dX4_faceFrom_83 : decode cX4_faceFrom 83 = .ok (.goto 4, 3) := by decide +kernel
theorem dX4_faceFrom_86 : decode cX4_faceFrom 86 = .ok (.iconst 0, 1) := by decide +kernel
theorem dX4_faceFrom_87 : decode cX4_faceFrom 87 = .ok (.istore 7, 2) := by decide +kernel
theorem dX4_faceFrom_89 : decode cX4_faceFrom 89 = .ok (.iload 7, 2) := by decide +kernel
theorem dX4_faceFrom_91 : decode cX4_faceFrom 91 = .ok (.ifCond .eq 8, 3) := by decide +kernel
theorem dX4_faceFrom_94 : decode cX4_faceFrom 94 = .ok (.iload 4, 2) := by decide +kernel
theorem dX4_faceFrom_96 : decode cX4_faceFrom 96 = .ok (.goto 4, 3) := by decide +kernel
theorem dX4_faceFrom_99 : decode cX4_faceFrom 99 = .ok (.iload_n 3, 1) := by decide +kernel
theorem dX4_faceFrom_100 : decode cX4_faceFrom 100 = .ok (.istore_n 3, 1) := by decide +kernel
theorem dX4_faceFrom_101 : decode cX4_faceFrom 101 = .ok (.iinc 6 1, 3) := by decide +kernel
theorem dX4_faceFrom_104 : decode cX4_faceFrom 104 = .ok (.goto (-78), 3) := by decide +kernel
theorem dX4_faceFrom_107 : decode cX4_faceFrom 107 = .ok (.iinc 4 1, 3) := by decide +kernel
theorem dX4_faceFrom_110 : decode cX4_faceFrom 110 = .ok (.goto (-105), 3) := by decide +kernel
theorem dX4_faceFrom_113 : decode cX4_faceFrom 113 = .ok (.iload_n 3, 1) := by decide +kernel
theorem dX4_faceFrom_114 : decode cX4_faceFrom 114 = .ok (.ireturn, 1) := by decide +kernel
set_option maxRecDepth 20000 in
theorem ggX4_findEdges_X4_faceFrom : GoodIn wsX4_findEdges wsX4_faceFrom := goodIn_r _ [10, 11, 12, 13, 14, 15, 16, 17, 18, 19, 20, 21, 22, 23, 24, 25, 26, 27, 28, 29, 30, 31, 32, 33, 34, 35, 36, 37, 38, 39, 40, 41] (by decide +kernel) (by decide +kernel)
set_option maxRecDepth 20000 in
theorem gX4_findEdges_X4_faceFrom : GoodIn wsX4_findEdges (wsV RX4 135 RX4 yX4_faceFrom wsX4_faceFrom) := goodIn_app (goodIn_of _ (by decide +kernel)) ggX4_findEdges_X4_faceFrom
theorem dX4_findEdges_0 : decode cX4_findEdges 0 = .ok (.aload_n 0, 1) := by decide +kernel
theorem dX4_findEdges_1 : decode cX4_findEdges 1 = .ok (.iconst 0, 1) := by decide +kernel
theorem dX4_findEdges_2 : decode cX4_findEdges 2 = .ok (.putfield 132, 3) := by decide +kernel
theorem dX4_findEdges_5 : decode cX4_findEdges 5 = .ok (.iconst 0, 1) := by decide +kernel
theorem dX4_findEdges_6 : decode cX4_findEdges 6 = .ok (.istore_n 1, 1) := by decide +kernel
theorem dX4_findEdges_7 : decode cX4_findEdges 7 = .ok (.iload_n 1, 1) := by decide +kernel
theorem dX4_findEdges_8 : decode cX4_findEdges 8 = .ok (.aload_n 0, 1) := by decide +kernel
theorem dX4_findEdges_9 : decode cX4_findEdges 9 = .ok (.getfield 98, 3) := by decide +kernel
theorem dX4_findEdges_12 : decode cX4_findEdges 12 = .ok (.if_icmp .ge 88, 3) := by decide +kernel
theorem dX4_findEdges_15 : decode cX4_findEdges 15 = .ok (.iload_n 1, 1) := by decide +kernel
theorem dX4_findEdges_16 : decode cX4_findEdges 16 = .ok (.iconst 1, 1) := by decide +kernel
theorem dX4_findEdges_17 : decode cX4_findEdges 17 = .ok (.iadd, 1) := by decide +kernel
theorem dX4_findEdges_18 : decode cX4_findEdges 18 = .ok (.istore_n 2, 1) := by decide +kernel
theorem dX4_findEdges_19 : decode cX4_findEdges 19 = .ok (.iload_n 2, 1) := by decide +kernel
theorem dX4_findEdges_20 : decode cX4_findEdges 20 = .ok (.aload_n 0, 1) := by decide +kernel
theorem dX4_findEdges_21 : decode cX4_findEdges 21 = .ok (.getfield 98, 3) := by decide +kernel
theorem dX4_findEdges_24 : decode cX4_findEdges 24 = .ok (.if_icmp .ge 70, 3) := by decide +kernel
theorem dX4_findEdges_27 : decode cX4_findEdges 27 = .ok (.aload_n 0, 1) := by decide +kernel
theorem dX4_findEdges_28 : decode cX4_findEdges 28 = .ok (.iload_n 1, 1) := by decide +kernel
theorem dX4_findEdges_29 : decode cX4_findEdges 29 = .ok (.iload_n 2, 1) := by decide +kernel
theorem dX4_findEdges_30 : decode cX4_findEdges 30 = .ok (.invokevirtual 135, 3) := by decide +kernel
theorem dX4_findEdges_33 : decode cX4_findEdges 33 = .ok (.istore_n 3, 1) := by decide +kernel
theorem dX4_findEdges_34 : decode cX4_findEdges 34 = .ok (.iload_n 3, 1) := by decide +kernel
theorem dX4_findEdges_35 : decode cX4_findEdges 35 = .ok (.ifCond .lt 53, 3) := by decide +kernel
theorem dX4_findEdges_38 : decode cX4_findEdges 38 = .ok (.aload_n 0, 1) := by decide +kernel
theorem dX4_findEdges_39 : decode cX4_findEdges 39 = .ok (.getfield 50, 3) := by decide +kernel
theorem dX4_findEdges_42 : decode cX4_findEdges 42 = .ok (.aload_n 0, 1) := by decide +kernel
theorem dX4_findEdges_43 : decode cX4_findEdges 43 = .ok (.getfield 132, 3) := by decide +kernel
theorem dX4_findEdges_46 : decode cX4_findEdges 46 = .ok (.bipush 32, 2) := by decide +kernel
theorem dX4_findEdges_48 : decode cX4_findEdges 48 = .ok (.iload_n 1, 1) := by decide +kernel
theorem dX4_findEdges_49 : decode cX4_findEdges 49 = .ok (.imul, 1) := by decide +kernel
theorem dX4_findEdges_50 : decode cX4_findEdges 50 = .ok (.iload_n 2, 1) := by decide +kernel
theorem dX4_findEdges_51 : decode cX4_findEdges 51 = .ok (.iadd, 1) := by decide +kernel
theorem dX4_findEdges_52 : decode cX4_findEdges 52 = .ok (.iastore, 1) := by decide +kernel
theorem dX4_findEdges_53 : decode cX4_findEdges 53 = .ok (.aload_n 0, 1) := by decide +kernel
theorem dX4_findEdges_54 : decode cX4_findEdges 54 = .ok (.getfield 53, 3) := by decide +kernel
theorem dX4_findEdges_57 : decode cX4_findEdges 57 = .ok (.aload_n 0, 1) := by decide +kernel
theorem dX4_findEdges_58 : decode cX4_findEdges 58 = .ok (.getfield 132, 3) := by decide +kernel
theorem dX4_findEdges_61 : decode cX4_findEdges 61 = .ok (.iload_n 3, 1) := by decide +kernel
theorem dX4_findEdges_62 : decode cX4_findEdges 62 = .ok (.iastore, 1) := by decide +kernel
theorem dX4_findEdges_63 : decode cX4_findEdges 63 = .ok (.aload_n 0, 1) := by decide +kernel
theorem dX4_findEdges_64 : decode cX4_findEdges 64 = .ok (.getfield 56, 3) := by decide +kernel
theorem dX4_findEdges_67 : decode cX4_findEdges 67 = .ok (.aload_n 0, 1) := by decide +kernel
theorem dX4_findEdges_68 : decode cX4_findEdges 68 = .ok (.getfield 132, 3) := by decide +kernel
theorem dX4_findEdges_71 : decode cX4_findEdges 71 = .ok (.aload_n 0, 1) := by decide +kernel
theorem dX4_findEdges_72 : decode cX4_findEdges 72 = .ok (.iload_n 2, 1) := by decide +kernel
theorem dX4_findEdges_73 : decode cX4_findEdges 73 = .ok (.iload_n 1, 1) := by decide +kernel
theorem dX4_findEdges_74 : decode cX4_findEdges 74 = .ok (.invokevirtual 135, 3) := by decide +kernel
theorem dX4_findEdges_77 : decode cX4_findEdges 77 = .ok (.iastore, 1) := by decide +kernel
theorem dX4_findEdges_78 : decode cX4_findEdges 78 = .ok (.aload_n 0, 1) := by decide +kernel
theorem dX4_findEdges_79 : decode cX4_findEdges 79 = .ok (.dup, 1) := by decide +kernel
theorem dX4_findEdges_80 : decode cX4_findEdges 80 = .ok (.getfield 132, 3) := by decide +kernel
theorem dX4_findEdges_83 : decode cX4_findEdges 83 = .ok (.iconst 1, 1) := by decide +kernel
theorem dX4_findEdges_84 : decode cX4_findEdges 84 = .ok (.iadd, 1) := by decide +kernel
theorem dX4_findEdges_85 : decode cX4_findEdges 85 = .ok (.putfield 132, 3) := by decide +kernel
theorem dX4_findEdges_88 : decode cX4_findEdges 88 = .ok (.iinc 2 1, 3) := by decide +kernel
theorem dX4_findEdges_91 : decode cX4_findEdges 91 = .ok (.goto (-72), 3) := by decide +kernel
theorem dX4_findEdges_94 : decode cX4_findEdges 94 = .ok (.iinc 1 1, 3) := by decide +kernel
theorem dX4_findEdges_97 : decode cX4_findEdges 97 = .ok (.goto (-90), 3) := by decide +kernel
theorem dX4_findEdges_100 : decode cX4_findEdges 100 = .ok (.return_, 1) := by decide +kernel
set_option maxRecDepth 20000 in
theorem ggX4_solid_X4_volumeOf : GoodIn wsX4_solid wsX4_volumeOf := goodIn_r _ [6, 7, 8, 9, 10, 11, 12, 13, 14, 15, 16, 17, 18, 19, 20, 21, 22, 23, 24, 25, 26, 27, 28, 29, 30, 31, 32, 33, 34, 35, 36] (by decide +kernel) (by decide +kernel)
set_option maxRecDepth 20000 in
theorem gX4_solid_X4_volumeOf : GoodIn wsX4_solid (wsV RX4 138 RX4 yX4_volumeOf wsX4_volumeOf) := goodIn_app (goodIn_of _ (by decide +kernel)) ggX4_solid_X4_volumeOf
theorem dX4_solid_0 : decode cX4_solid 0 = .ok (.iconst 0, 1) := by decide +kernel
theorem dX4_solid_1 : decode cX4_solid 1 = .ok (.istore_n 1, 1) := by decide +kernel
theorem dX4_solid_2 : decode cX4_solid 2 = .ok (.iconst 0, 1) := by decide +kernel
theorem dX4_solid_3 : decode cX4_solid 3 = .ok (.istore_n 2, 1) := by decide +kernel
theorem dX4_solid_4 : decode cX4_solid 4 = .ok (.iload_n 2, 1) := by decide +kernel
theorem dX4_solid_5 : decode cX4_solid 5 = .ok (.aload_n 0, 1) := by decide +kernel
theorem dX4_solid_6 : decode cX4_solid 6 = .ok (.getfield 66, 3) := by decide +kernel
theorem dX4_solid_9 : decode cX4_solid 9 = .ok (.if_icmp .ge 93, 3) := by decide +kernel
theorem dX4_solid_12 : decode cX4_solid 12 = .ok (.iload_n 2, 1) := by decide +kernel
theorem dX4_solid_13 : decode cX4_solid 13 = .ok (.iconst 1, 1) := by decide +kernel
theorem dX4_solid_14 : decode cX4_solid 14 = .ok (.iadd, 1) := by decide +kernel
theorem dX4_solid_15 : decode cX4_solid 15 = .ok (.istore_n 3, 1) := by decide +kernel
theorem dX4_solid_16 : decode cX4_solid 16 = .ok (.iload_n 3, 1) := by decide +kernel
theorem dX4_solid_17 : decode cX4_solid 17 = .ok (.aload_n 0, 1) := by decide +kernel
theorem dX4_solid_18 : decode cX4_solid 18 = .ok (.getfield 66, 3) := by decide +kernel
theorem dX4_solid_21 : decode cX4_solid 21 = .ok (.if_icmp .ge 75, 3) := by decide +kernel
theorem dX4_solid_24 : decode cX4_solid 24 = .ok (.iload_n 3, 1) := by decide +kernel
theorem dX4_solid_25 : decode cX4_solid 25 = .ok (.iconst 1, 1) := by decide +kernel
theorem dX4_solid_26 : decode cX4_solid 26 = .ok (.iadd, 1) := by decide +kernel
theorem dX4_solid_27 : decode cX4_solid 27 = .ok (.istore 4, 2) := by decide +kernel
theorem dX4_solid_29 : decode cX4_solid 29 = .ok (.iload 4, 2) := by decide +kernel
theorem dX4_solid_31 : decode cX4_solid 31 = .ok (.aload_n 0, 1) := by decide +kernel
theorem dX4_solid_32 : decode cX4_solid 32 = .ok (.getfield 66, 3) := by decide +kernel
theorem dX4_solid_35 : decode cX4_solid 35 = .ok (.if_icmp .ge 55, 3) := by decide +kernel
theorem dX4_solid_38 : decode cX4_solid 38 = .ok (.iload 4, 2) := by decide +kernel
theorem dX4_solid_40 : decode cX4_solid 40 = .ok (.iconst 1, 1) := by decide +kernel
theorem dX4_solid_41 : decode cX4_solid 41 = .ok (.iadd, 1) := by decide +kernel
theorem dX4_solid_42 : decode cX4_solid 42 = .ok (.istore 5, 2) := by decide +kernel
theorem dX4_solid_44 : decode cX4_solid 44 = .ok (.iload 5, 2) := by decide +kernel
theorem dX4_solid_46 : decode cX4_solid 46 = .ok (.aload_n 0, 1) := by decide +kernel
theorem dX4_solid_47 : decode cX4_solid 47 = .ok (.getfield 66, 3) := by decide +kernel
theorem dX4_solid_50 : decode cX4_solid 50 = .ok (.if_icmp .ge 34, 3) := by decide +kernel
theorem dX4_solid_53 : decode cX4_solid 53 = .ok (.iload_n 1, 1) := by decide +kernel
theorem dX4_solid_54 : decode cX4_solid 54 = .ok (.ifCond .ne 30, 3) := by decide +kernel
theorem dX4_solid_57 : decode cX4_solid 57 = .ok (.aload_n 0, 1) := by decide +kernel
theorem dX4_solid_58 : decode cX4_solid 58 = .ok (.iload_n 2, 1) := by decide +kernel
theorem dX4_solid_59 : decode cX4_solid 59 = .ok (.iload_n 3, 1) := by decide +kernel
theorem dX4_solid_60 : decode cX4_solid 60 = .ok (.iload 4, 2) := by decide +kernel
theorem dX4_solid_62 : decode cX4_solid 62 = .ok (.iload 5, 2) := by decide +kernel
theorem dX4_solid_64 : decode cX4_solid 64 = .ok (.invokevirtual 138, 3) := by decide +kernel
theorem dX4_solid_67 : decode cX4_solid 67 = .ok (.lconst 0, 1) := by decide +kernel
theorem dX4_solid_68 : decode cX4_solid 68 = .ok (.lcmp, 1) := by decide +kernel
theorem dX4_solid_69 : decode cX4_solid 69 = .ok (.ifCond .eq 7, 3) := by decide +kernel
theorem dX4_solid_72 : decode cX4_solid 72 = .ok (.iconst 1, 1) := by decide +kernel
theorem dX4_solid_73 : decode cX4_solid 73 = .ok (.goto 4, 3) := by decide +kernel
theorem dX4_solid_76 : decode cX4_solid 76 = .ok (.iconst 0, 1) := by decide +kernel
theorem dX4_solid_77 : decode cX4_solid 77 = .ok (.istore_n 1, 1) := by decide +kernel
theorem dX4_solid_78 : decode cX4_solid 78 = .ok (.iinc 5 1, 3) := by decide +kernel
theorem dX4_solid_81 : decode cX4_solid 81 = .ok (.goto (-37), 3) := by decide +kernel
theorem dX4_solid_84 : decode cX4_solid 84 = .ok (.iinc 4 1, 3) := by decide +kernel
theorem dX4_solid_87 : decode cX4_solid 87 = .ok (.goto (-58), 3) := by decide +kernel
theorem dX4_solid_90 : decode cX4_solid 90 = .ok (.iinc 3 1, 3) := by decide +kernel
theorem dX4_solid_93 : decode cX4_solid 93 = .ok (.goto (-77), 3) := by decide +kernel
theorem dX4_solid_96 : decode cX4_solid 96 = .ok (.iinc 2 1, 3) := by decide +kernel
theorem dX4_solid_99 : decode cX4_solid 99 = .ok (.goto (-95), 3) := by decide +kernel
theorem dX4_solid_102 : decode cX4_solid 102 = .ok (.iload_n 1, 1) := by decide +kernel
theorem dX4_solid_103 : decode cX4_solid 103 = .ok (.ireturn, 1) := by decide +kernel
theorem dX4_volumeOf_0 : decode cX4_volumeOf 0 = .ok (.aload_n 0, 1) := by decide +kernel
theorem dX4_volumeOf_1 : decode cX4_volumeOf 1 = .ok (.getfield 7, 3) := by decide +kernel
theorem dX4_volumeOf_4 : decode cX4_volumeOf 4 = .ok (.iload_n 2, 1) := by decide +kernel
theorem dX4_volumeOf_5 : decode cX4_volumeOf 5 = .ok (.iaload, 1) := by decide +kernel
theorem dX4_volumeOf_6 : decode cX4_volumeOf 6 = .ok (.aload_n 0, 1) := by decide +kernel
theorem dX4_volumeOf_7 : decode cX4_volumeOf 7 = .ok (.getfield 7, 3) := by decide +kernel
theorem dX4_volumeOf_10 : decode cX4_volumeOf 10 = .ok (.iload_n 1, 1) := by decide +kernel
theorem dX4_volumeOf_11 : decode cX4_volumeOf 11 = .ok (.iaload, 1) := by decide +kernel
theorem dX4_volumeOf_12 : decode cX4_volumeOf 12 = .ok (.isub, 1) := by decide +kernel
theorem dX4_volumeOf_13 : decode cX4_volumeOf 13 = .ok (.i2l, 1) := by decide +kernel
theorem dX4_volumeOf_14 : decode cX4_volumeOf 14 = .ok (.lstore 5, 2) := by decide +kernel
theorem dX4_volumeOf_16 : decode cX4_volumeOf 16 = .ok (.aload_n 0, 1) := by decide +kernel
theorem dX4_volumeOf_17 : decode cX4_volumeOf 17 = .ok (.getfield 13, 3) := by decide +kernel
theorem dX4_volumeOf_20 : decode cX4_volumeOf 20 = .ok (.iload_n 2, 1) := by decide +kernel
theorem dX4_volumeOf_21 : decode cX4_volumeOf 21 = .ok (.iaload, 1) := by decide +kernel
theorem dX4_volumeOf_22 : decode cX4_volumeOf 22 = .ok (.aload_n 0, 1) := by decide +kernel
theorem dX4_volumeOf_23 : decode cX4_volumeOf 23 = .ok (.getfield 13, 3) := by decide +kernel
theorem dX4_volumeOf_26 : decode cX4_volumeOf 26 = .ok (.iload_n 1, 1) := by decide +kernel
theorem dX4_volumeOf_27 : decode cX4_volumeOf 27 = .ok (.iaload, 1) := by decide +kernel
theorem dX4_volumeOf_28 : decode cX4_volumeOf 28 = .ok (.isub, 1) := by decide +kernel
theorem dX4_volumeOf_29 : decode cX4_volumeOf 29 = .ok (.i2l, 1) := by decide +kernel
theorem dX4_volumeOf_30 : decode cX4_volumeOf 30 = .ok (.lstore 7, 2) := by decide +kernel
theorem dX4_volumeOf_32 : decode cX4_volumeOf 32 = .ok (.aload_n 0, 1) := by decide +kernel
theorem dX4_volumeOf_33 : decode cX4_volumeOf 33 = .ok (.getfield 16, 3) := by decide +kernel
theorem dX4_volumeOf_36 : decode cX4_volumeOf 36 = .ok (.iload_n 2, 1) := by decide +kernel
theorem dX4_volumeOf_37 : decode cX4_volumeOf 37 = .ok (.iaload, 1) := by decide +kernel
theorem dX4_volumeOf_38 : decode cX4_volumeOf 38 = .ok (.aload_n 0, 1) := by decide +kernel
theorem dX4_volumeOf_39 : decode cX4_volumeOf 39 = .ok (.getfield 16, 3) := by decide +kernel
theorem dX4_volumeOf_42 : decode cX4_volumeOf 42 = .ok (.iload_n 1, 1) := by decide +kernel
theorem dX4_volumeOf_43 : decode cX4_volumeOf 43 = .ok (.iaload, 1) := by decide +kernel
theorem dX4_volumeOf_44 : decode cX4_volumeOf 44 = .ok (.isub, 1) := by decide +kernel
theorem dX4_volumeOf_45 : decode cX4_volumeOf 45 = .ok (.i2l, 1) := by decide +kernel
theorem dX4_volumeOf_46 : decode cX4_volumeOf 46 = .ok (.lstore 9, 2) := by decide +kernel
theorem dX4_volumeOf_48 : decode cX4_volumeOf 48 = .ok (.aload_n 0, 1) := by decide +kernel
theorem dX4_volumeOf_49 : decode cX4_volumeOf 49 = .ok (.getfield 7, 3) := by decide +kernel
theorem dX4_volumeOf_52 : decode cX4_volumeOf 52 = .ok (.iload_n 3, 1) := by decide +kernel
theorem dX4_volumeOf_53 : decode cX4_volumeOf 53 = .ok (.iaload, 1) := by decide +kernel
theorem dX4_volumeOf_54 : decode cX4_volumeOf 54 = .ok (.aload_n 0, 1) := by decide +kernel
theorem dX4_volumeOf_55 : decode cX4_volumeOf 55 = .ok (.getfield 7, 3) := by decide +kernel
theorem dX4_volumeOf_58 : decode cX4_volumeOf 58 = .ok (.iload_n 1, 1) := by decide +kernel
theorem dX4_volumeOf_59 : decode cX4_volumeOf 59 = .ok (.iaload, 1) := by decide +kernel
theorem dX4_volumeOf_60 : decode cX4_volumeOf 60 = .ok (.isub, 1) := by decide +kernel
theorem dX4_volumeOf_61 : decode cX4_volumeOf 61 = .ok (.i2l, 1) := by decide +kernel
theorem dX4_volumeOf_62 : decode cX4_volumeOf 62 = .ok (.lstore 11, 2) := by decide +kernel
theorem dX4_volumeOf_64 : decode cX4_volumeOf 64 = .ok (.aload_n 0, 1) := by decide +kernel
theorem dX4_volumeOf_65 : decode cX4_volumeOf 65 = .ok (.getfield 13, 3) := by decide +kernel
theorem dX4_volumeOf_68 : decode cX4_volumeOf 68 = .ok (.iload_n 3, 1) := by decide +kernel
theorem dX4_volumeOf_69 : decode cX4_volumeOf 69 = .ok (.iaload, 1) := by decide +kernel
theorem dX4_volumeOf_70 : decode cX4_volumeOf 70 = .ok (.aload_n 0, 1) := by decide +kernel
theorem dX4_volumeOf_71 : decode cX4_volumeOf 71 = .ok (.getfield 13, 3) := by decide +kernel
theorem dX4_volumeOf_74 : decode cX4_volumeOf 74 = .ok (.iload_n 1, 1) := by decide +kernel
theorem dX4_volumeOf_75 : decode cX4_volumeOf 75 = .ok (.iaload, 1) := by decide +kernel
theorem dX4_volumeOf_76 : decode cX4_volumeOf 76 = .ok (.isub, 1) := by decide +kernel
theorem dX4_volumeOf_77 : decode cX4_volumeOf 77 = .ok (.i2l, 1) := by decide +kernel
theorem dX4_volumeOf_78 : decode cX4_volumeOf 78 = .ok (.lstore 13, 2) := by decide +kernel
theorem dX4_volumeOf_80 : decode cX4_volumeOf 80 = .ok (.aload_n 0, 1) := by decide +kernel
theorem dX4_volumeOf_81 : decode cX4_volumeOf 81 = .ok (.getfield 16, 3) := by decide +kernel
theorem dX4_volumeOf_84 : decode cX4_volumeOf 84 = .ok (.iload_n 3, 1) := by decide +kernel
theorem dX4_volumeOf_85 : decode cX4_volumeOf 85 = .ok (.iaload, 1) := by decide +kernel
theorem dX4_volumeOf_86 : decode cX4_volumeOf 86 = .ok (.aload_n 0, 1) := by decide +kernel
theorem dX4_volumeOf_87 : decode cX4_volumeOf 87 = .ok (.getfield 16, 3) := by decide +kernel
theorem dX4_volumeOf_90 : decode cX4_volumeOf 90 = .ok (.iload_n 1, 1) := by decide +kernel
theorem dX4_volumeOf_91 : decode cX4_volumeOf 91 = .ok (.iaload, 1) := by decide +kernel
theorem dX4_volumeOf_92 : decode cX4_volumeOf 92 = .ok (.isub, 1) := by decide +kernel
theorem dX4_volumeOf_93 : decode cX4_volumeOf 93 = .ok (.i2l, 1) := by decide +kernel
theorem dX4_volumeOf_94 : decode cX4_volumeOf 94 = .ok (.lstore 15, 2) := by decide +kernel
theorem dX4_volumeOf_96 : decode cX4_volumeOf 96 = .ok (.aload_n 0, 1) := by decide +kernel
theorem dX4_volumeOf_97 : decode cX4_volumeOf 97 = .ok (.getfield 7, 3) := by decide +kernel
theorem dX4_volumeOf_100 : decode cX4_volumeOf 100 = .ok (.iload 4, 2) := by decide +kernel
theorem dX4_volumeOf_102 : decode cX4_volumeOf 102 = .ok (.iaload, 1) := by decide +kernel
theorem dX4_volumeOf_103 : decode cX4_volumeOf 103 = .ok (.aload_n 0, 1) := by decide +kernel
theorem dX4_volumeOf_104 : decode cX4_volumeOf 104 = .ok (.getfield 7, 3) := by decide +kernel
theorem dX4_volumeOf_107 : decode cX4_volumeOf 107 = .ok (.iload_n 1, 1) := by decide +kernel
theorem dX4_volumeOf_108 : decode cX4_volumeOf 108 = .ok (.iaload, 1) := by decide +kernel
theorem dX4_volumeOf_109 : decode cX4_volumeOf 109 = .ok (.isub, 1) := by decide +kernel
theorem dX4_volumeOf_110 : decode cX4_volumeOf 110 = .ok (.i2l, 1) := by decide +kernel
theorem dX4_volumeOf_111 : decode cX4_volumeOf 111 = .ok (.lstore 17, 2) := by decide +kernel
theorem dX4_volumeOf_113 : decode cX4_volumeOf 113 = .ok (.aload_n 0, 1) := by decide +kernel
theorem dX4_volumeOf_114 : decode cX4_volumeOf 114 = .ok (.getfield 13, 3) := by decide +kernel
theorem dX4_volumeOf_117 : decode cX4_volumeOf 117 = .ok (.iload 4, 2) := by decide +kernel
theorem dX4_volumeOf_119 : decode cX4_volumeOf 119 = .ok (.iaload, 1) := by decide +kernel
theorem dX4_volumeOf_120 : decode cX4_volumeOf 120 = .ok (.aload_n 0, 1) := by decide +kernel
theorem dX4_volumeOf_121 : decode cX4_volumeOf 121 = .ok (.getfield 13, 3) := by decide +kernel
theorem dX4_volumeOf_124 : decode cX4_volumeOf 124 = .ok (.iload_n 1, 1) := by decide +kernel
theorem dX4_volumeOf_125 : decode cX4_volumeOf 125 = .ok (.iaload, 1) := by decide +kernel
theorem dX4_volumeOf_126 : decode cX4_volumeOf 126 = .ok (.isub, 1) := by decide +kernel
theorem dX4_volumeOf_127 : decode cX4_volumeOf 127 = .ok (.i2l, 1) := by decide +kernel
theorem dX4_volumeOf_128 : decode cX4_volumeOf 128 = .ok (.lstore 19, 2) := by decide +kernel
theorem dX4_volumeOf_130 : decode cX4_volumeOf 130 = .ok (.aload_n 0, 1) := by decide +kernel
theorem dX4_volumeOf_131 : decode cX4_volumeOf 131 = .ok (.getfield 16, 3) := by decide +kernel
theorem dX4_volumeOf_134 : decode cX4_volumeOf 134 = .ok (.iload 4, 2) := by decide +kernel
theorem dX4_volumeOf_136 : decode cX4_volumeOf 136 = .ok (.iaload, 1) := by decide +kernel
theorem dX4_volumeOf_137 : decode cX4_volumeOf 137 = .ok (.aload_n 0, 1) := by decide +kernel
theorem dX4_volumeOf_138 : decode cX4_volumeOf 138 = .ok (.getfield 16, 3) := by decide +kernel
theorem dX4_volumeOf_141 : decode cX4_volumeOf 141 = .ok (.iload_n 1, 1) := by decide +kernel
theorem dX4_volumeOf_142 : decode cX4_volumeOf 142 = .ok (.iaload, 1) := by decide +kernel
theorem dX4_volumeOf_143 : decode cX4_volumeOf 143 = .ok (.isub, 1) := by decide +kernel
theorem dX4_volumeOf_144 : decode cX4_volumeOf 144 = .ok (.i2l, 1) := by decide +kernel
theorem dX4_volumeOf_145 : decode cX4_volumeOf 145 = .ok (.lstore 21, 2) := by decide +kernel
theorem dX4_volumeOf_147 : decode cX4_volumeOf 147 = .ok (.lload 7, 2) := by decide +kernel
theorem dX4_volumeOf_149 : decode cX4_volumeOf 149 = .ok (.lload 15, 2) := by decide +kernel
theorem dX4_volumeOf_151 : decode cX4_volumeOf 151 = .ok (.lmul, 1) := by decide +kernel
theorem dX4_volumeOf_152 : decode cX4_volumeOf 152 = .ok (.lload 9, 2) := by decide +kernel
theorem dX4_volumeOf_154 : decode cX4_volumeOf 154 = .ok (.lload 13, 2) := by decide +kernel
theorem dX4_volumeOf_156 : decode cX4_volumeOf 156 = .ok (.lmul, 1) := by decide +kernel
theorem dX4_volumeOf_157 : decode cX4_volumeOf 157 = .ok (.lsub, 1) := by decide +kernel
theorem dX4_volumeOf_158 : decode cX4_volumeOf 158 = .ok (.lload 17, 2) := by decide +kernel
theorem dX4_volumeOf_160 : decode cX4_volumeOf 160 = .ok (.lmul, 1) := by decide +kernel
theorem dX4_volumeOf_161 : decode cX4_volumeOf 161 = .ok (.lload 9, 2) := by decide +kernel
theorem dX4_volumeOf_163 : decode cX4_volumeOf 163 = .ok (.lload 11, 2) := by decide +kernel
theorem dX4_volumeOf_165 : decode cX4_volumeOf 165 = .ok (.lmul, 1) := by decide +kernel
theorem dX4_volumeOf_166 : decode cX4_volumeOf 166 = .ok (.lload 5, 2) := by decide +kernel
theorem dX4_volumeOf_168 : decode cX4_volumeOf 168 = .ok (.lload 15, 2) := by decide +kernel
theorem dX4_volumeOf_170 : decode cX4_volumeOf 170 = .ok (.lmul, 1) := by decide +kernel
theorem dX4_volumeOf_171 : decode cX4_volumeOf 171 = .ok (.lsub, 1) := by decide +kernel
theorem dX4_volumeOf_172 : decode cX4_volumeOf 172 = .ok (.lload 19, 2) := by decide +kernel
theorem dX4_volumeOf_174 : decode cX4_volumeOf 174 = .ok (.lmul, 1) := by decide +kernel
theorem dX4_volumeOf_175 : decode cX4_volumeOf 175 = .ok (.ladd, 1) := by decide +kernel
theorem dX4_volumeOf_176 : decode cX4_volumeOf 176 = .ok (.lload 5, 2) := by decide +kernel
theorem dX4_volumeOf_178 : decode cX4_volumeOf 178 = .ok (.lload 13, 2) := by decide +kernel
theorem dX4_volumeOf_180 : decode cX4_volumeOf 180 = .ok (.lmul, 1) := by decide +kernel
theorem dX4_volumeOf_181 : decode cX4_volumeOf 181 = .ok (.lload 7, 2) := by decide +kernel
theorem dX4_volumeOf_183 : decode cX4_volumeOf 183 = .ok (.lload 11, 2) := by decide +kernel
theorem dX4_volumeOf_185 : decode cX4_volumeOf 185 = .ok (.lmul, 1) := by decide +kernel
theorem dX4_volumeOf_186 : decode cX4_volumeOf 186 = .ok (.lsub, 1) := by decide +kernel
theorem dX4_volumeOf_187 : decode cX4_volumeOf 187 = .ok (.lload 21, 2) := by decide +kernel
theorem dX4_volumeOf_189 : decode cX4_volumeOf 189 = .ok (.lmul, 1) := by decide +kernel
theorem dX4_volumeOf_190 : decode cX4_volumeOf 190 = .ok (.ladd, 1) := by decide +kernel
theorem dX4_volumeOf_191 : decode cX4_volumeOf 191 = .ok (.lreturn, 1) := by decide +kernel
set_option maxRecDepth 20000 in
theorem ggX4_build_X4_solid : GoodIn wsX4_build wsX4_solid := goodIn_r _ [16, 1, 17, 18, 19, 15, 20, 4, 6, 8, 96, 97, 98, 99, 100, 101, 102, 103, 104, 105, 106, 107, 108, 109, 110, 111, 112, 113, 114, 115, 116, 117, 118, 119, 120, 121, 122] (by decide +kernel) (by decide +kernel)
set_option maxRecDepth 20000 in
theorem gX4_build_X4_solid : GoodIn wsX4_build (wsV RX4 142 RX4 yX4_solid wsX4_solid) := goodIn_app (goodIn_of _ (by decide +kernel)) ggX4_build_X4_solid
set_option maxRecDepth 20000 in
theorem ggX4_build_X4_goes : GoodIn wsX4_build wsX4_goes := goodIn_r _ [24, 25, 96, 97, 98, 99, 100, 101, 102, 103, 104, 105, 106, 107, 108, 109, 110, 111, 112, 113, 114, 115, 116, 117, 118, 119, 120, 121, 122] (by decide +kernel) (by decide +kernel)
set_option maxRecDepth 20000 in
theorem gX4_build_X4_goes : GoodIn wsX4_build (wsV RX4 77 RX4 yX4_goes wsX4_goes) := goodIn_app (goodIn_of _ (by decide +kernel)) ggX4_build_X4_goes
set_option maxRecDepth 20000 in
theorem ggX4_build_X4_tries : GoodIn wsX4_build wsX4_tries := goodIn_r _ [29, 30, 31, 32, 2, 33, 3, 5, 7, 34, 35, 36, 15, 37, 38, 39, 40, 41, 42, 43, 44, 45, 46, 47, 48, 49, 9, 50, 51, 52, 53, 54, 55, 56, 96, 97, 98, 99, 100, 101, 102, 103, 104, 105, 106, 107, 108, 109, 110, 111, 112, 113, 114, 115, 116, 117, 118, 119, 120, 121, 122] (by decide +kernel) (by decide +kernel)
set_option maxRecDepth 20000 in
theorem gX4_build_X4_tries : GoodIn wsX4_build (wsV RX4 146 RX4 yX4_tries wsX4_tries) := goodIn_app (goodIn_of _ (by decide +kernel)) ggX4_build_X4_tries
set_option maxRecDepth 20000 in
theorem ggX4_build_X4_walk : GoodIn wsX4_build wsX4_walk := goodIn_r _ [60, 61, 62, 63, 64, 65, 15, 66, 49, 3, 50, 5, 51, 7, 52, 67, 68, 69, 70, 2, 71, 72, 73, 74, 30, 31, 32, 34, 35, 36, 37, 96, 97, 98, 99, 100, 101, 102, 103, 104, 105, 106, 107, 108, 109, 110, 111, 112, 113, 114, 115, 116, 117, 118, 119, 120, 121, 122] (by decide +kernel) (by decide +kernel)
set_option maxRecDepth 20000 in
theorem gX4_build_X4_walk : GoodIn wsX4_build (wsV RX4 149 RX4 yX4_walk wsX4_walk) := goodIn_app (goodIn_of _ (by decide +kernel)) ggX4_build_X4_walk
set_option maxRecDepth 20000 in
theorem ggX4_build_X4_orderFaces : GoodIn wsX4_build wsX4_orderFaces := goodIn_r _ [78, 9, 79, 80, 81, 82, 15, 83, 61, 96, 97, 98, 99, 100, 101, 102, 103, 104, 105, 106, 107, 108, 109, 110, 111, 112, 113, 114, 115, 116, 117, 118, 119, 120, 121, 122] (by decide +kernel) (by decide +kernel)
set_option maxRecDepth 20000 in
theorem gX4_build_X4_orderFaces : GoodIn wsX4_build (wsV RX4 153 RX4 yX4_orderFaces wsX4_orderFaces) := goodIn_app (goodIn_of _ (by decide +kernel)) ggX4_build_X4_orderFaces
set_option maxRecDepth 20000 in
theorem ggX4_build_X4_findEdges : GoodIn wsX4_build wsX4_findEdges := goodIn_r _ [87, 88, 2, 89, 90, 91, 92, 93, 94, 15, 95, 9, 79, 62, 61, 96, 97, 98, 99, 100, 101, 102, 103, 104, 105, 106, 107, 108, 109, 110, 111, 112, 113, 114, 115, 116, 117, 118, 119, 120, 121, 122] (by decide +kernel) (by decide +kernel)
set_option maxRecDepth 20000 in
theorem gX4_build_X4_findEdges : GoodIn wsX4_build (wsV RX4 156 RX4 yX4_findEdges wsX4_findEdges) := goodIn_app (goodIn_of _ (by decide +kernel)) ggX4_build_X4_findEdges
theorem dX4_build_0 : decode cX4_build 0 = .ok (.aload_n 0, 1) := by decide +kernel
theorem dX4_build_1 : decode cX4_build 1 = .ok (.aload_n 0, 1) := by decide +kernel
theorem dX4_build_2 : decode cX4_build 2 = .ok (.invokevirtual 142, 3) := by decide +kernel
theorem dX4_build_5 : decode cX4_build 5 = .ok (.iconst 1, 1) := by decide +kernel
theorem dX4_build_6 : decode cX4_build 6 = .ok (.invokevirtual 77, 3) := by decide +kernel
theorem dX4_build_9 : decode cX4_build 9 = .ok (.ifCond .ne 5, 3) := by decide +kernel
theorem dX4_build_12 : decode cX4_build 12 = .ok (.iconst 0, 1) := by decide +kernel
theorem dX4_build_13 : decode cX4_build 13 = .ok (.ireturn, 1) := by decide +kernel
theorem dX4_build_14 : decode cX4_build 14 = .ok (.aload_n 0, 1) := by decide +kernel
theorem dX4_build_15 : decode cX4_build 15 = .ok (.aload_n 0, 1) := by decide +kernel
theorem dX4_build_16 : decode cX4_build 16 = .ok (.getfield 66, 3) := by decide +kernel
theorem dX4_build_19 : decode cX4_build 19 = .ok (.putfield 98, 3) := by decide +kernel
theorem dX4_build_22 : decode cX4_build 22 = .ok (.iconst 0, 1) := by decide +kernel
theorem dX4_build_23 : decode cX4_build 23 = .ok (.istore_n 1, 1) := by decide +kernel
theorem dX4_build_24 : decode cX4_build 24 = .ok (.iload_n 1, 1) := by decide +kernel
theorem dX4_build_25 : decode cX4_build 25 = .ok (.aload_n 0, 1) := by decide +kernel
theorem dX4_build_26 : decode cX4_build 26 = .ok (.getfield 66, 3) := by decide +kernel
theorem dX4_build_29 : decode cX4_build 29 = .ok (.if_icmp .ge 48, 3) := by decide +kernel
theorem dX4_build_32 : decode cX4_build 32 = .ok (.aload_n 0, 1) := by decide +kernel
theorem dX4_build_33 : decode cX4_build 33 = .ok (.getfield 19, 3) := by decide +kernel
theorem dX4_build_36 : decode cX4_build 36 = .ok (.iload_n 1, 1) := by decide +kernel
theorem dX4_build_37 : decode cX4_build 37 = .ok (.aload_n 0, 1) := by decide +kernel
theorem dX4_build_38 : decode cX4_build 38 = .ok (.getfield 7, 3) := by decide +kernel
theorem dX4_build_41 : decode cX4_build 41 = .ok (.iload_n 1, 1) := by decide +kernel
theorem dX4_build_42 : decode cX4_build 42 = .ok (.iaload, 1) := by decide +kernel
theorem dX4_build_43 : decode cX4_build 43 = .ok (.i2l, 1) := by decide +kernel
theorem dX4_build_44 : decode cX4_build 44 = .ok (.lastore, 1) := by decide +kernel
theorem dX4_build_45 : decode cX4_build 45 = .ok (.aload_n 0, 1) := by decide +kernel
theorem dX4_build_46 : decode cX4_build 46 = .ok (.getfield 23, 3) := by decide +kernel
theorem dX4_build_49 : decode cX4_build 49 = .ok (.iload_n 1, 1) := by decide +kernel
theorem dX4_build_50 : decode cX4_build 50 = .ok (.aload_n 0, 1) := by decide +kernel
theorem dX4_build_51 : decode cX4_build 51 = .ok (.getfield 13, 3) := by decide +kernel
theorem dX4_build_54 : decode cX4_build 54 = .ok (.iload_n 1, 1) := by decide +kernel
theorem dX4_build_55 : decode cX4_build 55 = .ok (.iaload, 1) := by decide +kernel
theorem dX4_build_56 : decode cX4_build 56 = .ok (.i2l, 1) := by decide +kernel
theorem dX4_build_57 : decode cX4_build 57 = .ok (.lastore, 1) := by decide +kernel
theorem dX4_build_58 : decode cX4_build 58 = .ok (.aload_n 0, 1) := by decide +kernel
theorem dX4_build_59 : decode cX4_build 59 = .ok (.getfield 26, 3) := by decide +kernel
theorem dX4_build_62 : decode cX4_build 62 = .ok (.iload_n 1, 1) := by decide +kernel
theorem dX4_build_63 : decode cX4_build 63 = .ok (.aload_n 0, 1) := by decide +kernel
theorem dX4_build_64 : decode cX4_build 64 = .ok (.getfield 16, 3) := by decide +kernel
theorem dX4_build_67 : decode cX4_build 67 = .ok (.iload_n 1, 1) := by decide +kernel
theorem dX4_build_68 : decode cX4_build 68 = .ok (.iaload, 1) := by decide +kernel
theorem dX4_build_69 : decode cX4_build 69 = .ok (.i2l, 1) := by decide +kernel
theorem dX4_build_70 : decode cX4_build 70 = .ok (.lastore, 1) := by decide +kernel
theorem dX4_build_71 : decode cX4_build 71 = .ok (.iinc 1 1, 3) := by decide +kernel
theorem dX4_build_74 : decode cX4_build 74 = .ok (.goto (-50), 3) := by decide +kernel
theorem dX4_build_77 : decode cX4_build 77 = .ok (.aload_n 0, 1) := by decide +kernel
theorem dX4_build_78 : decode cX4_build 78 = .ok (.iconst 0, 1) := by decide +kernel
theorem dX4_build_79 : decode cX4_build 79 = .ok (.putfield 91, 3) := by decide +kernel
theorem dX4_build_82 : decode cX4_build 82 = .ok (.iconst 0, 1) := by decide +kernel
theorem dX4_build_83 : decode cX4_build 83 = .ok (.istore_n 1, 1) := by decide +kernel
theorem dX4_build_84 : decode cX4_build 84 = .ok (.iload_n 1, 1) := by decide +kernel
theorem dX4_build_85 : decode cX4_build 85 = .ok (.aload_n 0, 1) := by decide +kernel
theorem dX4_build_86 : decode cX4_build 86 = .ok (.getfield 98, 3) := by decide +kernel
theorem dX4_build_89 : decode cX4_build 89 = .ok (.if_icmp .ge 54, 3) := by decide +kernel
theorem dX4_build_92 : decode cX4_build 92 = .ok (.iload_n 1, 1) := by decide +kernel
theorem dX4_build_93 : decode cX4_build 93 = .ok (.iconst 1, 1) := by decide +kernel
theorem dX4_build_94 : decode cX4_build 94 = .ok (.iadd, 1) := by decide +kernel
theorem dX4_build_95 : decode cX4_build 95 = .ok (.istore_n 2, 1) := by decide +kernel
theorem dX4_build_96 : decode cX4_build 96 = .ok (.iload_n 2, 1) := by decide +kernel
theorem dX4_build_97 : decode cX4_build 97 = .ok (.aload_n 0, 1) := by decide +kernel
theorem dX4_build_98 : decode cX4_build 98 = .ok (.getfield 98, 3) := by decide +kernel
theorem dX4_build_101 : decode cX4_build 101 = .ok (.if_icmp .ge 36, 3) := by decide +kernel
theorem dX4_build_104 : decode cX4_build 104 = .ok (.iload_n 2, 1) := by decide +kernel
theorem dX4_build_105 : decode cX4_build 105 = .ok (.iconst 1, 1) := by decide +kernel
theorem dX4_build_106 : decode cX4_build 106 = .ok (.iadd, 1) := by decide +kernel
theorem dX4_build_107 : decode cX4_build 107 = .ok (.istore_n 3, 1) := by decide +kernel
theorem dX4_build_108 : decode cX4_build 108 = .ok (.iload_n 3, 1) := by decide +kernel
theorem dX4_build_109 : decode cX4_build 109 = .ok (.aload_n 0, 1) := by decide +kernel
theorem dX4_build_110 : decode cX4_build 110 = .ok (.getfield 98, 3) := by decide +kernel
theorem dX4_build_113 : decode cX4_build 113 = .ok (.if_icmp .ge 18, 3) := by decide +kernel
theorem dX4_build_116 : decode cX4_build 116 = .ok (.aload_n 0, 1) := by decide +kernel
theorem dX4_build_117 : decode cX4_build 117 = .ok (.iload_n 1, 1) := by decide +kernel
theorem dX4_build_118 : decode cX4_build 118 = .ok (.iload_n 2, 1) := by decide +kernel
theorem dX4_build_119 : decode cX4_build 119 = .ok (.iload_n 3, 1) := by decide +kernel
theorem dX4_build_120 : decode cX4_build 120 = .ok (.invokevirtual 146, 3) := by decide +kernel
theorem dX4_build_123 : decode cX4_build 123 = .ok (.istore 4, 2) := by decide +kernel
theorem dX4_build_125 : decode cX4_build 125 = .ok (.iinc 3 1, 3) := by decide +kernel
theorem dX4_build_128 : decode cX4_build 128 = .ok (.goto (-20), 3) := by decide +kernel
theorem dX4_build_131 : decode cX4_build 131 = .ok (.iinc 2 1, 3) := by decide +kernel
theorem dX4_build_134 : decode cX4_build 134 = .ok (.goto (-38), 3) := by decide +kernel
theorem dX4_build_137 : decode cX4_build 137 = .ok (.iinc 1 1, 3) := by decide +kernel
theorem dX4_build_140 : decode cX4_build 140 = .ok (.goto (-56), 3) := by decide +kernel
theorem dX4_build_143 : decode cX4_build 143 = .ok (.iconst 0, 1) := by decide +kernel
theorem dX4_build_144 : decode cX4_build 144 = .ok (.istore_n 1, 1) := by decide +kernel
theorem dX4_build_145 : decode cX4_build 145 = .ok (.iload_n 1, 1) := by decide +kernel
theorem dX4_build_146 : decode cX4_build 146 = .ok (.aload_n 0, 1) := by decide +kernel
theorem dX4_build_147 : decode cX4_build 147 = .ok (.getfield 91, 3) := by decide +kernel
theorem dX4_build_150 : decode cX4_build 150 = .ok (.if_icmp .ge 14, 3) := by decide +kernel
theorem dX4_build_153 : decode cX4_build 153 = .ok (.aload_n 0, 1) := by decide +kernel
theorem dX4_build_154 : decode cX4_build 154 = .ok (.iload_n 1, 1) := by decide +kernel
theorem dX4_build_155 : decode cX4_build 155 = .ok (.invokevirtual 149, 3) := by decide +kernel
theorem dX4_build_158 : decode cX4_build 158 = .ok (.iinc 1 1, 3) := by decide +kernel
theorem dX4_build_161 : decode cX4_build 161 = .ok (.goto (-16), 3) := by decide +kernel
theorem dX4_build_164 : decode cX4_build 164 = .ok (.aload_n 0, 1) := by decide +kernel
theorem dX4_build_165 : decode cX4_build 165 = .ok (.invokevirtual 153, 3) := by decide +kernel
theorem dX4_build_168 : decode cX4_build 168 = .ok (.aload_n 0, 1) := by decide +kernel
theorem dX4_build_169 : decode cX4_build 169 = .ok (.invokevirtual 156, 3) := by decide +kernel
theorem dX4_build_172 : decode cX4_build 172 = .ok (.aload_n 0, 1) := by decide +kernel
theorem dX4_build_173 : decode cX4_build 173 = .ok (.iconst 1, 1) := by decide +kernel
theorem dX4_build_174 : decode cX4_build 174 = .ok (.putfield 159, 3) := by decide +kernel
theorem dX4_build_177 : decode cX4_build 177 = .ok (.aload_n 0, 1) := by decide +kernel
theorem dX4_build_178 : decode cX4_build 178 = .ok (.dup, 1) := by decide +kernel
theorem dX4_build_179 : decode cX4_build 179 = .ok (.getfield 163, 3) := by decide +kernel
theorem dX4_build_182 : decode cX4_build 182 = .ok (.iconst 1, 1) := by decide +kernel
theorem dX4_build_183 : decode cX4_build 183 = .ok (.iadd, 1) := by decide +kernel
theorem dX4_build_184 : decode cX4_build 184 = .ok (.putfield 163, 3) := by decide +kernel
theorem dX4_build_187 : decode cX4_build 187 = .ok (.aload_n 0, 1) := by decide +kernel
theorem dX4_build_188 : decode cX4_build 188 = .ok (.getfield 91, 3) := by decide +kernel
theorem dX4_build_191 : decode cX4_build 191 = .ok (.ireturn, 1) := by decide +kernel
set_option maxRecDepth 20000 in
theorem ggX4_of_X4_goes : GoodIn wsX4_of wsX4_goes := goodIn_r _ [9, 10, 11, 12, 13, 14, 15, 16, 17, 18, 19, 20, 21, 22, 23, 24, 25, 26, 27, 28, 29, 30, 31, 32, 33, 34, 35, 36, 37] (by decide +kernel) (by decide +kernel)
set_option maxRecDepth 20000 in
theorem gX4_of_X4_goes : GoodIn wsX4_of (wsV RX4 77 RX4 yX4_goes wsX4_goes) := goodIn_app (goodIn_of _ (by decide +kernel)) ggX4_of_X4_goes
theorem dX4_of_0 : decode cX4_of 0 = .ok (.aload_n 0, 1) := by decide +kernel
theorem dX4_of_1 : decode cX4_of 1 = .ok (.iload_n 1, 1) := by decide +kernel
theorem dX4_of_2 : decode cX4_of 2 = .ok (.ifCond .lt 24, 3) := by decide +kernel
theorem dX4_of_5 : decode cX4_of 5 = .ok (.iload_n 1, 1) := by decide +kernel
theorem dX4_of_6 : decode cX4_of 6 = .ok (.aload_n 0, 1) := by decide +kernel
theorem dX4_of_7 : decode cX4_of 7 = .ok (.getfield 66, 3) := by decide +kernel
theorem dX4_of_10 : decode cX4_of 10 = .ok (.if_icmp .ge 16, 3) := by decide +kernel
theorem dX4_of_13 : decode cX4_of 13 = .ok (.iload_n 2, 1) := by decide +kernel
theorem dX4_of_14 : decode cX4_of 14 = .ok (.ifCond .lt 12, 3) := by decide +kernel
theorem dX4_of_17 : decode cX4_of 17 = .ok (.iload_n 2, 1) := by decide +kernel
theorem dX4_of_18 : decode cX4_of 18 = .ok (.iconst 2, 1) := by decide +kernel
theorem dX4_of_19 : decode cX4_of 19 = .ok (.if_icmp .gt 7, 3) := by decide +kernel
theorem dX4_of_22 : decode cX4_of 22 = .ok (.iconst 1, 1) := by decide +kernel
theorem dX4_of_23 : decode cX4_of 23 = .ok (.goto 4, 3) := by decide +kernel
theorem dX4_of_26 : decode cX4_of 26 = .ok (.iconst 0, 1) := by decide +kernel
theorem dX4_of_27 : decode cX4_of 27 = .ok (.iconst 1, 1) := by decide +kernel
theorem dX4_of_28 : decode cX4_of 28 = .ok (.invokevirtual 77, 3) := by decide +kernel
theorem dX4_of_31 : decode cX4_of 31 = .ok (.ifCond .ne 5, 3) := by decide +kernel
theorem dX4_of_34 : decode cX4_of 34 = .ok (.iconst 0, 1) := by decide +kernel
theorem dX4_of_35 : decode cX4_of 35 = .ok (.ireturn, 1) := by decide +kernel
theorem dX4_of_36 : decode cX4_of 36 = .ok (.iload_n 2, 1) := by decide +kernel
theorem dX4_of_37 : decode cX4_of 37 = .ok (.ifCond .ne 12, 3) := by decide +kernel
theorem dX4_of_40 : decode cX4_of 40 = .ok (.aload_n 0, 1) := by decide +kernel
theorem dX4_of_41 : decode cX4_of 41 = .ok (.getfield 7, 3) := by decide +kernel
theorem dX4_of_44 : decode cX4_of 44 = .ok (.iload_n 1, 1) := by decide +kernel
theorem dX4_of_45 : decode cX4_of 45 = .ok (.iaload, 1) := by decide +kernel
theorem dX4_of_46 : decode cX4_of 46 = .ok (.goto 23, 3) := by decide +kernel
theorem dX4_of_49 : decode cX4_of 49 = .ok (.iload_n 2, 1) := by decide +kernel
theorem dX4_of_50 : decode cX4_of 50 = .ok (.iconst 1, 1) := by decide +kernel
theorem dX4_of_51 : decode cX4_of 51 = .ok (.if_icmp .ne 12, 3) := by decide +kernel
theorem dX4_of_54 : decode cX4_of 54 = .ok (.aload_n 0, 1) := by decide +kernel
theorem dX4_of_55 : decode cX4_of 55 = .ok (.getfield 13, 3) := by decide +kernel
theorem dX4_of_58 : decode cX4_of 58 = .ok (.iload_n 1, 1) := by decide +kernel
theorem dX4_of_59 : decode cX4_of 59 = .ok (.iaload, 1) := by decide +kernel
theorem dX4_of_60 : decode cX4_of 60 = .ok (.goto 9, 3) := by decide +kernel
theorem dX4_of_63 : decode cX4_of 63 = .ok (.aload_n 0, 1) := by decide +kernel
theorem dX4_of_64 : decode cX4_of 64 = .ok (.getfield 16, 3) := by decide +kernel
theorem dX4_of_67 : decode cX4_of 67 = .ok (.iload_n 1, 1) := by decide +kernel
theorem dX4_of_68 : decode cX4_of 68 = .ok (.iaload, 1) := by decide +kernel
theorem dX4_of_69 : decode cX4_of 69 = .ok (.ireturn, 1) := by decide +kernel
theorem dX4_there_0 : decode cX4_there 0 = .ok (.iload_n 1, 1) := by decide +kernel
theorem dX4_there_1 : decode cX4_there 1 = .ok (.ifCond .lt 15, 3) := by decide +kernel
theorem dX4_there_4 : decode cX4_there 4 = .ok (.iload_n 1, 1) := by decide +kernel
theorem dX4_there_5 : decode cX4_there 5 = .ok (.aload_n 0, 1) := by decide +kernel
theorem dX4_there_6 : decode cX4_there 6 = .ok (.getfield 91, 3) := by decide +kernel
theorem dX4_there_9 : decode cX4_there 9 = .ok (.if_icmp .ge 7, 3) := by decide +kernel
theorem dX4_there_12 : decode cX4_there 12 = .ok (.iconst 1, 1) := by decide +kernel
theorem dX4_there_13 : decode cX4_there 13 = .ok (.goto 4, 3) := by decide +kernel
theorem dX4_there_16 : decode cX4_there 16 = .ok (.iconst 0, 1) := by decide +kernel
theorem dX4_there_17 : decode cX4_there 17 = .ok (.ireturn, 1) := by decide +kernel
set_option maxRecDepth 20000 in
theorem ggX4_face_X4_there : GoodIn wsX4_face wsX4_there := goodIn_r _ [11, 12, 18, 19, 20, 21, 22, 23, 24, 25, 26, 27, 28, 29, 30, 31, 32, 33, 34, 35, 36, 37, 38, 39, 40, 41, 42, 43, 44] (by decide +kernel) (by decide +kernel)
set_option maxRecDepth 20000 in
theorem gX4_face_X4_there : GoodIn wsX4_face (wsV RX4 166 RX4 yX4_there wsX4_there) := goodIn_app (goodIn_of _ (by decide +kernel)) ggX4_face_X4_there
set_option maxRecDepth 20000 in
theorem ggX4_face_X4_goes : GoodIn wsX4_face wsX4_goes := goodIn_r _ [16, 17, 18, 19, 20, 21, 22, 23, 24, 25, 26, 27, 28, 29, 30, 31, 32, 33, 34, 35, 36, 37, 38, 39, 40, 41, 42, 43, 44] (by decide +kernel) (by decide +kernel)
set_option maxRecDepth 20000 in
theorem gX4_face_X4_goes : GoodIn wsX4_face (wsV RX4 77 RX4 yX4_goes wsX4_goes) := goodIn_app (goodIn_of _ (by decide +kernel)) ggX4_face_X4_goes
theorem dX4_face_0 : decode cX4_face 0 = .ok (.aload_n 0, 1) := by decide +kernel
theorem dX4_face_1 : decode cX4_face 1 = .ok (.aload_n 0, 1) := by decide +kernel
theorem dX4_face_2 : decode cX4_face 2 = .ok (.getfield 159, 3) := by decide +kernel
theorem dX4_face_5 : decode cX4_face 5 = .ok (.aload_n 0, 1) := by decide +kernel
theorem dX4_face_6 : decode cX4_face 6 = .ok (.iload_n 1, 1) := by decide +kernel
theorem dX4_face_7 : decode cX4_face 7 = .ok (.invokevirtual 166, 3) := by decide +kernel
theorem dX4_face_10 : decode cX4_face 10 = .ok (.ifCond .eq 16, 3) := by decide +kernel
theorem dX4_face_13 : decode cX4_face 13 = .ok (.iload_n 2, 1) := by decide +kernel
theorem dX4_face_14 : decode cX4_face 14 = .ok (.ifCond .lt 12, 3) := by decide +kernel
theorem dX4_face_17 : decode cX4_face 17 = .ok (.iload_n 2, 1) := by decide +kernel
theorem dX4_face_18 : decode cX4_face 18 = .ok (.iconst 3, 1) := by decide +kernel
theorem dX4_face_19 : decode cX4_face 19 = .ok (.if_icmp .gt 7, 3) := by decide +kernel
theorem dX4_face_22 : decode cX4_face 22 = .ok (.iconst 1, 1) := by decide +kernel
theorem dX4_face_23 : decode cX4_face 23 = .ok (.goto 4, 3) := by decide +kernel
theorem dX4_face_26 : decode cX4_face 26 = .ok (.iconst 0, 1) := by decide +kernel
theorem dX4_face_27 : decode cX4_face 27 = .ok (.invokevirtual 77, 3) := by decide +kernel
theorem dX4_face_30 : decode cX4_face 30 = .ok (.ifCond .ne 5, 3) := by decide +kernel
theorem dX4_face_33 : decode cX4_face 33 = .ok (.iconst 0, 1) := by decide +kernel
theorem dX4_face_34 : decode cX4_face 34 = .ok (.ireturn, 1) := by decide +kernel
theorem dX4_face_35 : decode cX4_face 35 = .ok (.aload_n 0, 1) := by decide +kernel
theorem dX4_face_36 : decode cX4_face 36 = .ok (.getfield 47, 3) := by decide +kernel
theorem dX4_face_39 : decode cX4_face 39 = .ok (.iload_n 1, 1) := by decide +kernel
theorem dX4_face_40 : decode cX4_face 40 = .ok (.iaload, 1) := by decide +kernel
theorem dX4_face_41 : decode cX4_face 41 = .ok (.istore_n 3, 1) := by decide +kernel
theorem dX4_face_42 : decode cX4_face 42 = .ok (.iload_n 2, 1) := by decide +kernel
theorem dX4_face_43 : decode cX4_face 43 = .ok (.ifCond .ne 12, 3) := by decide +kernel
theorem dX4_face_46 : decode cX4_face 46 = .ok (.aload_n 0, 1) := by decide +kernel
theorem dX4_face_47 : decode cX4_face 47 = .ok (.getfield 41, 3) := by decide +kernel
theorem dX4_face_50 : decode cX4_face 50 = .ok (.iload_n 3, 1) := by decide +kernel
theorem dX4_face_51 : decode cX4_face 51 = .ok (.iaload, 1) := by decide +kernel
theorem dX4_face_52 : decode cX4_face 52 = .ok (.goto 38, 3) := by decide +kernel
theorem dX4_face_55 : decode cX4_face 55 = .ok (.iload_n 2, 1) := by decide +kernel
theorem dX4_face_56 : decode cX4_face 56 = .ok (.iconst 1, 1) := by decide +kernel
theorem dX4_face_57 : decode cX4_face 57 = .ok (.if_icmp .ne 12, 3) := by decide +kernel
theorem dX4_face_60 : decode cX4_face 60 = .ok (.aload_n 0, 1) := by decide +kernel
theorem dX4_face_61 : decode cX4_face 61 = .ok (.getfield 29, 3) := by decide +kernel
theorem dX4_face_64 : decode cX4_face 64 = .ok (.iload_n 3, 1) := by decide +kernel
theorem dX4_face_65 : decode cX4_face 65 = .ok (.laload, 1) := by decide +kernel
theorem dX4_face_66 : decode cX4_face 66 = .ok (.goto 23, 3) := by decide +kernel
theorem dX4_face_69 : decode cX4_face 69 = .ok (.iload_n 2, 1) := by decide +kernel
theorem dX4_face_70 : decode cX4_face 70 = .ok (.iconst 2, 1) := by decide +kernel
theorem dX4_face_71 : decode cX4_face 71 = .ok (.if_icmp .ne 12, 3) := by decide +kernel
theorem dX4_face_74 : decode cX4_face 74 = .ok (.aload_n 0, 1) := by decide +kernel
theorem dX4_face_75 : decode cX4_face 75 = .ok (.getfield 32, 3) := by decide +kernel
theorem dX4_face_78 : decode cX4_face 78 = .ok (.iload_n 3, 1) := by decide +kernel
theorem dX4_face_79 : decode cX4_face 79 = .ok (.laload, 1) := by decide +kernel
theorem dX4_face_80 : decode cX4_face 80 = .ok (.goto 9, 3) := by decide +kernel
theorem dX4_face_83 : decode cX4_face 83 = .ok (.aload_n 0, 1) := by decide +kernel
theorem dX4_face_84 : decode cX4_face 84 = .ok (.getfield 35, 3) := by decide +kernel
theorem dX4_face_87 : decode cX4_face 87 = .ok (.iload_n 3, 1) := by decide +kernel
theorem dX4_face_88 : decode cX4_face 88 = .ok (.laload, 1) := by decide +kernel
theorem dX4_face_89 : decode cX4_face 89 = .ok (.l2i, 1) := by decide +kernel
theorem dX4_face_90 : decode cX4_face 90 = .ok (.ireturn, 1) := by decide +kernel
set_option maxRecDepth 20000 in
theorem ggX4_offset_X4_there : GoodIn wsX4_offset wsX4_there := goodIn_r _ [8, 9, 15, 16, 17, 18, 19, 20, 21, 22, 23, 24, 25, 26, 27, 28, 29, 30, 31, 32, 33, 34, 35, 36, 37, 38, 39, 40, 41] (by decide +kernel) (by decide +kernel)
set_option maxRecDepth 20000 in
theorem gX4_offset_X4_there : GoodIn wsX4_offset (wsV RX4 166 RX4 yX4_there wsX4_there) := goodIn_app (goodIn_of _ (by decide +kernel)) ggX4_offset_X4_there
set_option maxRecDepth 20000 in
theorem ggX4_offset_X4_goes : GoodIn wsX4_offset wsX4_goes := goodIn_r _ [13, 14, 15, 16, 17, 18, 19, 20, 21, 22, 23, 24, 25, 26, 27, 28, 29, 30, 31, 32, 33, 34, 35, 36, 37, 38, 39, 40, 41] (by decide +kernel) (by decide +kernel)
set_option maxRecDepth 20000 in
theorem gX4_offset_X4_goes : GoodIn wsX4_offset (wsV RX4 77 RX4 yX4_goes wsX4_goes) := goodIn_app (goodIn_of _ (by decide +kernel)) ggX4_offset_X4_goes
theorem dX4_offset_0 : decode cX4_offset 0 = .ok (.aload_n 0, 1) := by decide +kernel
theorem dX4_offset_1 : decode cX4_offset 1 = .ok (.aload_n 0, 1) := by decide +kernel
theorem dX4_offset_2 : decode cX4_offset 2 = .ok (.getfield 159, 3) := by decide +kernel
theorem dX4_offset_5 : decode cX4_offset 5 = .ok (.aload_n 0, 1) := by decide +kernel
theorem dX4_offset_6 : decode cX4_offset 6 = .ok (.iload_n 1, 1) := by decide +kernel
theorem dX4_offset_7 : decode cX4_offset 7 = .ok (.invokevirtual 166, 3) := by decide +kernel
theorem dX4_offset_10 : decode cX4_offset 10 = .ok (.invokevirtual 77, 3) := by decide +kernel
theorem dX4_offset_13 : decode cX4_offset 13 = .ok (.ifCond .eq 17, 3) := by decide +kernel
theorem dX4_offset_16 : decode cX4_offset 16 = .ok (.aload_n 0, 1) := by decide +kernel
theorem dX4_offset_17 : decode cX4_offset 17 = .ok (.getfield 38, 3) := by decide +kernel
theorem dX4_offset_20 : decode cX4_offset 20 = .ok (.aload_n 0, 1) := by decide +kernel
theorem dX4_offset_21 : decode cX4_offset 21 = .ok (.getfield 47, 3) := by decide +kernel
theorem dX4_offset_24 : decode cX4_offset 24 = .ok (.iload_n 1, 1) := by decide +kernel
theorem dX4_offset_25 : decode cX4_offset 25 = .ok (.iaload, 1) := by decide +kernel
theorem dX4_offset_26 : decode cX4_offset 26 = .ok (.laload, 1) := by decide +kernel
theorem dX4_offset_27 : decode cX4_offset 27 = .ok (.goto 4, 3) := by decide +kernel
theorem dX4_offset_30 : decode cX4_offset 30 = .ok (.lconst 0, 1) := by decide +kernel
theorem dX4_offset_31 : decode cX4_offset 31 = .ok (.lreturn, 1) := by decide +kernel
set_option maxRecDepth 20000 in
theorem ggX4_corner_X4_there : GoodIn wsX4_corner wsX4_there := goodIn_r _ [9, 10, 16, 17, 18, 19, 20, 21, 22, 23, 24, 25, 26, 27, 28, 29, 30, 31, 32, 33, 34, 35, 36, 37, 38, 39, 40, 41, 42] (by decide +kernel) (by decide +kernel)
set_option maxRecDepth 20000 in
theorem gX4_corner_X4_there : GoodIn wsX4_corner (wsV RX4 166 RX4 yX4_there wsX4_there) := goodIn_app (goodIn_of _ (by decide +kernel)) ggX4_corner_X4_there
set_option maxRecDepth 20000 in
theorem ggX4_corner_X4_goes : GoodIn wsX4_corner wsX4_goes := goodIn_r _ [14, 15, 16, 17, 18, 19, 20, 21, 22, 23, 24, 25, 26, 27, 28, 29, 30, 31, 32, 33, 34, 35, 36, 37, 38, 39, 40, 41, 42] (by decide +kernel) (by decide +kernel)
set_option maxRecDepth 20000 in
theorem gX4_corner_X4_goes : GoodIn wsX4_corner (wsV RX4 77 RX4 yX4_goes wsX4_goes) := goodIn_app (goodIn_of _ (by decide +kernel)) ggX4_corner_X4_goes
theorem dX4_corner_0 : decode cX4_corner 0 = .ok (.aload_n 0, 1) := by decide +kernel
theorem dX4_corner_1 : decode cX4_corner 1 = .ok (.aload_n 0, 1) := by decide +kernel
theorem dX4_corner_2 : decode cX4_corner 2 = .ok (.getfield 159, 3) := by decide +kernel
theorem dX4_corner_5 : decode cX4_corner 5 = .ok (.aload_n 0, 1) := by decide +kernel
theorem dX4_corner_6 : decode cX4_corner 6 = .ok (.iload_n 1, 1) := by decide +kernel
theorem dX4_corner_7 : decode cX4_corner 7 = .ok (.invokevirtual 166, 3) := by decide +kernel
theorem dX4_corner_10 : decode cX4_corner 10 = .ok (.ifCond .eq 26, 3) := by decide +kernel
theorem dX4_corner_13 : decode cX4_corner 13 = .ok (.iload_n 2, 1) := by decide +kernel
theorem dX4_corner_14 : decode cX4_corner 14 = .ok (.ifCond .lt 22, 3) := by decide +kernel
theorem dX4_corner_17 : decode cX4_corner 17 = .ok (.iload_n 2, 1) := by decide +kernel
theorem dX4_corner_18 : decode cX4_corner 18 = .ok (.aload_n 0, 1) := by decide +kernel
theorem dX4_corner_19 : decode cX4_corner 19 = .ok (.getfield 41, 3) := by decide +kernel
theorem dX4_corner_22 : decode cX4_corner 22 = .ok (.aload_n 0, 1) := by decide +kernel
theorem dX4_corner_23 : decode cX4_corner 23 = .ok (.getfield 47, 3) := by decide +kernel
theorem dX4_corner_26 : decode cX4_corner 26 = .ok (.iload_n 1, 1) := by decide +kernel
theorem dX4_corner_27 : decode cX4_corner 27 = .ok (.iaload, 1) := by decide +kernel
theorem dX4_corner_28 : decode cX4_corner 28 = .ok (.iaload, 1) := by decide +kernel
theorem dX4_corner_29 : decode cX4_corner 29 = .ok (.if_icmp .ge 7, 3) := by decide +kernel
theorem dX4_corner_32 : decode cX4_corner 32 = .ok (.iconst 1, 1) := by decide +kernel
theorem dX4_corner_33 : decode cX4_corner 33 = .ok (.goto 4, 3) := by decide +kernel
theorem dX4_corner_36 : decode cX4_corner 36 = .ok (.iconst 0, 1) := by decide +kernel
theorem dX4_corner_37 : decode cX4_corner 37 = .ok (.invokevirtual 77, 3) := by decide +kernel
theorem dX4_corner_40 : decode cX4_corner 40 = .ok (.ifCond .ne 5, 3) := by decide +kernel
theorem dX4_corner_43 : decode cX4_corner 43 = .ok (.iconst 0, 1) := by decide +kernel
theorem dX4_corner_44 : decode cX4_corner 44 = .ok (.ireturn, 1) := by decide +kernel
theorem dX4_corner_45 : decode cX4_corner 45 = .ok (.aload_n 0, 1) := by decide +kernel
theorem dX4_corner_46 : decode cX4_corner 46 = .ok (.getfield 44, 3) := by decide +kernel
theorem dX4_corner_49 : decode cX4_corner 49 = .ok (.bipush 24, 2) := by decide +kernel
theorem dX4_corner_51 : decode cX4_corner 51 = .ok (.aload_n 0, 1) := by decide +kernel
theorem dX4_corner_52 : decode cX4_corner 52 = .ok (.getfield 47, 3) := by decide +kernel
theorem dX4_corner_55 : decode cX4_corner 55 = .ok (.iload_n 1, 1) := by decide +kernel
theorem dX4_corner_56 : decode cX4_corner 56 = .ok (.iaload, 1) := by decide +kernel
theorem dX4_corner_57 : decode cX4_corner 57 = .ok (.imul, 1) := by decide +kernel
theorem dX4_corner_58 : decode cX4_corner 58 = .ok (.iload_n 2, 1) := by decide +kernel
theorem dX4_corner_59 : decode cX4_corner 59 = .ok (.iadd, 1) := by decide +kernel
theorem dX4_corner_60 : decode cX4_corner 60 = .ok (.iaload, 1) := by decide +kernel
theorem dX4_corner_61 : decode cX4_corner 61 = .ok (.ireturn, 1) := by decide +kernel
set_option maxRecDepth 20000 in
theorem ggX4_edge_X4_goes : GoodIn wsX4_edge wsX4_goes := goodIn_r _ [10, 11, 12, 13, 14, 15, 16, 17, 18, 19, 20, 21, 22, 23, 24, 25, 26, 27, 28, 29, 30, 31, 32, 33, 34, 35, 36, 37, 38] (by decide +kernel) (by decide +kernel)
set_option maxRecDepth 20000 in
theorem gX4_edge_X4_goes : GoodIn wsX4_edge (wsV RX4 77 RX4 yX4_goes wsX4_goes) := goodIn_app (goodIn_of _ (by decide +kernel)) ggX4_edge_X4_goes
theorem dX4_edge_0 : decode cX4_edge 0 = .ok (.aload_n 0, 1) := by decide +kernel
theorem dX4_edge_1 : decode cX4_edge 1 = .ok (.aload_n 0, 1) := by decide +kernel
theorem dX4_edge_2 : decode cX4_edge 2 = .ok (.getfield 159, 3) := by decide +kernel
theorem dX4_edge_5 : decode cX4_edge 5 = .ok (.iload_n 1, 1) := by decide +kernel
theorem dX4_edge_6 : decode cX4_edge 6 = .ok (.ifCond .lt 24, 3) := by decide +kernel
theorem dX4_edge_9 : decode cX4_edge 9 = .ok (.iload_n 1, 1) := by decide +kernel
theorem dX4_edge_10 : decode cX4_edge 10 = .ok (.aload_n 0, 1) := by decide +kernel
theorem dX4_edge_11 : decode cX4_edge 11 = .ok (.getfield 132, 3) := by decide +kernel
theorem dX4_edge_14 : decode cX4_edge 14 = .ok (.if_icmp .ge 16, 3) := by decide +kernel
theorem dX4_edge_17 : decode cX4_edge 17 = .ok (.iload_n 2, 1) := by decide +kernel
theorem dX4_edge_18 : decode cX4_edge 18 = .ok (.ifCond .lt 12, 3) := by decide +kernel
theorem dX4_edge_21 : decode cX4_edge 21 = .ok (.iload_n 2, 1) := by decide +kernel
theorem dX4_edge_22 : decode cX4_edge 22 = .ok (.iconst 3, 1) := by decide +kernel
theorem dX4_edge_23 : decode cX4_edge 23 = .ok (.if_icmp .gt 7, 3) := by decide +kernel
theorem dX4_edge_26 : decode cX4_edge 26 = .ok (.iconst 1, 1) := by decide +kernel
theorem dX4_edge_27 : decode cX4_edge 27 = .ok (.goto 4, 3) := by decide +kernel
theorem dX4_edge_30 : decode cX4_edge 30 = .ok (.iconst 0, 1) := by decide +kernel
theorem dX4_edge_31 : decode cX4_edge 31 = .ok (.invokevirtual 77, 3) := by decide +kernel
theorem dX4_edge_34 : decode cX4_edge 34 = .ok (.ifCond .ne 5, 3) := by decide +kernel
theorem dX4_edge_37 : decode cX4_edge 37 = .ok (.iconst 0, 1) := by decide +kernel
theorem dX4_edge_38 : decode cX4_edge 38 = .ok (.ireturn, 1) := by decide +kernel
theorem dX4_edge_39 : decode cX4_edge 39 = .ok (.iload_n 2, 1) := by decide +kernel
theorem dX4_edge_40 : decode cX4_edge 40 = .ok (.ifCond .ne 15, 3) := by decide +kernel
theorem dX4_edge_43 : decode cX4_edge 43 = .ok (.aload_n 0, 1) := by decide +kernel
theorem dX4_edge_44 : decode cX4_edge 44 = .ok (.getfield 50, 3) := by decide +kernel
theorem dX4_edge_47 : decode cX4_edge 47 = .ok (.iload_n 1, 1) := by decide +kernel
theorem dX4_edge_48 : decode cX4_edge 48 = .ok (.iaload, 1) := by decide +kernel
theorem dX4_edge_49 : decode cX4_edge 49 = .ok (.bipush 32, 2) := by decide +kernel
theorem dX4_edge_51 : decode cX4_edge 51 = .ok (.idiv, 1) := by decide +kernel
theorem dX4_edge_52 : decode cX4_edge 52 = .ok (.goto 40, 3) := by decide +kernel
theorem dX4_edge_55 : decode cX4_edge 55 = .ok (.iload_n 2, 1) := by decide +kernel
theorem dX4_edge_56 : decode cX4_edge 56 = .ok (.iconst 1, 1) := by decide +kernel
theorem dX4_edge_57 : decode cX4_edge 57 = .ok (.if_icmp .ne 15, 3) := by decide +kernel
theorem dX4_edge_60 : decode cX4_edge 60 = .ok (.aload_n 0, 1) := by decide +kernel
theorem dX4_edge_61 : decode cX4_edge 61 = .ok (.getfield 50, 3) := by decide +kernel
theorem dX4_edge_64 : decode cX4_edge 64 = .ok (.iload_n 1, 1) := by decide +kernel
theorem dX4_edge_65 : decode cX4_edge 65 = .ok (.iaload, 1) := by decide +kernel
theorem dX4_edge_66 : decode cX4_edge 66 = .ok (.bipush 32, 2) := by decide +kernel
theorem dX4_edge_68 : decode cX4_edge 68 = .ok (.irem, 1) := by decide +kernel
theorem dX4_edge_69 : decode cX4_edge 69 = .ok (.goto 23, 3) := by decide +kernel
theorem dX4_edge_72 : decode cX4_edge 72 = .ok (.iload_n 2, 1) := by decide +kernel
theorem dX4_edge_73 : decode cX4_edge 73 = .ok (.iconst 2, 1) := by decide +kernel
theorem dX4_edge_74 : decode cX4_edge 74 = .ok (.if_icmp .ne 12, 3) := by decide +kernel
theorem dX4_edge_77 : decode cX4_edge 77 = .ok (.aload_n 0, 1) := by decide +kernel
theorem dX4_edge_78 : decode cX4_edge 78 = .ok (.getfield 53, 3) := by decide +kernel
theorem dX4_edge_81 : decode cX4_edge 81 = .ok (.iload_n 1, 1) := by decide +kernel
theorem dX4_edge_82 : decode cX4_edge 82 = .ok (.iaload, 1) := by decide +kernel
theorem dX4_edge_83 : decode cX4_edge 83 = .ok (.goto 9, 3) := by decide +kernel
theorem dX4_edge_86 : decode cX4_edge 86 = .ok (.aload_n 0, 1) := by decide +kernel
theorem dX4_edge_87 : decode cX4_edge 87 = .ok (.getfield 56, 3) := by decide +kernel
theorem dX4_edge_90 : decode cX4_edge 90 = .ok (.iload_n 1, 1) := by decide +kernel
theorem dX4_edge_91 : decode cX4_edge 91 = .ok (.iaload, 1) := by decide +kernel
theorem dX4_edge_92 : decode cX4_edge 92 = .ok (.ireturn, 1) := by decide +kernel
theorem dX4_isCorner_0 : decode cX4_isCorner 0 = .ok (.iconst 0, 1) := by decide +kernel
theorem dX4_isCorner_1 : decode cX4_isCorner 1 = .ok (.istore_n 2, 1) := by decide +kernel
theorem dX4_isCorner_2 : decode cX4_isCorner 2 = .ok (.iconst 0, 1) := by decide +kernel
theorem dX4_isCorner_3 : decode cX4_isCorner 3 = .ok (.istore_n 3, 1) := by decide +kernel
theorem dX4_isCorner_4 : decode cX4_isCorner 4 = .ok (.iload_n 3, 1) := by decide +kernel
theorem dX4_isCorner_5 : decode cX4_isCorner 5 = .ok (.aload_n 0, 1) := by decide +kernel
theorem dX4_isCorner_6 : decode cX4_isCorner 6 = .ok (.getfield 132, 3) := by decide +kernel
theorem dX4_isCorner_9 : decode cX4_isCorner 9 = .ok (.if_icmp .ge 45, 3) := by decide +kernel
theorem dX4_isCorner_12 : decode cX4_isCorner 12 = .ok (.iload_n 2, 1) := by decide +kernel
theorem dX4_isCorner_13 : decode cX4_isCorner 13 = .ok (.ifCond .ne 29, 3) := by decide +kernel
theorem dX4_isCorner_16 : decode cX4_isCorner 16 = .ok (.aload_n 0, 1) := by decide +kernel
theorem dX4_isCorner_17 : decode cX4_isCorner 17 = .ok (.getfield 50, 3) := by decide +kernel
theorem dX4_isCorner_20 : decode cX4_isCorner 20 = .ok (.iload_n 3, 1) := by decide +kernel
theorem dX4_isCorner_21 : decode cX4_isCorner 21 = .ok (.iaload, 1) := by decide +kernel
theorem dX4_isCorner_22 : decode cX4_isCorner 22 = .ok (.bipush 32, 2) := by decide +kernel
theorem dX4_isCorner_24 : decode cX4_isCorner 24 = .ok (.idiv, 1) := by decide +kernel
theorem dX4_isCorner_25 : decode cX4_isCorner 25 = .ok (.iload_n 1, 1) := by decide +kernel
theorem dX4_isCorner_26 : decode cX4_isCorner 26 = .ok (.if_icmp .eq 16, 3) := by decide +kernel
theorem dX4_isCorner_29 : decode cX4_isCorner 29 = .ok (.aload_n 0, 1) := by decide +kernel
theorem dX4_isCorner_30 : decode cX4_isCorner 30 = .ok (.getfield 50, 3) := by decide +kernel
theorem dX4_isCorner_33 : decode cX4_isCorner 33 = .ok (.iload_n 3, 1) := by decide +kernel
theorem dX4_isCorner_34 : decode cX4_isCorner 34 = .ok (.iaload, 1) := by decide +kernel
theorem dX4_isCorner_35 : decode cX4_isCorner 35 = .ok (.bipush 32, 2) := by decide +kernel
theorem dX4_isCorner_37 : decode cX4_isCorner 37 = .ok (.irem, 1) := by decide +kernel
theorem dX4_isCorner_38 : decode cX4_isCorner 38 = .ok (.iload_n 1, 1) := by decide +kernel
theorem dX4_isCorner_39 : decode cX4_isCorner 39 = .ok (.if_icmp .ne 7, 3) := by decide +kernel
theorem dX4_isCorner_42 : decode cX4_isCorner 42 = .ok (.iconst 1, 1) := by decide +kernel
theorem dX4_isCorner_43 : decode cX4_isCorner 43 = .ok (.goto 4, 3) := by decide +kernel
theorem dX4_isCorner_46 : decode cX4_isCorner 46 = .ok (.iconst 0, 1) := by decide +kernel
theorem dX4_isCorner_47 : decode cX4_isCorner 47 = .ok (.istore_n 2, 1) := by decide +kernel
theorem dX4_isCorner_48 : decode cX4_isCorner 48 = .ok (.iinc 3 1, 3) := by decide +kernel
theorem dX4_isCorner_51 : decode cX4_isCorner 51 = .ok (.goto (-47), 3) := by decide +kernel
theorem dX4_isCorner_54 : decode cX4_isCorner 54 = .ok (.iload_n 2, 1) := by decide +kernel
theorem dX4_isCorner_55 : decode cX4_isCorner 55 = .ok (.ireturn, 1) := by decide +kernel
set_option maxRecDepth 20000 in
theorem ggX4_support_X4_within : GoodIn wsX4_support wsX4_within := goodIn_r _ [10] (by decide +kernel) (by decide +kernel)
set_option maxRecDepth 20000 in
theorem gX4_support_X4_within : GoodIn wsX4_support (va_wsS RX4 69 yX4_within wsX4_within) := goodIn_app (goodIn_of _ (by decide +kernel)) ggX4_support_X4_within
set_option maxRecDepth 20000 in
theorem ggX4_support_X4_goes : GoodIn wsX4_support wsX4_goes := goodIn_r _ [14, 15, 22, 23, 24, 25, 26, 27, 28, 29, 30, 31, 32, 33, 34, 35, 36, 37, 38, 39, 40, 41, 42, 43, 44, 45, 46, 47, 48] (by decide +kernel) (by decide +kernel)
set_option maxRecDepth 20000 in
theorem gX4_support_X4_goes : GoodIn wsX4_support (wsV RX4 77 RX4 yX4_goes wsX4_goes) := goodIn_app (goodIn_of _ (by decide +kernel)) ggX4_support_X4_goes
set_option maxRecDepth 20000 in
theorem ggX4_support_X4_isCorner : GoodIn wsX4_support wsX4_isCorner := goodIn_r _ [19, 20, 21, 22, 23, 24, 25, 26, 27, 28, 29, 30, 31, 32, 33, 34, 35, 36, 37, 38, 39, 40, 41, 42, 43, 44, 45, 46, 47, 48] (by decide +kernel) (by decide +kernel)
set_option maxRecDepth 20000 in
theorem gX4_support_X4_isCorner : GoodIn wsX4_support (wsV RX4 171 RX4 yX4_isCorner wsX4_isCorner) := goodIn_app (goodIn_of _ (by decide +kernel)) ggX4_support_X4_isCorner
theorem dX4_support_0 : decode cX4_support 0 = .ok (.aload_n 0, 1) := by decide +kernel
theorem dX4_support_1 : decode cX4_support 1 = .ok (.aload_n 0, 1) := by decide +kernel
theorem dX4_support_2 : decode cX4_support 2 = .ok (.getfield 159, 3) := by decide +kernel
theorem dX4_support_5 : decode cX4_support 5 = .ok (.iload_n 1, 1) := by decide +kernel
theorem dX4_support_6 : decode cX4_support 6 = .ok (.ldc 170, 2) := by decide +kernel
theorem dX4_support_8 : decode cX4_support 8 = .ok (.invokestatic 69, 3) := by decide +kernel
theorem dX4_support_11 : decode cX4_support 11 = .ok (.ifCond .eq 25, 3) := by decide +kernel
theorem dX4_support_14 : decode cX4_support 14 = .ok (.iload_n 2, 1) := by decide +kernel
theorem dX4_support_15 : decode cX4_support 15 = .ok (.ldc 170, 2) := by decide +kernel
theorem dX4_support_17 : decode cX4_support 17 = .ok (.invokestatic 69, 3) := by decide +kernel
theorem dX4_support_20 : decode cX4_support 20 = .ok (.ifCond .eq 16, 3) := by decide +kernel
theorem dX4_support_23 : decode cX4_support 23 = .ok (.iload_n 3, 1) := by decide +kernel
theorem dX4_support_24 : decode cX4_support 24 = .ok (.ldc 170, 2) := by decide +kernel
theorem dX4_support_26 : decode cX4_support 26 = .ok (.invokestatic 69, 3) := by decide +kernel
theorem dX4_support_29 : decode cX4_support 29 = .ok (.ifCond .eq 7, 3) := by decide +kernel
theorem dX4_support_32 : decode cX4_support 32 = .ok (.iconst 1, 1) := by decide +kernel
theorem dX4_support_33 : decode cX4_support 33 = .ok (.goto 4, 3) := by decide +kernel
theorem dX4_support_36 : decode cX4_support 36 = .ok (.iconst 0, 1) := by decide +kernel
theorem dX4_support_37 : decode cX4_support 37 = .ok (.invokevirtual 77, 3) := by decide +kernel
theorem dX4_support_40 : decode cX4_support 40 = .ok (.ifCond .ne 5, 3) := by decide +kernel
theorem dX4_support_43 : decode cX4_support 43 = .ok (.iconst 0, 1) := by decide +kernel
theorem dX4_support_44 : decode cX4_support 44 = .ok (.ireturn, 1) := by decide +kernel
theorem dX4_support_45 : decode cX4_support 45 = .ok (.iconst (-1), 1) := by decide +kernel
theorem dX4_support_46 : decode cX4_support 46 = .ok (.istore 4, 2) := by decide +kernel
theorem dX4_support_48 : decode cX4_support 48 = .ok (.lconst 0, 1) := by decide +kernel
theorem dX4_support_49 : decode cX4_support 49 = .ok (.lstore 5, 2) := by decide +kernel
theorem dX4_support_51 : decode cX4_support 51 = .ok (.iconst 0, 1) := by decide +kernel
theorem dX4_support_52 : decode cX4_support 52 = .ok (.istore 7, 2) := by decide +kernel
theorem dX4_support_54 : decode cX4_support 54 = .ok (.iload 7, 2) := by decide +kernel
theorem dX4_support_56 : decode cX4_support 56 = .ok (.aload_n 0, 1) := by decide +kernel
theorem dX4_support_57 : decode cX4_support 57 = .ok (.getfield 98, 3) := by decide +kernel
theorem dX4_support_60 : decode cX4_support 60 = .ok (.if_icmp .ge 73, 3) := by decide +kernel
theorem dX4_support_63 : decode cX4_support 63 = .ok (.iload_n 1, 1) := by decide +kernel
theorem dX4_support_64 : decode cX4_support 64 = .ok (.i2l, 1) := by decide +kernel
theorem dX4_support_65 : decode cX4_support 65 = .ok (.aload_n 0, 1) := by decide +kernel
theorem dX4_support_66 : decode cX4_support 66 = .ok (.getfield 19, 3) := by decide +kernel
theorem dX4_support_69 : decode cX4_support 69 = .ok (.iload 7, 2) := by decide +kernel
theorem dX4_support_71 : decode cX4_support 71 = .ok (.laload, 1) := by decide +kernel
theorem dX4_support_72 : decode cX4_support 72 = .ok (.lmul, 1) := by decide +kernel
theorem dX4_support_73 : decode cX4_support 73 = .ok (.iload_n 2, 1) := by decide +kernel
theorem dX4_support_74 : decode cX4_support 74 = .ok (.i2l, 1) := by decide +kernel
theorem dX4_support_75 : decode cX4_support 75 = .ok (.aload_n 0, 1) := by decide +kernel
theorem dX4_support_76 : decode cX4_support 76 = .ok (.getfield 23, 3) := by decide +kernel
theorem dX4_support_79 : decode cX4_support 79 = .ok (.iload 7, 2) := by decide +kernel
theorem dX4_support_81 : decode cX4_support 81 = .ok (.laload, 1) := by decide +kernel
theorem dX4_support_82 : decode cX4_support 82 = .ok (.lmul, 1) := by decide +kernel
theorem dX4_support_83 : decode cX4_support 83 = .ok (.ladd, 1) := by decide +kernel
theorem dX4_support_84 : decode cX4_support 84 = .ok (.iload_n 3, 1) := by decide +kernel
theorem dX4_support_85 : decode cX4_support 85 = .ok (.i2l, 1) := by decide +kernel
theorem dX4_support_86 : decode cX4_support 86 = .ok (.aload_n 0, 1) := by decide +kernel
theorem dX4_support_87 : decode cX4_support 87 = .ok (.getfield 26, 3) := by decide +kernel
theorem dX4_support_90 : decode cX4_support 90 = .ok (.iload 7, 2) := by decide +kernel
theorem dX4_support_92 : decode cX4_support 92 = .ok (.laload, 1) := by decide +kernel
theorem dX4_support_93 : decode cX4_support 93 = .ok (.lmul, 1) := by decide +kernel
theorem dX4_support_94 : decode cX4_support 94 = .ok (.ladd, 1) := by decide +kernel
theorem dX4_support_95 : decode cX4_support 95 = .ok (.lstore 8, 2) := by decide +kernel
theorem dX4_support_97 : decode cX4_support 97 = .ok (.aload_n 0, 1) := by decide +kernel
theorem dX4_support_98 : decode cX4_support 98 = .ok (.iload 7, 2) := by decide +kernel
theorem dX4_support_100 : decode cX4_support 100 = .ok (.invokevirtual 171, 3) := by decide +kernel
theorem dX4_support_103 : decode cX4_support 103 = .ok (.ifCond .eq 24, 3) := by decide +kernel
theorem dX4_support_106 : decode cX4_support 106 = .ok (.iload 4, 2) := by decide +kernel
theorem dX4_support_108 : decode cX4_support 108 = .ok (.ifCond .lt 11, 3) := by decide +kernel
theorem dX4_support_111 : decode cX4_support 111 = .ok (.lload 8, 2) := by decide +kernel
theorem dX4_support_113 : decode cX4_support 113 = .ok (.lload 5, 2) := by decide +kernel
theorem dX4_support_115 : decode cX4_support 115 = .ok (.lcmp, 1) := by decide +kernel
theorem dX4_support_116 : decode cX4_support 116 = .ok (.ifCond .le 11, 3) := by decide +kernel
theorem dX4_support_119 : decode cX4_support 119 = .ok (.iload 7, 2) := by decide +kernel
theorem dX4_support_121 : decode cX4_support 121 = .ok (.istore 4, 2) := by decide +kernel
theorem dX4_support_123 : decode cX4_support 123 = .ok (.lload 8, 2) := by decide +kernel
theorem dX4_support_125 : decode cX4_support 125 = .ok (.lstore 5, 2) := by decide +kernel
theorem dX4_support_127 : decode cX4_support 127 = .ok (.iinc 7 1, 3) := by decide +kernel
theorem dX4_support_130 : decode cX4_support 130 = .ok (.goto (-76), 3) := by decide +kernel
theorem dX4_support_133 : decode cX4_support 133 = .ok (.iload 4, 2) := by decide +kernel
theorem dX4_support_135 : decode cX4_support 135 = .ok (.ireturn, 1) := by decide +kernel
set_option maxRecDepth 20000 in
theorem ggX4_steps_X4_isCorner : GoodIn wsX4_steps wsX4_isCorner := goodIn_r _ [10, 4, 5, 16, 17, 18, 19, 20, 21, 22, 23, 24, 25, 26, 27, 28, 29, 30, 31, 32, 33, 34, 35, 36, 37, 38, 39, 40, 41, 42] (by decide +kernel) (by decide +kernel)
set_option maxRecDepth 20000 in
theorem gX4_steps_X4_isCorner : GoodIn wsX4_steps (wsV RX4 171 RX4 yX4_isCorner wsX4_isCorner) := goodIn_app (goodIn_of _ (by decide +kernel)) ggX4_steps_X4_isCorner
set_option maxRecDepth 20000 in
theorem ggX4_steps_X4_goes : GoodIn wsX4_steps wsX4_goes := goodIn_r _ [14, 15, 16, 17, 18, 19, 20, 21, 22, 23, 24, 25, 26, 27, 28, 29, 30, 31, 32, 33, 34, 35, 36, 37, 38, 39, 40, 41, 42] (by decide +kernel) (by decide +kernel)
set_option maxRecDepth 20000 in
theorem gX4_steps_X4_goes : GoodIn wsX4_steps (wsV RX4 77 RX4 yX4_goes wsX4_goes) := goodIn_app (goodIn_of _ (by decide +kernel)) ggX4_steps_X4_goes
theorem dX4_steps_0 : decode cX4_steps 0 = .ok (.aload_n 0, 1) := by decide +kernel
theorem dX4_steps_1 : decode cX4_steps 1 = .ok (.getfield 159, 3) := by decide +kernel
theorem dX4_steps_4 : decode cX4_steps 4 = .ok (.ifCond .eq 47, 3) := by decide +kernel
theorem dX4_steps_7 : decode cX4_steps 7 = .ok (.iload_n 1, 1) := by decide +kernel
theorem dX4_steps_8 : decode cX4_steps 8 = .ok (.ifCond .lt 43, 3) := by decide +kernel
theorem dX4_steps_11 : decode cX4_steps 11 = .ok (.iload_n 1, 1) := by decide +kernel
theorem dX4_steps_12 : decode cX4_steps 12 = .ok (.aload_n 0, 1) := by decide +kernel
theorem dX4_steps_13 : decode cX4_steps 13 = .ok (.getfield 98, 3) := by decide +kernel
theorem dX4_steps_16 : decode cX4_steps 16 = .ok (.if_icmp .ge 35, 3) := by decide +kernel
theorem dX4_steps_19 : decode cX4_steps 19 = .ok (.iload_n 2, 1) := by decide +kernel
theorem dX4_steps_20 : decode cX4_steps 20 = .ok (.ifCond .lt 31, 3) := by decide +kernel
theorem dX4_steps_23 : decode cX4_steps 23 = .ok (.iload_n 2, 1) := by decide +kernel
theorem dX4_steps_24 : decode cX4_steps 24 = .ok (.aload_n 0, 1) := by decide +kernel
theorem dX4_steps_25 : decode cX4_steps 25 = .ok (.getfield 98, 3) := by decide +kernel
theorem dX4_steps_28 : decode cX4_steps 28 = .ok (.if_icmp .ge 23, 3) := by decide +kernel
theorem dX4_steps_31 : decode cX4_steps 31 = .ok (.aload_n 0, 1) := by decide +kernel
theorem dX4_steps_32 : decode cX4_steps 32 = .ok (.iload_n 1, 1) := by decide +kernel
theorem dX4_steps_33 : decode cX4_steps 33 = .ok (.invokevirtual 171, 3) := by decide +kernel
theorem dX4_steps_36 : decode cX4_steps 36 = .ok (.ifCond .eq 15, 3) := by decide +kernel
theorem dX4_steps_39 : decode cX4_steps 39 = .ok (.aload_n 0, 1) := by decide +kernel
theorem dX4_steps_40 : decode cX4_steps 40 = .ok (.iload_n 2, 1) := by decide +kernel
theorem dX4_steps_41 : decode cX4_steps 41 = .ok (.invokevirtual 171, 3) := by decide +kernel
theorem dX4_steps_44 : decode cX4_steps 44 = .ok (.ifCond .eq 7, 3) := by decide +kernel
theorem dX4_steps_47 : decode cX4_steps 47 = .ok (.iconst 1, 1) := by decide +kernel
theorem dX4_steps_48 : decode cX4_steps 48 = .ok (.goto 4, 3) := by decide +kernel
theorem dX4_steps_51 : decode cX4_steps 51 = .ok (.iconst 0, 1) := by decide +kernel
theorem dX4_steps_52 : decode cX4_steps 52 = .ok (.istore_n 3, 1) := by decide +kernel
theorem dX4_steps_53 : decode cX4_steps 53 = .ok (.aload_n 0, 1) := by decide +kernel
theorem dX4_steps_54 : decode cX4_steps 54 = .ok (.aload_n 0, 1) := by decide +kernel
theorem dX4_steps_55 : decode cX4_steps 55 = .ok (.getfield 159, 3) := by decide +kernel
theorem dX4_steps_58 : decode cX4_steps 58 = .ok (.iload_n 3, 1) := by decide +kernel
theorem dX4_steps_59 : decode cX4_steps 59 = .ok (.invokevirtual 77, 3) := by decide +kernel
theorem dX4_steps_62 : decode cX4_steps 62 = .ok (.ifCond .ne 5, 3) := by decide +kernel
theorem dX4_steps_65 : decode cX4_steps 65 = .ok (.iconst 0, 1) := by decide +kernel
theorem dX4_steps_66 : decode cX4_steps 66 = .ok (.ireturn, 1) := by decide +kernel
theorem dX4_steps_67 : decode cX4_steps 67 = .ok (.iconst 0, 1) := by decide +kernel
theorem dX4_steps_68 : decode cX4_steps 68 = .ok (.istore 4, 2) := by decide +kernel
theorem dX4_steps_70 : decode cX4_steps 70 = .ok (.iload 4, 2) := by decide +kernel
theorem dX4_steps_72 : decode cX4_steps 72 = .ok (.aload_n 0, 1) := by decide +kernel
theorem dX4_steps_73 : decode cX4_steps 73 = .ok (.getfield 98, 3) := by decide +kernel
theorem dX4_steps_76 : decode cX4_steps 76 = .ok (.if_icmp .ge 28, 3) := by decide +kernel
theorem dX4_steps_79 : decode cX4_steps 79 = .ok (.aload_n 0, 1) := by decide +kernel
theorem dX4_steps_80 : decode cX4_steps 80 = .ok (.getfield 59, 3) := by decide +kernel
theorem dX4_steps_83 : decode cX4_steps 83 = .ok (.iload 4, 2) := by decide +kernel
theorem dX4_steps_85 : decode cX4_steps 85 = .ok (.iload 4, 2) := by decide +kernel
theorem dX4_steps_87 : decode cX4_steps 87 = .ok (.iload_n 1, 1) := by decide +kernel
theorem dX4_steps_88 : decode cX4_steps 88 = .ok (.if_icmp .ne 7, 3) := by decide +kernel
theorem dX4_steps_91 : decode cX4_steps 91 = .ok (.iconst 0, 1) := by decide +kernel
theorem dX4_steps_92 : decode cX4_steps 92 = .ok (.goto 5, 3) := by decide +kernel
theorem dX4_steps_95 : decode cX4_steps 95 = .ok (.bipush 99, 2) := by decide +kernel
theorem dX4_steps_97 : decode cX4_steps 97 = .ok (.iastore, 1) := by decide +kernel
theorem dX4_steps_98 : decode cX4_steps 98 = .ok (.iinc 4 1, 3) := by decide +kernel
theorem dX4_steps_101 : decode cX4_steps 101 = .ok (.goto (-31), 3) := by decide +kernel
theorem dX4_steps_104 : decode cX4_steps 104 = .ok (.iconst 0, 1) := by decide +kernel
theorem dX4_steps_105 : decode cX4_steps 105 = .ok (.istore 4, 2) := by decide +kernel
theorem dX4_steps_107 : decode cX4_steps 107 = .ok (.iload 4, 2) := by decide +kernel
theorem dX4_steps_109 : decode cX4_steps 109 = .ok (.aload_n 0, 1) := by decide +kernel
theorem dX4_steps_110 : decode cX4_steps 110 = .ok (.getfield 98, 3) := by decide +kernel
theorem dX4_steps_113 : decode cX4_steps 113 = .ok (.if_icmp .ge 141, 3) := by decide +kernel
theorem dX4_steps_116 : decode cX4_steps 116 = .ok (.iconst 0, 1) := by decide +kernel
theorem dX4_steps_117 : decode cX4_steps 117 = .ok (.istore 5, 2) := by decide +kernel
theorem dX4_steps_119 : decode cX4_steps 119 = .ok (.iload 5, 2) := by decide +kernel
theorem dX4_steps_121 : decode cX4_steps 121 = .ok (.aload_n 0, 1) := by decide +kernel
theorem dX4_steps_122 : decode cX4_steps 122 = .ok (.getfield 132, 3) := by decide +kernel
theorem dX4_steps_125 : decode cX4_steps 125 = .ok (.if_icmp .ge 123, 3) := by decide +kernel
theorem dX4_steps_128 : decode cX4_steps 128 = .ok (.aload_n 0, 1) := by decide +kernel
theorem dX4_steps_129 : decode cX4_steps 129 = .ok (.getfield 50, 3) := by decide +kernel
theorem dX4_steps_132 : decode cX4_steps 132 = .ok (.iload 5, 2) := by decide +kernel
theorem dX4_steps_134 : decode cX4_steps 134 = .ok (.iaload, 1) := by decide +kernel
theorem dX4_steps_135 : decode cX4_steps 135 = .ok (.bipush 32, 2) := by decide +kernel
theorem dX4_steps_137 : decode cX4_steps 137 = .ok (.idiv, 1) := by decide +kernel
theorem dX4_steps_138 : decode cX4_steps 138 = .ok (.istore 6, 2) := by decide +kernel
theorem dX4_steps_140 : decode cX4_steps 140 = .ok (.aload_n 0, 1) := by decide +kernel
theorem dX4_steps_141 : decode cX4_steps 141 = .ok (.getfield 50, 3) := by decide +kernel
theorem dX4_steps_144 : decode cX4_steps 144 = .ok (.iload 5, 2) := by decide +kernel
theorem dX4_steps_146 : decode cX4_steps 146 = .ok (.iaload, 1) := by decide +kernel
theorem dX4_steps_147 : decode cX4_steps 147 = .ok (.bipush 32, 2) := by decide +kernel
theorem dX4_steps_149 : decode cX4_steps 149 = .ok (.irem, 1) := by decide +kernel
theorem dX4_steps_150 : decode cX4_steps 150 = .ok (.istore 7, 2) := by decide +kernel
theorem dX4_steps_152 : decode cX4_steps 152 = .ok (.aload_n 0, 1) := by decide +kernel
theorem dX4_steps_153 : decode cX4_steps 153 = .ok (.getfield 59, 3) := by decide +kernel
theorem dX4_steps_156 : decode cX4_steps 156 = .ok (.iload 6, 2) := by decide +kernel
theorem dX4_steps_158 : decode cX4_steps 158 = .ok (.aload_n 0, 1) := by decide +kernel
theorem dX4_steps_159 : decode cX4_steps 159 = .ok (.getfield 59, 3) := by decide +kernel
theorem dX4_steps_162 : decode cX4_steps 162 = .ok (.iload 7, 2) := by decide +kernel
theorem dX4_steps_164 : decode cX4_steps 164 = .ok (.iaload, 1) := by decide +kernel
theorem dX4_steps_165 : decode cX4_steps 165 = .ok (.iconst 1, 1) := by decide +kernel
theorem dX4_steps_166 : decode cX4_steps 166 = .ok (.iadd, 1) := by decide +kernel
theorem dX4_steps_167 : decode cX4_steps 167 = .ok (.aload_n 0, 1) := by decide +kernel
theorem dX4_steps_168 : decode cX4_steps 168 = .ok (.getfield 59, 3) := by decide +kernel
theorem dX4_steps_171 : decode cX4_steps 171 = .ok (.iload 6, 2) := by decide +kernel
theorem dX4_steps_173 : decode cX4_steps 173 = .ok (.iaload, 1) := by decide +kernel
theorem dX4_steps_174 : decode cX4_steps 174 = .ok (.if_icmp .ge 15, 3) := by decide +kernel
theorem dX4_steps_177 : decode cX4_steps 177 = .ok (.aload_n 0, 1) := by decide +kernel
theorem dX4_steps_178 : decode cX4_steps 178 = .ok (.getfield 59, 3) := by decide +kernel
theorem dX4_steps_181 : decode cX4_steps 181 = .ok (.iload 7, 2) := by decide +kernel
theorem dX4_steps_183 : decode cX4_steps 183 = .ok (.iaload, 1) := by decide +kernel
theorem dX4_steps_184 : decode cX4_steps 184 = .ok (.iconst 1, 1) := by decide +kernel
theorem dX4_steps_185 : decode cX4_steps 185 = .ok (.iadd, 1) := by decide +kernel
theorem dX4_steps_186 : decode cX4_steps 186 = .ok (.goto 10, 3) := by decide +kernel
theorem dX4_steps_189 : decode cX4_steps 189 = .ok (.aload_n 0, 1) := by decide +kernel
theorem dX4_steps_190 : decode cX4_steps 190 = .ok (.getfield 59, 3) := by decide +kernel
theorem dX4_steps_193 : decode cX4_steps 193 = .ok (.iload 6, 2) := by decide +kernel
theorem dX4_steps_195 : decode cX4_steps 195 = .ok (.iaload, 1) := by decide +kernel
theorem dX4_steps_196 : decode cX4_steps 196 = .ok (.iastore, 1) := by decide +kernel
theorem dX4_steps_197 : decode cX4_steps 197 = .ok (.aload_n 0, 1) := by decide +kernel
theorem dX4_steps_198 : decode cX4_steps 198 = .ok (.getfield 59, 3) := by decide +kernel
theorem dX4_steps_201 : decode cX4_steps 201 = .ok (.iload 7, 2) := by decide +kernel
theorem dX4_steps_203 : decode cX4_steps 203 = .ok (.aload_n 0, 1) := by decide +kernel
theorem dX4_steps_204 : decode cX4_steps 204 = .ok (.getfield 59, 3) := by decide +kernel
theorem dX4_steps_207 : decode cX4_steps 207 = .ok (.iload 6, 2) := by decide +kernel
theorem dX4_steps_209 : decode cX4_steps 209 = .ok (.iaload, 1) := by decide +kernel
theorem dX4_steps_210 : decode cX4_steps 210 = .ok (.iconst 1, 1) := by decide +kernel
theorem dX4_steps_211 : decode cX4_steps 211 = .ok (.iadd, 1) := by decide +kernel
theorem dX4_steps_212 : decode cX4_steps 212 = .ok (.aload_n 0, 1) := by decide +kernel
theorem dX4_steps_213 : decode cX4_steps 213 = .ok (.getfield 59, 3) := by decide +kernel
theorem dX4_steps_216 : decode cX4_steps 216 = .ok (.iload 7, 2) := by decide +kernel
theorem dX4_steps_218 : decode cX4_steps 218 = .ok (.iaload, 1) := by decide +kernel
theorem dX4_steps_219 : decode cX4_steps 219 = .ok (.if_icmp .ge 15, 3) := by decide +kernel
theorem dX4_steps_222 : decode cX4_steps 222 = .ok (.aload_n 0, 1) := by decide +kernel
theorem dX4_steps_223 : decode cX4_steps 223 = .ok (.getfield 59, 3) := by decide +kernel
theorem dX4_steps_226 : decode cX4_steps 226 = .ok (.iload 6, 2) := by decide +kernel
theorem dX4_steps_228 : decode cX4_steps 228 = .ok (.iaload, 1) := by decide +kernel
theorem dX4_steps_229 : decode cX4_steps 229 = .ok (.iconst 1, 1) := by decide +kernel
theorem dX4_steps_230 : decode cX4_steps 230 = .ok (.iadd, 1) := by decide +kernel
theorem dX4_steps_231 : decode cX4_steps 231 = .ok (.goto 10, 3) := by decide +kernel
theorem dX4_steps_234 : decode cX4_steps 234 = .ok (.aload_n 0, 1) := by decide +kernel
theorem dX4_steps_235 : decode cX4_steps 235 = .ok (.getfield 59, 3) := by decide +kernel
theorem dX4_steps_238 : decode cX4_steps 238 = .ok (.iload 7, 2) := by decide +kernel
theorem dX4_steps_240 : decode cX4_steps 240 = .ok (.iaload, 1) := by decide +kernel
theorem dX4_steps_241 : decode cX4_steps 241 = .ok (.iastore, 1) := by decide +kernel
theorem dX4_steps_242 : decode cX4_steps 242 = .ok (.iinc 5 1, 3) := by decide +kernel
theorem dX4_steps_245 : decode cX4_steps 245 = .ok (.goto (-126), 3) := by decide +kernel
theorem dX4_steps_248 : decode cX4_steps 248 = .ok (.iinc 4 1, 3) := by decide +kernel
theorem dX4_steps_251 : decode cX4_steps 251 = .ok (.goto (-144), 3) := by decide +kernel
theorem dX4_steps_254 : decode cX4_steps 254 = .ok (.aload_n 0, 1) := by decide +kernel
theorem dX4_steps_255 : decode cX4_steps 255 = .ok (.getfield 59, 3) := by decide +kernel
theorem dX4_steps_258 : decode cX4_steps 258 = .ok (.iload_n 2, 1) := by decide +kernel
theorem dX4_steps_259 : decode cX4_steps 259 = .ok (.iaload, 1) := by decide +kernel
theorem dX4_steps_260 : decode cX4_steps 260 = .ok (.ireturn, 1) := by decide +kernel
set_option maxRecDepth 20000 in
theorem ggX4_side_X4_within : GoodIn wsX4_side wsX4_within := goodIn_r _ [11] (by decide +kernel) (by decide +kernel)
set_option maxRecDepth 20000 in
theorem gX4_side_X4_within : GoodIn wsX4_side (va_wsS RX4 69 yX4_within wsX4_within) := goodIn_app (goodIn_of _ (by decide +kernel)) ggX4_side_X4_within
set_option maxRecDepth 20000 in
theorem ggX4_side_X4_goes : GoodIn wsX4_side wsX4_goes := goodIn_r _ [15, 16, 17, 18, 19, 20, 21, 22, 23, 24, 25, 26, 27, 28, 29, 30, 31, 32, 33, 34, 35, 36, 37, 38, 39, 40, 41, 42, 43] (by decide +kernel) (by decide +kernel)
set_option maxRecDepth 20000 in
theorem gX4_side_X4_goes : GoodIn wsX4_side (wsV RX4 77 RX4 yX4_goes wsX4_goes) := goodIn_app (goodIn_of _ (by decide +kernel)) ggX4_side_X4_goes
theorem dX4_side_0 : decode cX4_side 0 = .ok (.aload_n 0, 1) := by decide +kernel
theorem dX4_side_1 : decode cX4_side 1 = .ok (.aload_n 0, 1) := by decide +kernel
theorem dX4_side_2 : decode cX4_side 2 = .ok (.getfield 159, 3) := by decide +kernel
theorem dX4_side_5 : decode cX4_side 5 = .ok (.iload_n 1, 1) := by decide +kernel
theorem dX4_side_6 : decode cX4_side 6 = .ok (.ldc 170, 2) := by decide +kernel
theorem dX4_side_8 : decode cX4_side 8 = .ok (.invokestatic 69, 3) := by decide +kernel
theorem dX4_side_11 : decode cX4_side 11 = .ok (.ifCond .eq 25, 3) := by decide +kernel
theorem dX4_side_14 : decode cX4_side 14 = .ok (.iload_n 2, 1) := by decide +kernel
theorem dX4_side_15 : decode cX4_side 15 = .ok (.ldc 170, 2) := by decide +kernel
theorem dX4_side_17 : decode cX4_side 17 = .ok (.invokestatic 69, 3) := by decide +kernel
theorem dX4_side_20 : decode cX4_side 20 = .ok (.ifCond .eq 16, 3) := by decide +kernel
theorem dX4_side_23 : decode cX4_side 23 = .ok (.iload_n 3, 1) := by decide +kernel
theorem dX4_side_24 : decode cX4_side 24 = .ok (.ldc 170, 2) := by decide +kernel
theorem dX4_side_26 : decode cX4_side 26 = .ok (.invokestatic 69, 3) := by decide +kernel
theorem dX4_side_29 : decode cX4_side 29 = .ok (.ifCond .eq 7, 3) := by decide +kernel
theorem dX4_side_32 : decode cX4_side 32 = .ok (.iconst 1, 1) := by decide +kernel
theorem dX4_side_33 : decode cX4_side 33 = .ok (.goto 4, 3) := by decide +kernel
theorem dX4_side_36 : decode cX4_side 36 = .ok (.iconst 0, 1) := by decide +kernel
theorem dX4_side_37 : decode cX4_side 37 = .ok (.invokevirtual 77, 3) := by decide +kernel
theorem dX4_side_40 : decode cX4_side 40 = .ok (.ifCond .ne 5, 3) := by decide +kernel
theorem dX4_side_43 : decode cX4_side 43 = .ok (.iconst 0, 1) := by decide +kernel
theorem dX4_side_44 : decode cX4_side 44 = .ok (.ireturn, 1) := by decide +kernel
theorem dX4_side_45 : decode cX4_side 45 = .ok (.iconst 1, 1) := by decide +kernel
theorem dX4_side_46 : decode cX4_side 46 = .ok (.istore 4, 2) := by decide +kernel
theorem dX4_side_48 : decode cX4_side 48 = .ok (.iconst 0, 1) := by decide +kernel
theorem dX4_side_49 : decode cX4_side 49 = .ok (.istore 5, 2) := by decide +kernel
theorem dX4_side_51 : decode cX4_side 51 = .ok (.iload 5, 2) := by decide +kernel
theorem dX4_side_53 : decode cX4_side 53 = .ok (.aload_n 0, 1) := by decide +kernel
theorem dX4_side_54 : decode cX4_side 54 = .ok (.getfield 91, 3) := by decide +kernel
theorem dX4_side_57 : decode cX4_side 57 = .ok (.if_icmp .ge 83, 3) := by decide +kernel
theorem dX4_side_60 : decode cX4_side 60 = .ok (.aload_n 0, 1) := by decide +kernel
theorem dX4_side_61 : decode cX4_side 61 = .ok (.getfield 29, 3) := by decide +kernel
theorem dX4_side_64 : decode cX4_side 64 = .ok (.iload 5, 2) := by decide +kernel
theorem dX4_side_66 : decode cX4_side 66 = .ok (.laload, 1) := by decide +kernel
theorem dX4_side_67 : decode cX4_side 67 = .ok (.iload_n 1, 1) := by decide +kernel
theorem dX4_side_68 : decode cX4_side 68 = .ok (.i2l, 1) := by decide +kernel
theorem dX4_side_69 : decode cX4_side 69 = .ok (.lmul, 1) := by decide +kernel
theorem dX4_side_70 : decode cX4_side 70 = .ok (.aload_n 0, 1) := by decide +kernel
theorem dX4_side_71 : decode cX4_side 71 = .ok (.getfield 32, 3) := by decide +kernel
theorem dX4_side_74 : decode cX4_side 74 = .ok (.iload 5, 2) := by decide +kernel
theorem dX4_side_76 : decode cX4_side 76 = .ok (.laload, 1) := by decide +kernel
theorem dX4_side_77 : decode cX4_side 77 = .ok (.iload_n 2, 1) := by decide +kernel
theorem dX4_side_78 : decode cX4_side 78 = .ok (.i2l, 1) := by decide +kernel
theorem dX4_side_79 : decode cX4_side 79 = .ok (.lmul, 1) := by decide +kernel
theorem dX4_side_80 : decode cX4_side 80 = .ok (.ladd, 1) := by decide +kernel
theorem dX4_side_81 : decode cX4_side 81 = .ok (.aload_n 0, 1) := by decide +kernel
theorem dX4_side_82 : decode cX4_side 82 = .ok (.getfield 35, 3) := by decide +kernel
theorem dX4_side_85 : decode cX4_side 85 = .ok (.iload 5, 2) := by decide +kernel
theorem dX4_side_87 : decode cX4_side 87 = .ok (.laload, 1) := by decide +kernel
theorem dX4_side_88 : decode cX4_side 88 = .ok (.iload_n 3, 1) := by decide +kernel
theorem dX4_side_89 : decode cX4_side 89 = .ok (.i2l, 1) := by decide +kernel
theorem dX4_side_90 : decode cX4_side 90 = .ok (.lmul, 1) := by decide +kernel
theorem dX4_side_91 : decode cX4_side 91 = .ok (.ladd, 1) := by decide +kernel
theorem dX4_side_92 : decode cX4_side 92 = .ok (.aload_n 0, 1) := by decide +kernel
theorem dX4_side_93 : decode cX4_side 93 = .ok (.getfield 38, 3) := by decide +kernel
theorem dX4_side_96 : decode cX4_side 96 = .ok (.iload 5, 2) := by decide +kernel
theorem dX4_side_98 : decode cX4_side 98 = .ok (.laload, 1) := by decide +kernel
theorem dX4_side_99 : decode cX4_side 99 = .ok (.lsub, 1) := by decide +kernel
theorem dX4_side_100 : decode cX4_side 100 = .ok (.lstore 6, 2) := by decide +kernel
theorem dX4_side_102 : decode cX4_side 102 = .ok (.lload 6, 2) := by decide +kernel
theorem dX4_side_104 : decode cX4_side 104 = .ok (.lconst 0, 1) := by decide +kernel
theorem dX4_side_105 : decode cX4_side 105 = .ok (.lcmp, 1) := by decide +kernel
theorem dX4_side_106 : decode cX4_side 106 = .ok (.ifCond .le 7, 3) := by decide +kernel
theorem dX4_side_109 : decode cX4_side 109 = .ok (.iconst (-1), 1) := by decide +kernel
theorem dX4_side_110 : decode cX4_side 110 = .ok (.goto 22, 3) := by decide +kernel
theorem dX4_side_113 : decode cX4_side 113 = .ok (.lload 6, 2) := by decide +kernel
theorem dX4_side_115 : decode cX4_side 115 = .ok (.lconst 0, 1) := by decide +kernel
theorem dX4_side_116 : decode cX4_side 116 = .ok (.lcmp, 1) := by decide +kernel
theorem dX4_side_117 : decode cX4_side 117 = .ok (.ifCond .ne 13, 3) := by decide +kernel
theorem dX4_side_120 : decode cX4_side 120 = .ok (.iload 4, 2) := by decide +kernel
theorem dX4_side_122 : decode cX4_side 122 = .ok (.iconst 1, 1) := by decide +kernel
theorem dX4_side_123 : decode cX4_side 123 = .ok (.if_icmp .ne 7, 3) := by decide +kernel
theorem dX4_side_126 : decode cX4_side 126 = .ok (.iconst 0, 1) := by decide +kernel
theorem dX4_side_127 : decode cX4_side 127 = .ok (.goto 5, 3) := by decide +kernel
theorem dX4_side_130 : decode cX4_side 130 = .ok (.iload 4, 2) := by decide +kernel
theorem dX4_side_132 : decode cX4_side 132 = .ok (.istore 4, 2) := by decide +kernel
theorem dX4_side_134 : decode cX4_side 134 = .ok (.iinc 5 1, 3) := by decide +kernel
theorem dX4_side_137 : decode cX4_side 137 = .ok (.goto (-86), 3) := by decide +kernel
theorem dX4_side_140 : decode cX4_side 140 = .ok (.iload 4, 2) := by decide +kernel
theorem dX4_side_142 : decode cX4_side 142 = .ok (.ireturn, 1) := by decide +kernel
theorem dX4_sum_0 : decode cX4_sum 0 = .ok (.lconst 0, 1) := by decide +kernel
theorem dX4_sum_1 : decode cX4_sum 1 = .ok (.lstore_n 2, 1) := by decide +kernel
theorem dX4_sum_2 : decode cX4_sum 2 = .ok (.iconst 0, 1) := by decide +kernel
theorem dX4_sum_3 : decode cX4_sum 3 = .ok (.istore 4, 2) := by decide +kernel
theorem dX4_sum_5 : decode cX4_sum 5 = .ok (.iload 4, 2) := by decide +kernel
theorem dX4_sum_7 : decode cX4_sum 7 = .ok (.aload_n 0, 1) := by decide +kernel
theorem dX4_sum_8 : decode cX4_sum 8 = .ok (.getfield 91, 3) := by decide +kernel
theorem dX4_sum_11 : decode cX4_sum 11 = .ok (.if_icmp .ge 299, 3) := by decide +kernel
theorem dX4_sum_14 : decode cX4_sum 14 = .ok (.aload_n 0, 1) := by decide +kernel
theorem dX4_sum_15 : decode cX4_sum 15 = .ok (.getfield 44, 3) := by decide +kernel
theorem dX4_sum_18 : decode cX4_sum 18 = .ok (.bipush 24, 2) := by decide +kernel
theorem dX4_sum_20 : decode cX4_sum 20 = .ok (.iload 4, 2) := by decide +kernel
theorem dX4_sum_22 : decode cX4_sum 22 = .ok (.imul, 1) := by decide +kernel
theorem dX4_sum_23 : decode cX4_sum 23 = .ok (.iaload, 1) := by decide +kernel
theorem dX4_sum_24 : decode cX4_sum 24 = .ok (.istore 5, 2) := by decide +kernel
theorem dX4_sum_26 : decode cX4_sum 26 = .ok (.iconst 1, 1) := by decide +kernel
theorem dX4_sum_27 : decode cX4_sum 27 = .ok (.istore 6, 2) := by decide +kernel
theorem dX4_sum_29 : decode cX4_sum 29 = .ok (.iload 6, 2) := by decide +kernel
theorem dX4_sum_31 : decode cX4_sum 31 = .ok (.iconst 1, 1) := by decide +kernel
theorem dX4_sum_32 : decode cX4_sum 32 = .ok (.iadd, 1) := by decide +kernel
theorem dX4_sum_33 : decode cX4_sum 33 = .ok (.aload_n 0, 1) := by decide +kernel
theorem dX4_sum_34 : decode cX4_sum 34 = .ok (.getfield 41, 3) := by decide +kernel
theorem dX4_sum_37 : decode cX4_sum 37 = .ok (.iload 4, 2) := by decide +kernel
theorem dX4_sum_39 : decode cX4_sum 39 = .ok (.iaload, 1) := by decide +kernel
theorem dX4_sum_40 : decode cX4_sum 40 = .ok (.if_icmp .ge 264, 3) := by decide +kernel
theorem dX4_sum_43 : decode cX4_sum 43 = .ok (.aload_n 0, 1) := by decide +kernel
theorem dX4_sum_44 : decode cX4_sum 44 = .ok (.getfield 44, 3) := by decide +kernel
theorem dX4_sum_47 : decode cX4_sum 47 = .ok (.bipush 24, 2) := by decide +kernel
theorem dX4_sum_49 : decode cX4_sum 49 = .ok (.iload 4, 2) := by decide +kernel
theorem dX4_sum_51 : decode cX4_sum 51 = .ok (.imul, 1) := by decide +kernel
theorem dX4_sum_52 : decode cX4_sum 52 = .ok (.iload 6, 2) := by decide +kernel
theorem dX4_sum_54 : decode cX4_sum 54 = .ok (.iadd, 1) := by decide +kernel
theorem dX4_sum_55 : decode cX4_sum 55 = .ok (.iaload, 1) := by decide +kernel
theorem dX4_sum_56 : decode cX4_sum 56 = .ok (.istore 7, 2) := by decide +kernel
theorem dX4_sum_58 : decode cX4_sum 58 = .ok (.aload_n 0, 1) := by decide +kernel
theorem dX4_sum_59 : decode cX4_sum 59 = .ok (.getfield 44, 3) := by decide +kernel
theorem dX4_sum_62 : decode cX4_sum 62 = .ok (.bipush 24, 2) := by decide +kernel
theorem dX4_sum_64 : decode cX4_sum 64 = .ok (.iload 4, 2) := by decide +kernel
theorem dX4_sum_66 : decode cX4_sum 66 = .ok (.imul, 1) := by decide +kernel
theorem dX4_sum_67 : decode cX4_sum 67 = .ok (.iload 6, 2) := by decide +kernel
theorem dX4_sum_69 : decode cX4_sum 69 = .ok (.iadd, 1) := by decide +kernel
theorem dX4_sum_70 : decode cX4_sum 70 = .ok (.iconst 1, 1) := by decide +kernel
theorem dX4_sum_71 : decode cX4_sum 71 = .ok (.iadd, 1) := by decide +kernel
theorem dX4_sum_72 : decode cX4_sum 72 = .ok (.iaload, 1) := by decide +kernel
theorem dX4_sum_73 : decode cX4_sum 73 = .ok (.istore 8, 2) := by decide +kernel
theorem dX4_sum_75 : decode cX4_sum 75 = .ok (.aload_n 0, 1) := by decide +kernel
theorem dX4_sum_76 : decode cX4_sum 76 = .ok (.getfield 19, 3) := by decide +kernel
theorem dX4_sum_79 : decode cX4_sum 79 = .ok (.iload 5, 2) := by decide +kernel
theorem dX4_sum_81 : decode cX4_sum 81 = .ok (.laload, 1) := by decide +kernel
theorem dX4_sum_82 : decode cX4_sum 82 = .ok (.aload_n 0, 1) := by decide +kernel
theorem dX4_sum_83 : decode cX4_sum 83 = .ok (.getfield 23, 3) := by decide +kernel
theorem dX4_sum_86 : decode cX4_sum 86 = .ok (.iload 7, 2) := by decide +kernel
theorem dX4_sum_88 : decode cX4_sum 88 = .ok (.laload, 1) := by decide +kernel
theorem dX4_sum_89 : decode cX4_sum 89 = .ok (.aload_n 0, 1) := by decide +kernel
theorem dX4_sum_90 : decode cX4_sum 90 = .ok (.getfield 26, 3) := by decide +kernel
theorem dX4_sum_93 : decode cX4_sum 93 = .ok (.iload 8, 2) := by decide +kernel
theorem dX4_sum_95 : decode cX4_sum 95 = .ok (.laload, 1) := by decide +kernel
theorem dX4_sum_96 : decode cX4_sum 96 = .ok (.lmul, 1) := by decide +kernel
theorem dX4_sum_97 : decode cX4_sum 97 = .ok (.aload_n 0, 1) := by decide +kernel
theorem dX4_sum_98 : decode cX4_sum 98 = .ok (.getfield 26, 3) := by decide +kernel
theorem dX4_sum_101 : decode cX4_sum 101 = .ok (.iload 7, 2) := by decide +kernel
theorem dX4_sum_103 : decode cX4_sum 103 = .ok (.laload, 1) := by decide +kernel
theorem dX4_sum_104 : decode cX4_sum 104 = .ok (.aload_n 0, 1) := by decide +kernel
theorem dX4_sum_105 : decode cX4_sum 105 = .ok (.getfield 23, 3) := by decide +kernel
theorem dX4_sum_108 : decode cX4_sum 108 = .ok (.iload 8, 2) := by decide +kernel
theorem dX4_sum_110 : decode cX4_sum 110 = .ok (.laload, 1) := by decide +kernel
theorem dX4_sum_111 : decode cX4_sum 111 = .ok (.lmul, 1) := by decide +kernel
theorem dX4_sum_112 : decode cX4_sum 112 = .ok (.lsub, 1) := by decide +kernel
theorem dX4_sum_113 : decode cX4_sum 113 = .ok (.lmul, 1) := by decide +kernel
theorem dX4_sum_114 : decode cX4_sum 114 = .ok (.aload_n 0, 1) := by decide +kernel
theorem dX4_sum_115 : decode cX4_sum 115 = .ok (.getfield 23, 3) := by decide +kernel
theorem dX4_sum_118 : decode cX4_sum 118 = .ok (.iload 5, 2) := by decide +kernel
theorem dX4_sum_120 : decode cX4_sum 120 = .ok (.laload, 1) := by decide +kernel
theorem dX4_sum_121 : decode cX4_sum 121 = .ok (.aload_n 0, 1) := by decide +kernel
theorem dX4_sum_122 : decode cX4_sum 122 = .ok (.getfield 26, 3) := by decide +kernel
theorem dX4_sum_125 : decode cX4_sum 125 = .ok (.iload 7, 2) := by decide +kernel
theorem dX4_sum_127 : decode cX4_sum 127 = .ok (.laload, 1) := by decide +kernel
theorem dX4_sum_128 : decode cX4_sum 128 = .ok (.aload_n 0, 1) := by decide +kernel
theorem dX4_sum_129 : decode cX4_sum 129 = .ok (.getfield 19, 3) := by decide +kernel
theorem dX4_sum_132 : decode cX4_sum 132 = .ok (.iload 8, 2) := by decide +kernel
theorem dX4_sum_134 : decode cX4_sum 134 = .ok (.laload, 1) := by decide +kernel
theorem dX4_sum_135 : decode cX4_sum 135 = .ok (.lmul, 1) := by decide +kernel
theorem dX4_sum_136 : decode cX4_sum 136 = .ok (.aload_n 0, 1) := by decide +kernel
theorem dX4_sum_137 : decode cX4_sum 137 = .ok (.getfield 19, 3) := by decide +kernel
theorem dX4_sum_140 : decode cX4_sum 140 = .ok (.iload 7, 2) := by decide +kernel
theorem dX4_sum_142 : decode cX4_sum 142 = .ok (.laload, 1) := by decide +kernel
theorem dX4_sum_143 : decode cX4_sum 143 = .ok (.aload_n 0, 1) := by decide +kernel
theorem dX4_sum_144 : decode cX4_sum 144 = .ok (.getfield 26, 3) := by decide +kernel
theorem dX4_sum_147 : decode cX4_sum 147 = .ok (.iload 8, 2) := by decide +kernel
theorem dX4_sum_149 : decode cX4_sum 149 = .ok (.laload, 1) := by decide +kernel
theorem dX4_sum_150 : decode cX4_sum 150 = .ok (.lmul, 1) := by decide +kernel
theorem dX4_sum_151 : decode cX4_sum 151 = .ok (.lsub, 1) := by decide +kernel
theorem dX4_sum_152 : decode cX4_sum 152 = .ok (.lmul, 1) := by decide +kernel
theorem dX4_sum_153 : decode cX4_sum 153 = .ok (.ladd, 1) := by decide +kernel
theorem dX4_sum_154 : decode cX4_sum 154 = .ok (.aload_n 0, 1) := by decide +kernel
theorem dX4_sum_155 : decode cX4_sum 155 = .ok (.getfield 26, 3) := by decide +kernel
theorem dX4_sum_158 : decode cX4_sum 158 = .ok (.iload 5, 2) := by decide +kernel
theorem dX4_sum_160 : decode cX4_sum 160 = .ok (.laload, 1) := by decide +kernel
theorem dX4_sum_161 : decode cX4_sum 161 = .ok (.aload_n 0, 1) := by decide +kernel
theorem dX4_sum_162 : decode cX4_sum 162 = .ok (.getfield 19, 3) := by decide +kernel
theorem dX4_sum_165 : decode cX4_sum 165 = .ok (.iload 7, 2) := by decide +kernel
theorem dX4_sum_167 : decode cX4_sum 167 = .ok (.laload, 1) := by decide +kernel
theorem dX4_sum_168 : decode cX4_sum 168 = .ok (.aload_n 0, 1) := by decide +kernel
theorem dX4_sum_169 : decode cX4_sum 169 = .ok (.getfield 23, 3) := by decide +kernel
theorem dX4_sum_172 : decode cX4_sum 172 = .ok (.iload 8, 2) := by decide +kernel
theorem dX4_sum_174 : decode cX4_sum 174 = .ok (.laload, 1) := by decide +kernel
theorem dX4_sum_175 : decode cX4_sum 175 = .ok (.lmul, 1) := by decide +kernel
theorem dX4_sum_176 : decode cX4_sum 176 = .ok (.aload_n 0, 1) := by decide +kernel
theorem dX4_sum_177 : decode cX4_sum 177 = .ok (.getfield 23, 3) := by decide +kernel
theorem dX4_sum_180 : decode cX4_sum 180 = .ok (.iload 7, 2) := by decide +kernel
theorem dX4_sum_182 : decode cX4_sum 182 = .ok (.laload, 1) := by decide +kernel
theorem dX4_sum_183 : decode cX4_sum 183 = .ok (.aload_n 0, 1) := by decide +kernel
theorem dX4_sum_184 : decode cX4_sum 184 = .ok (.getfield 19, 3) := by decide +kernel
theorem dX4_sum_187 : decode cX4_sum 187 = .ok (.iload 8, 2) := by decide +kernel
theorem dX4_sum_189 : decode cX4_sum 189 = .ok (.laload, 1) := by decide +kernel
theorem dX4_sum_190 : decode cX4_sum 190 = .ok (.lmul, 1) := by decide +kernel
theorem dX4_sum_191 : decode cX4_sum 191 = .ok (.lsub, 1) := by decide +kernel
theorem dX4_sum_192 : decode cX4_sum 192 = .ok (.lmul, 1) := by decide +kernel
theorem dX4_sum_193 : decode cX4_sum 193 = .ok (.ladd, 1) := by decide +kernel
theorem dX4_sum_194 : decode cX4_sum 194 = .ok (.lstore 9, 2) := by decide +kernel
theorem dX4_sum_196 : decode cX4_sum 196 = .ok (.iload_n 1, 1) := by decide +kernel
theorem dX4_sum_197 : decode cX4_sum 197 = .ok (.ifCond .ge 7, 3) := by decide +kernel
theorem dX4_sum_200 : decode cX4_sum 200 = .ok (.lconst 1, 1) := by decide +kernel
theorem dX4_sum_201 : decode cX4_sum 201 = .ok (.goto 87, 3) := by decide +kernel
theorem dX4_sum_204 : decode cX4_sum 204 = .ok (.iload_n 1, 1) := by decide +kernel
theorem dX4_sum_205 : decode cX4_sum 205 = .ok (.ifCond .ne 29, 3) := by decide +kernel
theorem dX4_sum_208 : decode cX4_sum 208 = .ok (.aload_n 0, 1) := by decide +kernel
theorem dX4_sum_209 : decode cX4_sum 209 = .ok (.getfield 19, 3) := by decide +kernel
theorem dX4_sum_212 : decode cX4_sum 212 = .ok (.iload 5, 2) := by decide +kernel
theorem dX4_sum_214 : decode cX4_sum 214 = .ok (.laload, 1) := by decide +kernel
theorem dX4_sum_215 : decode cX4_sum 215 = .ok (.aload_n 0, 1) := by decide +kernel
theorem dX4_sum_216 : decode cX4_sum 216 = .ok (.getfield 19, 3) := by decide +kernel
theorem dX4_sum_219 : decode cX4_sum 219 = .ok (.iload 7, 2) := by decide +kernel
theorem dX4_sum_221 : decode cX4_sum 221 = .ok (.laload, 1) := by decide +kernel
theorem dX4_sum_222 : decode cX4_sum 222 = .ok (.ladd, 1) := by decide +kernel
theorem dX4_sum_223 : decode cX4_sum 223 = .ok (.aload_n 0, 1) := by decide +kernel
theorem dX4_sum_224 : decode cX4_sum 224 = .ok (.getfield 19, 3) := by decide +kernel
theorem dX4_sum_227 : decode cX4_sum 227 = .ok (.iload 8, 2) := by decide +kernel
theorem dX4_sum_229 : decode cX4_sum 229 = .ok (.laload, 1) := by decide +kernel
theorem dX4_sum_230 : decode cX4_sum 230 = .ok (.ladd, 1) := by decide +kernel
theorem dX4_sum_231 : decode cX4_sum 231 = .ok (.goto 57, 3) := by decide +kernel
theorem dX4_sum_234 : decode cX4_sum 234 = .ok (.iload_n 1, 1) := by decide +kernel
theorem dX4_sum_235 : decode cX4_sum 235 = .ok (.iconst 1, 1) := by decide +kernel
theorem dX4_sum_236 : decode cX4_sum 236 = .ok (.if_icmp .ne 29, 3) := by decide +kernel
theorem dX4_sum_239 : decode cX4_sum 239 = .ok (.aload_n 0, 1) := by decide +kernel
theorem dX4_sum_240 : decode cX4_sum 240 = .ok (.getfield 23, 3) := by decide +kernel
theorem dX4_sum_243 : decode cX4_sum 243 = .ok (.iload 5, 2) := by decide +kernel
theorem dX4_sum_245 : decode cX4_sum 245 = .ok (.laload, 1) := by decide +kernel
theorem dX4_sum_246 : decode cX4_sum 246 = .ok (.aload_n 0, 1) := by decide +kernel
theorem dX4_sum_247 : decode cX4_sum 247 = .ok (.getfield 23, 3) := by decide +kernel
theorem dX4_sum_250 : decode cX4_sum 250 = .ok (.iload 7, 2) := by decide +kernel
theorem dX4_sum_252 : decode cX4_sum 252 = .ok (.laload, 1) := by decide +kernel
theorem dX4_sum_253 : decode cX4_sum 253 = .ok (.ladd, 1) := by decide +kernel
theorem dX4_sum_254 : decode cX4_sum 254 = .ok (.aload_n 0, 1) := by decide +kernel
theorem dX4_sum_255 : decode cX4_sum 255 = .ok (.getfield 23, 3) := by decide +kernel
theorem dX4_sum_258 : decode cX4_sum 258 = .ok (.iload 8, 2) := by decide +kernel
theorem dX4_sum_260 : decode cX4_sum 260 = .ok (.laload, 1) := by decide +kernel
theorem dX4_sum_261 : decode cX4_sum 261 = .ok (.ladd, 1) := by decide +kernel
theorem dX4_sum_262 : decode cX4_sum 262 = .ok (.goto 26, 3) := by decide +kernel
theorem dX4_sum_265 : decode cX4_sum 265 = .ok (.aload_n 0, 1) := by decide +kernel
theorem dX4_sum_266 : decode cX4_sum 266 = .ok (.getfield 26, 3) := by decide +kernel
theorem dX4_sum_269 : decode cX4_sum 269 = .ok (.iload 5, 2) := by decide +kernel
theorem dX4_sum_271 : decode cX4_sum 271 = .ok (.laload, 1) := by decide +kernel
theorem dX4_sum_272 : decode cX4_sum 272 = .ok (.aload_n 0, 1) := by decide +kernel
theorem dX4_sum_273 : decode cX4_sum 273 = .ok (.getfield 26, 3) := by decide +kernel
theorem dX4_sum_276 : decode cX4_sum 276 = .ok (.iload 7, 2) := by decide +kernel
theorem dX4_sum_278 : decode cX4_sum 278 = .ok (.laload, 1) := by decide +kernel
theorem dX4_sum_279 : decode cX4_sum 279 = .ok (.ladd, 1) := by decide +kernel
theorem dX4_sum_280 : decode cX4_sum 280 = .ok (.aload_n 0, 1) := by decide +kernel
theorem dX4_sum_281 : decode cX4_sum 281 = .ok (.getfield 26, 3) := by decide +kernel
theorem dX4_sum_284 : decode cX4_sum 284 = .ok (.iload 8, 2) := by decide +kernel
theorem dX4_sum_286 : decode cX4_sum 286 = .ok (.laload, 1) := by decide +kernel
theorem dX4_sum_287 : decode cX4_sum 287 = .ok (.ladd, 1) := by decide +kernel
theorem dX4_sum_288 : decode cX4_sum 288 = .ok (.lstore 11, 2) := by decide +kernel
theorem dX4_sum_290 : decode cX4_sum 290 = .ok (.lload_n 2, 1) := by decide +kernel
theorem dX4_sum_291 : decode cX4_sum 291 = .ok (.lload 9, 2) := by decide +kernel
theorem dX4_sum_293 : decode cX4_sum 293 = .ok (.lload 11, 2) := by decide +kernel
theorem dX4_sum_295 : decode cX4_sum 295 = .ok (.lmul, 1) := by decide +kernel
theorem dX4_sum_296 : decode cX4_sum 296 = .ok (.ladd, 1) := by decide +kernel
theorem dX4_sum_297 : decode cX4_sum 297 = .ok (.lstore_n 2, 1) := by decide +kernel
theorem dX4_sum_298 : decode cX4_sum 298 = .ok (.iinc 6 1, 3) := by decide +kernel
theorem dX4_sum_301 : decode cX4_sum 301 = .ok (.goto (-272), 3) := by decide +kernel
theorem dX4_sum_304 : decode cX4_sum 304 = .ok (.iinc 4 1, 3) := by decide +kernel
theorem dX4_sum_307 : decode cX4_sum 307 = .ok (.goto (-302), 3) := by decide +kernel
theorem dX4_sum_310 : decode cX4_sum 310 = .ok (.lload_n 2, 1) := by decide +kernel
theorem dX4_sum_311 : decode cX4_sum 311 = .ok (.lreturn, 1) := by decide +kernel
set_option maxRecDepth 20000 in
theorem ggX4_volume_X4_goes : GoodIn wsX4_volume wsX4_goes := goodIn_r _ [6, 7, 18, 19, 20, 21, 22, 23, 24, 25, 26, 27, 28, 29, 30, 31, 32, 33, 34, 35, 36, 37, 38, 39, 40, 41, 42, 43, 44] (by decide +kernel) (by decide +kernel)
set_option maxRecDepth 20000 in
theorem gX4_volume_X4_goes : GoodIn wsX4_volume (wsV RX4 77 RX4 yX4_goes wsX4_goes) := goodIn_app (goodIn_of _ (by decide +kernel)) ggX4_volume_X4_goes
set_option maxRecDepth 20000 in
theorem ggX4_volume_X4_sum : GoodIn wsX4_volume wsX4_sum := goodIn_r _ [11, 12, 13, 14, 15, 16, 17, 18, 19, 20, 21, 22, 23, 24, 25, 26, 27, 28, 29, 30, 31, 32, 33, 34, 35, 36, 37, 38, 39, 40, 41, 42, 43, 44] (by decide +kernel) (by decide +kernel)
set_option maxRecDepth 20000 in
theorem gX4_volume_X4_sum : GoodIn wsX4_volume (wsV RX4 174 RX4 yX4_sum wsX4_sum) := goodIn_app (goodIn_of _ (by decide +kernel)) ggX4_volume_X4_sum
theorem dX4_volume_0 : decode cX4_volume 0 = .ok (.aload_n 0, 1) := by decide +kernel
theorem dX4_volume_1 : decode cX4_volume 1 = .ok (.aload_n 0, 1) := by decide +kernel
theorem dX4_volume_2 : decode cX4_volume 2 = .ok (.getfield 159, 3) := by decide +kernel
theorem dX4_volume_5 : decode cX4_volume 5 = .ok (.iconst 1, 1) := by decide +kernel
theorem dX4_volume_6 : decode cX4_volume 6 = .ok (.invokevirtual 77, 3) := by decide +kernel
theorem dX4_volume_9 : decode cX4_volume 9 = .ok (.ifCond .eq 11, 3) := by decide +kernel
theorem dX4_volume_12 : decode cX4_volume 12 = .ok (.aload_n 0, 1) := by decide +kernel
theorem dX4_volume_13 : decode cX4_volume 13 = .ok (.iconst (-1), 1) := by decide +kernel
theorem dX4_volume_14 : decode cX4_volume 14 = .ok (.invokevirtual 174, 3) := by decide +kernel
theorem dX4_volume_17 : decode cX4_volume 17 = .ok (.goto 4, 3) := by decide +kernel
theorem dX4_volume_20 : decode cX4_volume 20 = .ok (.lconst 0, 1) := by decide +kernel
theorem dX4_volume_21 : decode cX4_volume 21 = .ok (.lreturn, 1) := by decide +kernel
set_option maxRecDepth 20000 in
theorem ggX4_centre_X4_goes : GoodIn wsX4_centre wsX4_goes := goodIn_r _ [6, 7, 18, 19, 20, 21, 22, 23, 24, 25, 26, 27, 28, 29, 30, 31, 32, 33, 34, 35, 36, 37, 38, 39, 40, 41, 42, 43, 44] (by decide +kernel) (by decide +kernel)
set_option maxRecDepth 20000 in
theorem gX4_centre_X4_goes : GoodIn wsX4_centre (wsV RX4 77 RX4 yX4_goes wsX4_goes) := goodIn_app (goodIn_of _ (by decide +kernel)) ggX4_centre_X4_goes
set_option maxRecDepth 20000 in
theorem ggX4_centre_X4_sum : GoodIn wsX4_centre wsX4_sum := goodIn_r _ [11, 12, 13, 14, 15, 16, 17, 18, 19, 20, 21, 22, 23, 24, 25, 26, 27, 28, 29, 30, 31, 32, 33, 34, 35, 36, 37, 38, 39, 40, 41, 42, 43, 44] (by decide +kernel) (by decide +kernel)
set_option maxRecDepth 20000 in
theorem gX4_centre_X4_sum : GoodIn wsX4_centre (wsV RX4 174 RX4 yX4_sum wsX4_sum) := goodIn_app (goodIn_of _ (by decide +kernel)) ggX4_centre_X4_sum
theorem dX4_centre_0 : decode cX4_centre 0 = .ok (.aload_n 0, 1) := by decide +kernel
theorem dX4_centre_1 : decode cX4_centre 1 = .ok (.aload_n 0, 1) := by decide +kernel
theorem dX4_centre_2 : decode cX4_centre 2 = .ok (.getfield 159, 3) := by decide +kernel
theorem dX4_centre_5 : decode cX4_centre 5 = .ok (.iload_n 1, 1) := by decide +kernel
theorem dX4_centre_6 : decode cX4_centre 6 = .ok (.ifCond .lt 12, 3) := by decide +kernel
theorem dX4_centre_9 : decode cX4_centre 9 = .ok (.iload_n 1, 1) := by decide +kernel
theorem dX4_centre_10 : decode cX4_centre 10 = .ok (.iconst 2, 1) := by decide +kernel
theorem dX4_centre_11 : decode cX4_centre 11 = .ok (.if_icmp .gt 7, 3) := by decide +kernel
theorem dX4_centre_14 : decode cX4_centre 14 = .ok (.iconst 1, 1) := by decide +kernel
theorem dX4_centre_15 : decode cX4_centre 15 = .ok (.goto 4, 3) := by decide +kernel
theorem dX4_centre_18 : decode cX4_centre 18 = .ok (.iconst 0, 1) := by decide +kernel
theorem dX4_centre_19 : decode cX4_centre 19 = .ok (.invokevirtual 77, 3) := by decide +kernel
theorem dX4_centre_22 : decode cX4_centre 22 = .ok (.ifCond .eq 11, 3) := by decide +kernel
theorem dX4_centre_25 : decode cX4_centre 25 = .ok (.aload_n 0, 1) := by decide +kernel
theorem dX4_centre_26 : decode cX4_centre 26 = .ok (.iload_n 1, 1) := by decide +kernel
theorem dX4_centre_27 : decode cX4_centre 27 = .ok (.invokevirtual 174, 3) := by decide +kernel
theorem dX4_centre_30 : decode cX4_centre 30 = .ok (.goto 4, 3) := by decide +kernel
theorem dX4_centre_33 : decode cX4_centre 33 = .ok (.lconst 0, 1) := by decide +kernel
theorem dX4_centre_34 : decode cX4_centre 34 = .ok (.lreturn, 1) := by decide +kernel
set_option maxRecDepth 20000 in
theorem ggX4_middle_X4_goes : GoodIn wsX4_middle wsX4_goes := goodIn_r _ [7, 8, 19, 20, 21, 22, 23, 24, 25, 26, 27, 28, 29, 30, 31, 32, 33, 34, 35, 36, 37, 38, 39, 40, 41, 42, 43, 44, 45] (by decide +kernel) (by decide +kernel)
set_option maxRecDepth 20000 in
theorem gX4_middle_X4_goes : GoodIn wsX4_middle (wsV RX4 77 RX4 yX4_goes wsX4_goes) := goodIn_app (goodIn_of _ (by decide +kernel)) ggX4_middle_X4_goes
set_option maxRecDepth 20000 in
theorem ggX4_middle_X4_sum : GoodIn wsX4_middle wsX4_sum := goodIn_r _ [12, 13, 14, 15, 16, 17, 18, 19, 20, 21, 22, 23, 24, 25, 26, 27, 28, 29, 30, 31, 32, 33, 34, 35, 36, 37, 38, 39, 40, 41, 42, 43, 44, 45] (by decide +kernel) (by decide +kernel)
set_option maxRecDepth 20000 in
theorem gX4_middle_X4_sum : GoodIn wsX4_middle (wsV RX4 174 RX4 yX4_sum wsX4_sum) := goodIn_app (goodIn_of _ (by decide +kernel)) ggX4_middle_X4_sum
theorem dX4_middle_0 : decode cX4_middle 0 = .ok (.aload_n 0, 1) := by decide +kernel
