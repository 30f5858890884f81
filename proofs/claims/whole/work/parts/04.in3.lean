/-! ===== the law's words stand in the tables, 3 ===== -/
set_option maxRecDepth 20000 in
theorem wsL_law_in_r18 : ∀ w ∈ wsL_law0_r18, w ∈ lw_tbl := fun w h => (goodIn_p wsL_law0_r18 [520, 791, 796, 527, 531] (by decide +kernel) (by decide +kernel) w h).1
set_option maxRecDepth 20000 in
theorem wsL_law_in_r19 : ∀ w ∈ wsL_law0_r19, w ∈ lw_tbl := fun w h => (goodIn_p wsL_law0_r19 [537, 541, 800, 548, 552, 804] (by decide +kernel) (by decide +kernel) w h).1
set_option maxRecDepth 20000 in
theorem wsL_law_in_r20 : ∀ w ∈ wsL_law0_r20, w ∈ lw_tbl := fun w h => (goodIn_p wsL_law0_r20 [560, 808, 812, 567] (by decide +kernel) (by decide +kernel) w h).1
set_option maxRecDepth 20000 in
theorem wsL_law_in_r21 : ∀ w ∈ wsL_law0_r21, w ∈ lw_tbl := fun w h => (goodIn_p wsL_law0_r21 [816, 574, 820, 582] (by decide +kernel) (by decide +kernel) w h).1
set_option maxRecDepth 20000 in
theorem wsL_law_in_r22 : ∀ w ∈ wsL_law0_r22, w ∈ lw_tbl := fun w h => (goodIn_p wsL_law0_r22 [825] (by decide +kernel) (by decide +kernel) w h).1
theorem wsL_law_in_u0 : ∀ w ∈ wsX00, w ∈ lw_tbl := by decide +kernel
theorem wsL_law_in_u1 : ∀ w ∈ wsX10, w ∈ lw_tbl := by decide +kernel
theorem wsL_law_in_u2 : ∀ w ∈ wsX20, w ∈ lw_tbl := by decide +kernel
theorem wsL_law_in_u3 : ∀ w ∈ wsX30, w ∈ lw_tbl := by decide +kernel
theorem wsL_law_in_u4 : ∀ w ∈ wsX40, w ∈ lw_tbl := by decide +kernel
set_option maxRecDepth 20000 in
theorem wsL_law_in : ∀ w ∈ wsL_law, w ∈ lw_tbl := by
  intro w h
  rcases List.mem_append.mp h with h | h
  · rcases List.mem_append.mp h with h | h
    · rcases List.mem_append.mp h with h | h
      · have h : w ∈ ((wsL_law0_r1 ++ (wsL_law0_r2 ++ (wsL_law0_r3 ++ (wsL_law0_r4 ++ (wsL_law0_r5 ++ (wsL_law0_r6 ++ (wsL_law0_r7 ++ (wsL_law0_r8 ++ (wsL_law0_r9 ++ (wsL_law0_r10 ++ (wsL_law0_r11 ++ (wsL_law0_r12 ++ (wsL_law0_r13 ++ (wsL_law0_r14 ++ (wsL_law0_r15 ++ (wsL_law0_r16 ++ (wsL_law0_r17 ++ (wsL_law0_r18 ++ (wsL_law0_r19 ++ (wsL_law0_r20 ++ (wsL_law0_r21 ++ wsL_law0_r22))))))))))))))))))))) ++ wsX30 ++ wsX40 ++ wsX20 ++ wsX10 ++ wsX00 ++ ([] : List Cond)) := h
        rcases List.mem_append.mp h with h | h
        · rcases List.mem_append.mp h with h | h
          · rcases List.mem_append.mp h with h | h
            · rcases List.mem_append.mp h with h | h
              · rcases List.mem_append.mp h with h | h
                · rcases List.mem_append.mp h with h | h
                  · rcases List.mem_append.mp h with h | h
                    · exact wsL_law_in_r1 w h
                    rcases List.mem_append.mp h with h | h
                    · exact wsL_law_in_r2 w h
                    rcases List.mem_append.mp h with h | h
                    · exact wsL_law_in_r3 w h
                    rcases List.mem_append.mp h with h | h
                    · exact wsL_law_in_r4 w h
                    rcases List.mem_append.mp h with h | h
                    · exact wsL_law_in_r5 w h
                    rcases List.mem_append.mp h with h | h
                    · exact wsL_law_in_r6 w h
                    rcases List.mem_append.mp h with h | h
                    · exact wsL_law_in_r7 w h
                    rcases List.mem_append.mp h with h | h
                    · exact wsL_law_in_r8 w h
                    rcases List.mem_append.mp h with h | h
                    · exact wsL_law_in_r9 w h
                    rcases List.mem_append.mp h with h | h
                    · exact wsL_law_in_r10 w h
                    rcases List.mem_append.mp h with h | h
                    · exact wsL_law_in_r11 w h
                    rcases List.mem_append.mp h with h | h
                    · exact wsL_law_in_r12 w h
                    rcases List.mem_append.mp h with h | h
                    · exact wsL_law_in_r13 w h
                    rcases List.mem_append.mp h with h | h
                    · exact wsL_law_in_r14 w h
                    rcases List.mem_append.mp h with h | h
                    · exact wsL_law_in_r15 w h
                    rcases List.mem_append.mp h with h | h
                    · exact wsL_law_in_r16 w h
                    rcases List.mem_append.mp h with h | h
                    · exact wsL_law_in_r17 w h
                    rcases List.mem_append.mp h with h | h
                    · exact wsL_law_in_r18 w h
                    rcases List.mem_append.mp h with h | h
                    · exact wsL_law_in_r19 w h
                    rcases List.mem_append.mp h with h | h
                    · exact wsL_law_in_r20 w h
                    rcases List.mem_append.mp h with h | h
                    · exact wsL_law_in_r21 w h
                    exact wsL_law_in_r22 w h
                  · exact wsL_law_in_u3 w h
                · exact wsL_law_in_u4 w h
              · exact wsL_law_in_u2 w h
            · exact wsL_law_in_u1 w h
          · exact wsL_law_in_u0 w h
        · exact absurd h List.not_mem_nil
      · exact (by decide +kernel : ∀ w ∈ (vx_atS RX3 39 "java/lang/IllegalArgumentException" ["java/lang/RuntimeException", "java/lang/Exception"]).filter goodWord, w ∈ lw_tbl) w h
    · exact (by decide +kernel : ∀ w ∈ (vx_atS RX3 49 "java/lang/IllegalStateException" ["java/lang/RuntimeException", "java/lang/Exception"]).filter goodWord, w ∈ lw_tbl) w h
  · exact (by decide +kernel : ∀ w ∈ (vx_atS RX3 157 "java/lang/IndexOutOfBoundsException" ["java/lang/RuntimeException", "java/lang/Exception"]).filter goodWord, w ∈ lw_tbl) w h
