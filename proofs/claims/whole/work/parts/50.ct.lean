/-! ===== the constructors ===== -/
set_option maxHeartbeats 4000000 in
set_option maxRecDepth 100000 in
theorem n0_face (l : Launch) (D : va_G) (cI cJ cF cD : ClassId) (q : Nat) : CnV l D (tyG cI cJ cF cD) yX0_init wsX0_init ({ frames := 1, cells := 1, slots := 24, locals := 12 }) [.ref q] [(q, .inr (0, [.long 0, .long 0, .long 0, .long 0, .int 0, .null, .int 0]))] (fun w => ∃ r, w = [(q, .inr (0, [.long 0, .long 0, .long 0, .long 0, .int 0, .ref r, .int 0])), (r, .inl (cI, 24, .inl (fun _ => 0)))]) 1 24 := by
  refine cnV_of (cc := cX0_init) (maxL := 1) (by decide) rfl rfl (Nat.le_of_ble_eq_true rfl) ?_
  intro X hXl hXd C hAO hnm hret
  have hin0 : ∀ w ∈ wsX00, w ∈ wsX0_init := by decide +kernel
  show Kw X 0 0 [(q, .inr (0, [.long 0, .long 0, .long 0, .long 0, .int 0, .null, .int 0]))] 0 [(0, .ref q)] []
  refine k_aload_n C 0 dX0_init_0 rfl rfl ?_
  refine k_oinit C (by decide +kernel) (by decide +kernel) (List.mem_of_getElem? (i := 3) rfl) dX0_init_1 (Nat.le_of_ble_eq_true rfl) (Nat.le_of_ble_eq_true rfl) ?_
  refine k_aload_n C 0 dX0_init_4 rfl rfl ?_
  refine k_bipush C (v := nI 24) dX0_init_5 rfl ?_
  refine k_newaI C 0 rfl (by decide +kernel) (by decide) (by decide) (by decide) dX0_init_7 (fun r => ?_)
  refine k_putF C (ws' := [(q, .inr (0, [.long 0, .long 0, .long 0, .long 0, .int 0, .ref r, .int 0])), (r, .inl (cI, 24, .inl (fun _ => 0)))]) hin0 tyX0 tyX0_ok nmX0 0 5 rfl rfl (by decide) (by decide +kernel) rfl rfl hnm rfl rfl rfl (Nat.le_of_ble_eq_true rfl) rfl dX0_init_9 ?_
  exact hret _ _ _ _ _ ⟨r, rfl⟩ (by decide) (by decide) dX0_init_12
set_option maxHeartbeats 4000000 in
set_option maxRecDepth 100000 in
theorem n0_pts (l : Launch) (D : va_G) (cI cJ cF cD : ClassId) (q : Nat) : CnV l D (tyG cI cJ cF cD) yX2_init wsX2_init ({ frames := 1, cells := 3, slots := 72, locals := 12 }) [.ref q] [(q, .inr (2, [.null, .null, .null, .int 0]))] (fun w => ∃ x y z, w = [(q, .inr (2, [.ref x, .ref y, .ref z, .int 0])), (x, .inl (cI, 24, .inl (fun _ => 0))), (y, .inl (cI, 24, .inl (fun _ => 0))), (z, .inl (cI, 24, .inl (fun _ => 0)))]) 3 72 := by
  refine cnV_of (cc := cX2_init) (maxL := 1) (by decide) rfl rfl (Nat.le_of_ble_eq_true rfl) ?_
  intro X hXl hXd C hAO hnm hret
  have hin0 : ∀ w ∈ wsX20, w ∈ wsX2_init := by decide +kernel
  show Kw X 0 0 [(q, .inr (2, [.null, .null, .null, .int 0]))] 0 [(0, .ref q)] []
  refine k_aload_n C 0 dX2_init_0 rfl rfl ?_
  refine k_oinit C (by decide +kernel) (by decide +kernel) (List.mem_of_getElem? (i := 3) rfl) dX2_init_1 (Nat.le_of_ble_eq_true rfl) (Nat.le_of_ble_eq_true rfl) ?_
  refine k_aload_n C 0 dX2_init_4 rfl rfl ?_
  refine k_bipush C (v := nI 24) dX2_init_5 rfl ?_
  refine k_newaI C 0 rfl (by decide +kernel) (by decide) (by decide) (by decide) dX2_init_7 (fun x => ?_)
  refine k_putF C (ws' := [(q, .inr (2, [.ref x, .null, .null, .int 0])), (x, .inl (cI, 24, .inl (fun _ => 0)))]) hin0 tyX2 tyX2_ok nmX2 0 0 rfl rfl (by decide) (by decide +kernel) rfl rfl hnm rfl rfl rfl (Nat.le_of_ble_eq_true rfl) rfl dX2_init_9 ?_
  refine k_aload_n C 0 dX2_init_12 rfl rfl ?_
  refine k_bipush C (v := nI 24) dX2_init_13 rfl ?_
  refine k_newaI C 0 rfl (by decide +kernel) (by decide) (by decide) (by decide) dX2_init_15 (fun y => ?_)
  refine k_putF C (ws' := [(q, .inr (2, [.ref x, .ref y, .null, .int 0])), (x, .inl (cI, 24, .inl (fun _ => 0))), (y, .inl (cI, 24, .inl (fun _ => 0)))]) hin0 tyX2 tyX2_ok nmX2 0 1 rfl rfl (by decide) (by decide +kernel) rfl rfl hnm rfl rfl rfl (Nat.le_of_ble_eq_true rfl) rfl dX2_init_17 ?_
  refine k_aload_n C 0 dX2_init_20 rfl rfl ?_
  refine k_bipush C (v := nI 24) dX2_init_21 rfl ?_
  refine k_newaI C 0 rfl (by decide +kernel) (by decide) (by decide) (by decide) dX2_init_23 (fun z => ?_)
  refine k_putF C (ws' := [(q, .inr (2, [.ref x, .ref y, .ref z, .int 0])), (x, .inl (cI, 24, .inl (fun _ => 0))), (y, .inl (cI, 24, .inl (fun _ => 0))), (z, .inl (cI, 24, .inl (fun _ => 0)))]) hin0 tyX2 tyX2_ok nmX2 0 2 rfl rfl (by decide) (by decide +kernel) rfl rfl hnm rfl rfl rfl (Nat.le_of_ble_eq_true rfl) rfl dX2_init_25 ?_
  refine k_aload_n C 0 dX2_init_28 rfl rfl ?_
  refine k_iconst C (v := 0) dX2_init_29 rfl ?_
  refine k_put C (ws' := [(q, .inr (2, [.ref x, .ref y, .ref z, .int 0])), (x, .inl (cI, 24, .inl (fun _ => 0))), (y, .inl (cI, 24, .inl (fun _ => 0))), (z, .inl (cI, 24, .inl (fun _ => 0)))]) hin0 tyX2 tyX2_ok nmX2 0 3 rfl rfl (by decide) (by decide +kernel) rfl rfl rfl rfl (Nat.le_of_ble_eq_true rfl) rfl dX2_init_30 ?_
  exact hret _ _ _ _ _ ⟨x, y, z, rfl⟩ (by decide) (by decide) dX2_init_33
def wM0 (ad : Nat → Nat) (cI cJ : ClassId) : va_W := wM ad cI cJ 0 0 0 0 0 0 0 0 0 0 (fun _ => 0) (fun _ => 0) (fun _ => 0) (fun _ => 0) (fun _ => 0) (fun _ => 0) (fun _ => 0) (fun _ => 0) (fun _ => 0) (fun _ => 0) (fun _ => 0) (fun _ => 0) (fun _ => 0) (fun _ => 0) (fun _ => 0) (fun _ => 0) (fun _ => 0)
def wMn (q : Nat) : va_W := [(q, .inr (4, [.int 0, .int 0, .null, .null, .null, .int 0, .int 0, .int 0, .null, .null, .null, .int 0, .null, .null, .null, .null, .null, .null, .null, .int 0, .null, .null, .null, .long 0, .long 0, .long 0, .null]))]
set_option maxHeartbeats 4000000 in
set_option maxRecDepth 100000 in
theorem n0_model (l : Launch) (D : va_G) (cI cJ cF cD : ClassId) (q : Nat) : CnV l D (tyG cI cJ cF cD) yX4_init wsX4_init ({ frames := 1, cells := 17, slots := 2472, locals := 12 }) [.ref q] (wMn q) (fun w => ∃ ad : Nat → Nat, ad 0 = q ∧ w = wM0 ad cI cJ) 17 2472 := by
  refine cnV_of (cc := cX4_init) (maxL := 1) (by decide) rfl rfl (Nat.le_of_ble_eq_true rfl) ?_
  intro X hXl hXd C hAO hnm hret
  have hin0 : ∀ w ∈ wsX40, w ∈ wsX4_init := by decide +kernel
  show Kw X 0 0 [(q, .inr (4, [.int 0, .int 0, .null, .null, .null, .int 0, .int 0, .int 0, .null, .null, .null, .int 0, .null, .null, .null, .null, .null, .null, .null, .int 0, .null, .null, .null, .long 0, .long 0, .long 0, .null]))] 0 [(0, .ref q)] []
  refine k_aload_n C 0 dX4_init_0 rfl rfl ?_
  refine k_oinit C (by decide +kernel) (by decide +kernel) (List.mem_of_getElem? (i := 3) rfl) dX4_init_1 (Nat.le_of_ble_eq_true rfl) (Nat.le_of_ble_eq_true rfl) ?_
  refine k_aload_n C 0 dX4_init_4 rfl rfl ?_
  refine k_bipush C (v := nI 24) dX4_init_5 rfl ?_
  refine k_newaI C 0 rfl (by decide +kernel) (by decide) (by decide) (by decide) dX4_init_7 (fun a0 => ?_)
  refine k_putF C (ws' := [(q, .inr (4, [.int 0, .int 0, .ref a0, .null, .null, .int 0, .int 0, .int 0, .null, .null, .null, .int 0, .null, .null, .null, .null, .null, .null, .null, .int 0, .null, .null, .null, .long 0, .long 0, .long 0, .null])), (a0, .inl (cI, 24, .inl (fun _ => 0)))]) hin0 tyX4 tyX4_ok nmX4 0 2 rfl rfl (by decide) (by decide +kernel) rfl rfl hnm rfl rfl rfl (Nat.le_of_ble_eq_true rfl) rfl dX4_init_9 ?_
  refine k_aload_n C 0 dX4_init_12 rfl rfl ?_
  refine k_bipush C (v := nI 24) dX4_init_13 rfl ?_
  refine k_newaI C 0 rfl (by decide +kernel) (by decide) (by decide) (by decide) dX4_init_15 (fun a1 => ?_)
  refine k_putF C (ws' := [(q, .inr (4, [.int 0, .int 0, .ref a0, .ref a1, .null, .int 0, .int 0, .int 0, .null, .null, .null, .int 0, .null, .null, .null, .null, .null, .null, .null, .int 0, .null, .null, .null, .long 0, .long 0, .long 0, .null])), (a0, .inl (cI, 24, .inl (fun _ => 0))), (a1, .inl (cI, 24, .inl (fun _ => 0)))]) hin0 tyX4 tyX4_ok nmX4 0 3 rfl rfl (by decide) (by decide +kernel) rfl rfl hnm rfl rfl rfl (Nat.le_of_ble_eq_true rfl) rfl dX4_init_17 ?_
  refine k_aload_n C 0 dX4_init_20 rfl rfl ?_
  refine k_bipush C (v := nI 24) dX4_init_21 rfl ?_
  refine k_newaI C 0 rfl (by decide +kernel) (by decide) (by decide) (by decide) dX4_init_23 (fun a2 => ?_)
  refine k_putF C (ws' := [(q, .inr (4, [.int 0, .int 0, .ref a0, .ref a1, .ref a2, .int 0, .int 0, .int 0, .null, .null, .null, .int 0, .null, .null, .null, .null, .null, .null, .null, .int 0, .null, .null, .null, .long 0, .long 0, .long 0, .null])), (a0, .inl (cI, 24, .inl (fun _ => 0))), (a1, .inl (cI, 24, .inl (fun _ => 0))), (a2, .inl (cI, 24, .inl (fun _ => 0)))]) hin0 tyX4 tyX4_ok nmX4 0 4 rfl rfl (by decide) (by decide +kernel) rfl rfl hnm rfl rfl rfl (Nat.le_of_ble_eq_true rfl) rfl dX4_init_25 ?_
  refine k_aload_n C 0 dX4_init_28 rfl rfl ?_
  refine k_bipush C (v := nI 24) dX4_init_29 rfl ?_
  refine k_newaJ C 1 rfl (by decide +kernel) (by decide) (by decide) (by decide) dX4_init_31 (fun a3 => ?_)
  refine k_putF C (ws' := [(q, .inr (4, [.int 0, .int 0, .ref a0, .ref a1, .ref a2, .int 0, .int 0, .int 0, .ref a3, .null, .null, .int 0, .null, .null, .null, .null, .null, .null, .null, .int 0, .null, .null, .null, .long 0, .long 0, .long 0, .null])), (a0, .inl (cI, 24, .inl (fun _ => 0))), (a1, .inl (cI, 24, .inl (fun _ => 0))), (a2, .inl (cI, 24, .inl (fun _ => 0))), (a3, .inl (cJ, 24, .inr (.inl (fun _ => 0))))]) hin0 tyX4 tyX4_ok nmX4 0 8 rfl rfl (by decide) (by decide +kernel) rfl rfl hnm rfl rfl rfl (Nat.le_of_ble_eq_true rfl) rfl dX4_init_33 ?_
  refine k_aload_n C 0 dX4_init_36 rfl rfl ?_
  refine k_bipush C (v := nI 24) dX4_init_37 rfl ?_
  refine k_newaJ C 1 rfl (by decide +kernel) (by decide) (by decide) (by decide) dX4_init_39 (fun a4 => ?_)
  refine k_putF C (ws' := [(q, .inr (4, [.int 0, .int 0, .ref a0, .ref a1, .ref a2, .int 0, .int 0, .int 0, .ref a3, .ref a4, .null, .int 0, .null, .null, .null, .null, .null, .null, .null, .int 0, .null, .null, .null, .long 0, .long 0, .long 0, .null])), (a0, .inl (cI, 24, .inl (fun _ => 0))), (a1, .inl (cI, 24, .inl (fun _ => 0))), (a2, .inl (cI, 24, .inl (fun _ => 0))), (a3, .inl (cJ, 24, .inr (.inl (fun _ => 0)))), (a4, .inl (cJ, 24, .inr (.inl (fun _ => 0))))]) hin0 tyX4 tyX4_ok nmX4 0 9 rfl rfl (by decide) (by decide +kernel) rfl rfl hnm rfl rfl rfl (Nat.le_of_ble_eq_true rfl) rfl dX4_init_41 ?_
  refine k_aload_n C 0 dX4_init_44 rfl rfl ?_
  refine k_bipush C (v := nI 24) dX4_init_45 rfl ?_
  refine k_newaJ C 1 rfl (by decide +kernel) (by decide) (by decide) (by decide) dX4_init_47 (fun a5 => ?_)
  refine k_putF C (ws' := [(q, .inr (4, [.int 0, .int 0, .ref a0, .ref a1, .ref a2, .int 0, .int 0, .int 0, .ref a3, .ref a4, .ref a5, .int 0, .null, .null, .null, .null, .null, .null, .null, .int 0, .null, .null, .null, .long 0, .long 0, .long 0, .null])), (a0, .inl (cI, 24, .inl (fun _ => 0))), (a1, .inl (cI, 24, .inl (fun _ => 0))), (a2, .inl (cI, 24, .inl (fun _ => 0))), (a3, .inl (cJ, 24, .inr (.inl (fun _ => 0)))), (a4, .inl (cJ, 24, .inr (.inl (fun _ => 0)))), (a5, .inl (cJ, 24, .inr (.inl (fun _ => 0))))]) hin0 tyX4 tyX4_ok nmX4 0 10 rfl rfl (by decide) (by decide +kernel) rfl rfl hnm rfl rfl rfl (Nat.le_of_ble_eq_true rfl) rfl dX4_init_49 ?_
  refine k_aload_n C 0 dX4_init_52 rfl rfl ?_
  refine k_bipush C (v := nI 64) dX4_init_53 rfl ?_
  refine k_newaJ C 1 rfl (by decide +kernel) (by decide) (by decide) (by decide) dX4_init_55 (fun a6 => ?_)
  refine k_putF C (ws' := [(q, .inr (4, [.int 0, .int 0, .ref a0, .ref a1, .ref a2, .int 0, .int 0, .int 0, .ref a3, .ref a4, .ref a5, .int 0, .ref a6, .null, .null, .null, .null, .null, .null, .int 0, .null, .null, .null, .long 0, .long 0, .long 0, .null])), (a0, .inl (cI, 24, .inl (fun _ => 0))), (a1, .inl (cI, 24, .inl (fun _ => 0))), (a2, .inl (cI, 24, .inl (fun _ => 0))), (a3, .inl (cJ, 24, .inr (.inl (fun _ => 0)))), (a4, .inl (cJ, 24, .inr (.inl (fun _ => 0)))), (a5, .inl (cJ, 24, .inr (.inl (fun _ => 0)))), (a6, .inl (cJ, 64, .inr (.inl (fun _ => 0))))]) hin0 tyX4 tyX4_ok nmX4 0 12 rfl rfl (by decide) (by decide +kernel) rfl rfl hnm rfl rfl rfl (Nat.le_of_ble_eq_true rfl) rfl dX4_init_57 ?_
  refine k_aload_n C 0 dX4_init_60 rfl rfl ?_
  refine k_bipush C (v := nI 64) dX4_init_61 rfl ?_
  refine k_newaJ C 1 rfl (by decide +kernel) (by decide) (by decide) (by decide) dX4_init_63 (fun a7 => ?_)
  refine k_putF C (ws' := [(q, .inr (4, [.int 0, .int 0, .ref a0, .ref a1, .ref a2, .int 0, .int 0, .int 0, .ref a3, .ref a4, .ref a5, .int 0, .ref a6, .ref a7, .null, .null, .null, .null, .null, .int 0, .null, .null, .null, .long 0, .long 0, .long 0, .null])), (a0, .inl (cI, 24, .inl (fun _ => 0))), (a1, .inl (cI, 24, .inl (fun _ => 0))), (a2, .inl (cI, 24, .inl (fun _ => 0))), (a3, .inl (cJ, 24, .inr (.inl (fun _ => 0)))), (a4, .inl (cJ, 24, .inr (.inl (fun _ => 0)))), (a5, .inl (cJ, 24, .inr (.inl (fun _ => 0)))), (a6, .inl (cJ, 64, .inr (.inl (fun _ => 0)))), (a7, .inl (cJ, 64, .inr (.inl (fun _ => 0))))]) hin0 tyX4 tyX4_ok nmX4 0 13 rfl rfl (by decide) (by decide +kernel) rfl rfl hnm rfl rfl rfl (Nat.le_of_ble_eq_true rfl) rfl dX4_init_65 ?_
  refine k_aload_n C 0 dX4_init_68 rfl rfl ?_
  refine k_bipush C (v := nI 64) dX4_init_69 rfl ?_
  refine k_newaJ C 1 rfl (by decide +kernel) (by decide) (by decide) (by decide) dX4_init_71 (fun a8 => ?_)
  refine k_putF C (ws' := [(q, .inr (4, [.int 0, .int 0, .ref a0, .ref a1, .ref a2, .int 0, .int 0, .int 0, .ref a3, .ref a4, .ref a5, .int 0, .ref a6, .ref a7, .ref a8, .null, .null, .null, .null, .int 0, .null, .null, .null, .long 0, .long 0, .long 0, .null])), (a0, .inl (cI, 24, .inl (fun _ => 0))), (a1, .inl (cI, 24, .inl (fun _ => 0))), (a2, .inl (cI, 24, .inl (fun _ => 0))), (a3, .inl (cJ, 24, .inr (.inl (fun _ => 0)))), (a4, .inl (cJ, 24, .inr (.inl (fun _ => 0)))), (a5, .inl (cJ, 24, .inr (.inl (fun _ => 0)))), (a6, .inl (cJ, 64, .inr (.inl (fun _ => 0)))), (a7, .inl (cJ, 64, .inr (.inl (fun _ => 0)))), (a8, .inl (cJ, 64, .inr (.inl (fun _ => 0))))]) hin0 tyX4 tyX4_ok nmX4 0 14 rfl rfl (by decide) (by decide +kernel) rfl rfl hnm rfl rfl rfl (Nat.le_of_ble_eq_true rfl) rfl dX4_init_73 ?_
  refine k_aload_n C 0 dX4_init_76 rfl rfl ?_
  refine k_bipush C (v := nI 64) dX4_init_77 rfl ?_
  refine k_newaJ C 1 rfl (by decide +kernel) (by decide) (by decide) (by decide) dX4_init_79 (fun a9 => ?_)
  refine k_putF C (ws' := [(q, .inr (4, [.int 0, .int 0, .ref a0, .ref a1, .ref a2, .int 0, .int 0, .int 0, .ref a3, .ref a4, .ref a5, .int 0, .ref a6, .ref a7, .ref a8, .ref a9, .null, .null, .null, .int 0, .null, .null, .null, .long 0, .long 0, .long 0, .null])), (a0, .inl (cI, 24, .inl (fun _ => 0))), (a1, .inl (cI, 24, .inl (fun _ => 0))), (a2, .inl (cI, 24, .inl (fun _ => 0))), (a3, .inl (cJ, 24, .inr (.inl (fun _ => 0)))), (a4, .inl (cJ, 24, .inr (.inl (fun _ => 0)))), (a5, .inl (cJ, 24, .inr (.inl (fun _ => 0)))), (a6, .inl (cJ, 64, .inr (.inl (fun _ => 0)))), (a7, .inl (cJ, 64, .inr (.inl (fun _ => 0)))), (a8, .inl (cJ, 64, .inr (.inl (fun _ => 0)))), (a9, .inl (cJ, 64, .inr (.inl (fun _ => 0))))]) hin0 tyX4 tyX4_ok nmX4 0 15 rfl rfl (by decide) (by decide +kernel) rfl rfl hnm rfl rfl rfl (Nat.le_of_ble_eq_true rfl) rfl dX4_init_81 ?_
  refine k_aload_n C 0 dX4_init_84 rfl rfl ?_
  refine k_bipush C (v := nI 64) dX4_init_85 rfl ?_
  refine k_newaI C 0 rfl (by decide +kernel) (by decide) (by decide) (by decide) dX4_init_87 (fun a10 => ?_)
  refine k_putF C (ws' := [(q, .inr (4, [.int 0, .int 0, .ref a0, .ref a1, .ref a2, .int 0, .int 0, .int 0, .ref a3, .ref a4, .ref a5, .int 0, .ref a6, .ref a7, .ref a8, .ref a9, .ref a10, .null, .null, .int 0, .null, .null, .null, .long 0, .long 0, .long 0, .null])), (a0, .inl (cI, 24, .inl (fun _ => 0))), (a1, .inl (cI, 24, .inl (fun _ => 0))), (a2, .inl (cI, 24, .inl (fun _ => 0))), (a3, .inl (cJ, 24, .inr (.inl (fun _ => 0)))), (a4, .inl (cJ, 24, .inr (.inl (fun _ => 0)))), (a5, .inl (cJ, 24, .inr (.inl (fun _ => 0)))), (a6, .inl (cJ, 64, .inr (.inl (fun _ => 0)))), (a7, .inl (cJ, 64, .inr (.inl (fun _ => 0)))), (a8, .inl (cJ, 64, .inr (.inl (fun _ => 0)))), (a9, .inl (cJ, 64, .inr (.inl (fun _ => 0)))), (a10, .inl (cI, 64, .inl (fun _ => 0)))]) hin0 tyX4 tyX4_ok nmX4 0 16 rfl rfl (by decide) (by decide +kernel) rfl rfl hnm rfl rfl rfl (Nat.le_of_ble_eq_true rfl) rfl dX4_init_89 ?_
  refine k_aload_n C 0 dX4_init_92 rfl rfl ?_
  refine k_sipush C (v := nI 1536) dX4_init_93 rfl ?_
  refine k_newaI C 0 rfl (by decide +kernel) (by decide) (by decide) (by decide) dX4_init_96 (fun a11 => ?_)
  refine k_putF C (ws' := [(q, .inr (4, [.int 0, .int 0, .ref a0, .ref a1, .ref a2, .int 0, .int 0, .int 0, .ref a3, .ref a4, .ref a5, .int 0, .ref a6, .ref a7, .ref a8, .ref a9, .ref a10, .ref a11, .null, .int 0, .null, .null, .null, .long 0, .long 0, .long 0, .null])), (a0, .inl (cI, 24, .inl (fun _ => 0))), (a1, .inl (cI, 24, .inl (fun _ => 0))), (a2, .inl (cI, 24, .inl (fun _ => 0))), (a3, .inl (cJ, 24, .inr (.inl (fun _ => 0)))), (a4, .inl (cJ, 24, .inr (.inl (fun _ => 0)))), (a5, .inl (cJ, 24, .inr (.inl (fun _ => 0)))), (a6, .inl (cJ, 64, .inr (.inl (fun _ => 0)))), (a7, .inl (cJ, 64, .inr (.inl (fun _ => 0)))), (a8, .inl (cJ, 64, .inr (.inl (fun _ => 0)))), (a9, .inl (cJ, 64, .inr (.inl (fun _ => 0)))), (a10, .inl (cI, 64, .inl (fun _ => 0))), (a11, .inl (cI, 1536, .inl (fun _ => 0)))]) hin0 tyX4 tyX4_ok nmX4 0 17 rfl rfl (by decide) (by decide +kernel) rfl rfl hnm rfl rfl rfl (Nat.le_of_ble_eq_true rfl) rfl dX4_init_98 ?_
  refine k_aload_n C 0 dX4_init_101 rfl rfl ?_
  refine k_bipush C (v := nI 64) dX4_init_102 rfl ?_
  refine k_newaI C 0 rfl (by decide +kernel) (by decide) (by decide) (by decide) dX4_init_104 (fun a12 => ?_)
  refine k_putF C (ws' := [(q, .inr (4, [.int 0, .int 0, .ref a0, .ref a1, .ref a2, .int 0, .int 0, .int 0, .ref a3, .ref a4, .ref a5, .int 0, .ref a6, .ref a7, .ref a8, .ref a9, .ref a10, .ref a11, .ref a12, .int 0, .null, .null, .null, .long 0, .long 0, .long 0, .null])), (a0, .inl (cI, 24, .inl (fun _ => 0))), (a1, .inl (cI, 24, .inl (fun _ => 0))), (a2, .inl (cI, 24, .inl (fun _ => 0))), (a3, .inl (cJ, 24, .inr (.inl (fun _ => 0)))), (a4, .inl (cJ, 24, .inr (.inl (fun _ => 0)))), (a5, .inl (cJ, 24, .inr (.inl (fun _ => 0)))), (a6, .inl (cJ, 64, .inr (.inl (fun _ => 0)))), (a7, .inl (cJ, 64, .inr (.inl (fun _ => 0)))), (a8, .inl (cJ, 64, .inr (.inl (fun _ => 0)))), (a9, .inl (cJ, 64, .inr (.inl (fun _ => 0)))), (a10, .inl (cI, 64, .inl (fun _ => 0))), (a11, .inl (cI, 1536, .inl (fun _ => 0))), (a12, .inl (cI, 64, .inl (fun _ => 0)))]) hin0 tyX4 tyX4_ok nmX4 0 18 rfl rfl (by decide) (by decide +kernel) rfl rfl hnm rfl rfl rfl (Nat.le_of_ble_eq_true rfl) rfl dX4_init_106 ?_
  refine k_aload_n C 0 dX4_init_109 rfl rfl ?_
  refine k_sipush C (v := nI 128) dX4_init_110 rfl ?_
  refine k_newaI C 0 rfl (by decide +kernel) (by decide) (by decide) (by decide) dX4_init_113 (fun a13 => ?_)
  refine k_putF C (ws' := [(q, .inr (4, [.int 0, .int 0, .ref a0, .ref a1, .ref a2, .int 0, .int 0, .int 0, .ref a3, .ref a4, .ref a5, .int 0, .ref a6, .ref a7, .ref a8, .ref a9, .ref a10, .ref a11, .ref a12, .int 0, .ref a13, .null, .null, .long 0, .long 0, .long 0, .null])), (a0, .inl (cI, 24, .inl (fun _ => 0))), (a1, .inl (cI, 24, .inl (fun _ => 0))), (a2, .inl (cI, 24, .inl (fun _ => 0))), (a3, .inl (cJ, 24, .inr (.inl (fun _ => 0)))), (a4, .inl (cJ, 24, .inr (.inl (fun _ => 0)))), (a5, .inl (cJ, 24, .inr (.inl (fun _ => 0)))), (a6, .inl (cJ, 64, .inr (.inl (fun _ => 0)))), (a7, .inl (cJ, 64, .inr (.inl (fun _ => 0)))), (a8, .inl (cJ, 64, .inr (.inl (fun _ => 0)))), (a9, .inl (cJ, 64, .inr (.inl (fun _ => 0)))), (a10, .inl (cI, 64, .inl (fun _ => 0))), (a11, .inl (cI, 1536, .inl (fun _ => 0))), (a12, .inl (cI, 64, .inl (fun _ => 0))), (a13, .inl (cI, 128, .inl (fun _ => 0)))]) hin0 tyX4 tyX4_ok nmX4 0 20 rfl rfl (by decide) (by decide +kernel) rfl rfl hnm rfl rfl rfl (Nat.le_of_ble_eq_true rfl) rfl dX4_init_115 ?_
  refine k_aload_n C 0 dX4_init_118 rfl rfl ?_
  refine k_sipush C (v := nI 128) dX4_init_119 rfl ?_
  refine k_newaI C 0 rfl (by decide +kernel) (by decide) (by decide) (by decide) dX4_init_122 (fun a14 => ?_)
  refine k_putF C (ws' := [(q, .inr (4, [.int 0, .int 0, .ref a0, .ref a1, .ref a2, .int 0, .int 0, .int 0, .ref a3, .ref a4, .ref a5, .int 0, .ref a6, .ref a7, .ref a8, .ref a9, .ref a10, .ref a11, .ref a12, .int 0, .ref a13, .ref a14, .null, .long 0, .long 0, .long 0, .null])), (a0, .inl (cI, 24, .inl (fun _ => 0))), (a1, .inl (cI, 24, .inl (fun _ => 0))), (a2, .inl (cI, 24, .inl (fun _ => 0))), (a3, .inl (cJ, 24, .inr (.inl (fun _ => 0)))), (a4, .inl (cJ, 24, .inr (.inl (fun _ => 0)))), (a5, .inl (cJ, 24, .inr (.inl (fun _ => 0)))), (a6, .inl (cJ, 64, .inr (.inl (fun _ => 0)))), (a7, .inl (cJ, 64, .inr (.inl (fun _ => 0)))), (a8, .inl (cJ, 64, .inr (.inl (fun _ => 0)))), (a9, .inl (cJ, 64, .inr (.inl (fun _ => 0)))), (a10, .inl (cI, 64, .inl (fun _ => 0))), (a11, .inl (cI, 1536, .inl (fun _ => 0))), (a12, .inl (cI, 64, .inl (fun _ => 0))), (a13, .inl (cI, 128, .inl (fun _ => 0))), (a14, .inl (cI, 128, .inl (fun _ => 0)))]) hin0 tyX4 tyX4_ok nmX4 0 21 rfl rfl (by decide) (by decide +kernel) rfl rfl hnm rfl rfl rfl (Nat.le_of_ble_eq_true rfl) rfl dX4_init_124 ?_
  refine k_aload_n C 0 dX4_init_127 rfl rfl ?_
  refine k_sipush C (v := nI 128) dX4_init_128 rfl ?_
  refine k_newaI C 0 rfl (by decide +kernel) (by decide) (by decide) (by decide) dX4_init_131 (fun a15 => ?_)
  refine k_putF C (ws' := [(q, .inr (4, [.int 0, .int 0, .ref a0, .ref a1, .ref a2, .int 0, .int 0, .int 0, .ref a3, .ref a4, .ref a5, .int 0, .ref a6, .ref a7, .ref a8, .ref a9, .ref a10, .ref a11, .ref a12, .int 0, .ref a13, .ref a14, .ref a15, .long 0, .long 0, .long 0, .null])), (a0, .inl (cI, 24, .inl (fun _ => 0))), (a1, .inl (cI, 24, .inl (fun _ => 0))), (a2, .inl (cI, 24, .inl (fun _ => 0))), (a3, .inl (cJ, 24, .inr (.inl (fun _ => 0)))), (a4, .inl (cJ, 24, .inr (.inl (fun _ => 0)))), (a5, .inl (cJ, 24, .inr (.inl (fun _ => 0)))), (a6, .inl (cJ, 64, .inr (.inl (fun _ => 0)))), (a7, .inl (cJ, 64, .inr (.inl (fun _ => 0)))), (a8, .inl (cJ, 64, .inr (.inl (fun _ => 0)))), (a9, .inl (cJ, 64, .inr (.inl (fun _ => 0)))), (a10, .inl (cI, 64, .inl (fun _ => 0))), (a11, .inl (cI, 1536, .inl (fun _ => 0))), (a12, .inl (cI, 64, .inl (fun _ => 0))), (a13, .inl (cI, 128, .inl (fun _ => 0))), (a14, .inl (cI, 128, .inl (fun _ => 0))), (a15, .inl (cI, 128, .inl (fun _ => 0)))]) hin0 tyX4 tyX4_ok nmX4 0 22 rfl rfl (by decide) (by decide +kernel) rfl rfl hnm rfl rfl rfl (Nat.le_of_ble_eq_true rfl) rfl dX4_init_133 ?_
  refine k_aload_n C 0 dX4_init_136 rfl rfl ?_
  refine k_bipush C (v := nI 24) dX4_init_137 rfl ?_
  refine k_newaI C 0 rfl (by decide +kernel) (by decide) (by decide) (by decide) dX4_init_139 (fun a16 => ?_)
  refine k_putF C (ws' := [(q, .inr (4, [.int 0, .int 0, .ref a0, .ref a1, .ref a2, .int 0, .int 0, .int 0, .ref a3, .ref a4, .ref a5, .int 0, .ref a6, .ref a7, .ref a8, .ref a9, .ref a10, .ref a11, .ref a12, .int 0, .ref a13, .ref a14, .ref a15, .long 0, .long 0, .long 0, .ref a16])), (a0, .inl (cI, 24, .inl (fun _ => 0))), (a1, .inl (cI, 24, .inl (fun _ => 0))), (a2, .inl (cI, 24, .inl (fun _ => 0))), (a3, .inl (cJ, 24, .inr (.inl (fun _ => 0)))), (a4, .inl (cJ, 24, .inr (.inl (fun _ => 0)))), (a5, .inl (cJ, 24, .inr (.inl (fun _ => 0)))), (a6, .inl (cJ, 64, .inr (.inl (fun _ => 0)))), (a7, .inl (cJ, 64, .inr (.inl (fun _ => 0)))), (a8, .inl (cJ, 64, .inr (.inl (fun _ => 0)))), (a9, .inl (cJ, 64, .inr (.inl (fun _ => 0)))), (a10, .inl (cI, 64, .inl (fun _ => 0))), (a11, .inl (cI, 1536, .inl (fun _ => 0))), (a12, .inl (cI, 64, .inl (fun _ => 0))), (a13, .inl (cI, 128, .inl (fun _ => 0))), (a14, .inl (cI, 128, .inl (fun _ => 0))), (a15, .inl (cI, 128, .inl (fun _ => 0))), (a16, .inl (cI, 24, .inl (fun _ => 0)))]) hin0 tyX4 tyX4_ok nmX4 0 26 rfl rfl (by decide) (by decide +kernel) rfl rfl hnm rfl rfl rfl (Nat.le_of_ble_eq_true rfl) rfl dX4_init_141 ?_
  exact hret _ _ _ _ _ ⟨(fun i => match i with | 0 => q | 2 => a0 | 3 => a1 | 4 => a2 | 8 => a3 | 9 => a4 | 10 => a5 | 12 => a6 | 13 => a7 | 14 => a8 | 15 => a9 | 16 => a10 | 17 => a11 | 18 => a12 | 20 => a13 | 21 => a14 | 22 => a15 | 26 => a16 | _ => 0), rfl, rfl⟩ (by decide) (by decide) dX4_init_144
def hOo (fa ra : Nat → Nat) : Nat → Nat × va_E := wBo fa ra (fun _ => 0) (fun _ => 0) (fun _ => 0) (fun _ => 0) (fun _ => 0) (fun _ => 0)
def hRr (ra : Nat → Nat) (cI : ClassId) : Nat → Nat × va_E := wBr ra cI (fun _ _ => 0)
def hPl (fa ra : Nat → Nat) (cI : ClassId) (J : Nat) : va_W := (List.range J).map (hOo fa ra) ++ ((List.range J).map (hRr ra cI) ++ [])
theorem hPl_up (fa ra : Nat → Nat) (cI : ClassId) (J q r : Nat) : (hPl fa ra cI J ++ ([(q, .inr (0, [.long 0, .long 0, .long 0, .long 0, .int 0, .ref r, .int 0])), (r, .inl (cI, 24, .inl (fun _ => 0)))] : va_W)).Perm (hPl (updN fa J q) (updN ra J r) cI (J + 1)) := by
  have e1 : (List.range J).map (hOo (updN fa J q) (updN ra J r)) = (List.range J).map (hOo fa ra) := by
    apply List.map_congr_left
    intro i hi
    have : i ≠ J := by have := List.mem_range.mp hi; omega
    simp [hOo, wBo, updN, this]
  have e2 : (List.range J).map (hRr (updN ra J r) cI) = (List.range J).map (hRr ra cI) := by
    apply List.map_congr_left
    intro i hi
    have : i ≠ J := by have := List.mem_range.mp hi; omega
    simp [hRr, wBr, updN, this]
  have e3 : hOo (updN fa J q) (updN ra J r) J = (q, .inr (0, [.long 0, .long 0, .long 0, .long 0, .int 0, .ref r, .int 0])) := by
    simp only [hOo, wBo, updN, if_true]
    rfl
  have e4 : hRr (updN ra J r) cI J = (r, .inl (cI, 24, .inl (fun _ => 0))) := by
    simp only [hRr, wBr, updN, if_true]
    rfl
  unfold hPl
  rw [List.range_succ, List.map_append, List.map_append, e1, e2, List.map_cons, List.map_nil, List.map_cons, List.map_nil, e3, e4]
  simp only [List.append_nil]
  generalize (List.range J).map (hOo fa ra) = O
  generalize (List.range J).map (hRr ra cI) = R
  rw [List.append_assoc, List.append_assoc]
  refine List.Perm.append_left O ?_
  rw [show [(q, (.inr (0, [.long 0, .long 0, .long 0, .long 0, .int 0, .ref r, .int 0]) : va_E)), (r, .inl (cI, 24, .inl (fun _ => 0)))] = [(q, .inr (0, [.long 0, .long 0, .long 0, .long 0, .int 0, .ref r, .int 0]))] ++ [(r, .inl (cI, 24, .inl (fun _ => 0)))] from rfl, ← List.append_assoc, ← List.append_assoc]
  exact List.Perm.append_right _ List.perm_append_comm
theorem hPl_up2 (A : va_W) (fa ra : Nat → Nat) (cI : ClassId) (J q r : Nat) : ((A ++ hPl fa ra cI J) ++ ([(q, .inr (0, [.long 0, .long 0, .long 0, .long 0, .int 0, .ref r, .int 0])), (r, .inl (cI, 24, .inl (fun _ => 0)))] : va_W)).Perm (A ++ hPl (updN fa J q) (updN ra J r) cI (J + 1)) := by
  rw [List.append_assoc]
  exact List.Perm.append_left A (hPl_up fa ra cI J q r)
def wHf (ba fa : Nat → Nat) (cI cJ cF : ClassId) : va_W := [(ba 5, .inr (1, [.ref (ba 6), .ref (ba 10), .ref (fa 44), .int 0, .int 0, .ref (ba 11), .ref (ba 12), .ref (ba 13), .int 0, .long 0, .ref (ba 14)])), (ba 6, .inr (2, [.ref (ba 7), .ref (ba 8), .ref (ba 9), .int 0])), (ba 7, .inl (cI, 24, .inl (fun _ => 0))), (ba 8, .inl (cI, 24, .inl (fun _ => 0))), (ba 9, .inl (cI, 24, .inl (fun _ => 0))), (ba 10, .inl (cF, 44, .inr (.inr (.inr (.inr (fun j => some (fa j))))))), (ba 11, .inl (cI, 576, .inl (fun _ => 0))), (ba 12, .inl (cI, 66, .inl (fun _ => 0))), (ba 13, .inl (cI, 66, .inl (fun _ => 0))), (ba 14, .inl (cJ, 3, .inr (.inl (fun _ => 0))))]
def hFa (fa : Nat → Nat) (J : Nat) : Nat → Option Nat := fun j => if j < J then some (fa j) else none
theorem hFa_up (fa : Nat → Nat) (J q : Nat) : va_up (hFa fa J) J (some q) = hFa (updN fa J q) (J + 1) := by
  funext j
  simp only [va_up, hFa, updN]
  by_cases h : j = J
  · subst h; simp
  · rw [if_neg h]
    by_cases h2 : j < J
    · rw [if_pos h2, if_pos (by omega), if_neg h]
    · rw [if_neg h2, if_neg (by omega)]
theorem h_perm1 {A B : va_W} {x : Nat × va_E} : ((A ++ B) ++ [x]).Perm ((A ++ [x]) ++ B) := by
  rw [List.append_assoc, List.append_assoc]
  exact List.Perm.append_left A List.perm_append_comm
set_option maxHeartbeats 4000000 in
set_option maxRecDepth 100000 in
theorem n0_hull (l : Launch) (D : va_G) (cI cJ cF cD : ClassId) (h : Nat) : CnV l D (tyG cI cJ cF cD) yX1_init wsX1_init ({ frames := 2, cells := 99, slots := 2226, locals := 32 }) [.ref h] [(h, .inr (1, [.null, .null, .null, .int 0, .int 0, .null, .null, .null, .int 0, .long 0, .null]))] (fun w => ∃ ba fa ra : Nat → Nat, ba 5 = h ∧ w = wHf ba fa cI cJ cF ++ hPl fa ra cI 45) 99 2226 := by
  refine cnV_of (cc := cX1_init) (maxL := 2) (by decide) rfl rfl (Nat.le_of_ble_eq_true rfl) ?_
  intro X hXl hXd C hAO hnm hret
  have hin0 : ∀ w ∈ wsX00, w ∈ wsX1_init := by decide +kernel
  have hin1 : ∀ w ∈ wsX10, w ∈ wsX1_init := by decide +kernel
  have hin2 : ∀ w ∈ wsX20, w ∈ wsX1_init := by decide +kernel
  have hfs : ∀ j, j < 7 → defaultValue (tyX0 j) = vp_V [.long 0, .long 0, .long 0, .long 0, .int 0, .null, .int 0] j := fun j hj => match j, hj with | 0, _ => rfl | 1, _ => rfl | 2, _ => rfl | 3, _ => rfl | 4, _ => rfl | 5, _ => rfl | 6, _ => rfl
  have hcl0 : Cond.classLink RX1 18 RX0 ∈ wsX1_init := by decide +kernel
  have hii0 : Cond.instantiable RX0 7 ∈ wsX1_init := by decide +kernel
  have hit0 : Cond.initialized RX0 ∈ wsX1_init := by decide +kernel
  have him0 : Cond.instanceMethod yX0_init ∈ wsX1_init := by decide +kernel
  have hnl0 : Cond.methodLinkNest RX1 24 yX0_init "HullBuilder" ∈ kNW := by decide +kernel
  have hlf : Cond.fieldLink RX1 20 "HullBuilder$Hull" "faces" "[LHullBuilder$Face;" ∈ wsX1_init := by decide +kernel
  show Kw X 0 0 [(h, .inr (1, [.null, .null, .null, .int 0, .int 0, .null, .null, .null, .int 0, .long 0, .null]))] 0 [(0, .ref h)] []
  refine k_aload_n C 0 dX1_init_0 rfl rfl ?_
  refine k_oinit C (by decide +kernel) (by decide +kernel) (List.mem_of_getElem? (i := 3) rfl) dX1_init_1 (Nat.le_of_ble_eq_true rfl) (Nat.le_of_ble_eq_true rfl) ?_
  refine k_aload_n C 0 dX1_init_4 rfl rfl ?_
  refine k_new C (ci := 2) (N := 4) (T := TX2) (fs := [.null, .null, .null, .int 0]) hin2 tyX2 tyX2_ok (by decide +kernel) (by decide +kernel) (by decide +kernel) rfl (fun j hj => match j, hj with | 0, _ => rfl | 1, _ => rfl | 2, _ => rfl | 3, _ => rfl) (by decide) (by decide) dX1_init_5 (fun a1 => ?_)
  refine k_dup C dX1_init_8 rfl ?_
  refine k_callIN C hAO (cnV_frR (n0_pts _ _ cI cJ cF cD a1)) ggX1_init_X2_init rfl rfl rfl rfl (by decide +kernel : Cond.methodLinkNest RX1 11 yX2_init "HullBuilder" ∈ kNW) (by decide +kernel) (by decide +kernel) (by decide +kernel) ⟨Nat.le_of_ble_eq_true rfl, Nat.le_of_ble_eq_true rfl⟩ (Nat.le_of_ble_eq_true rfl) dX1_init_9 (by decide) (by decide) ?_
  rintro _ ⟨_, ⟨x, y, z, rfl⟩, rfl⟩
  refine k_putF C (ws' := [(h, .inr (1, [.ref a1, .null, .null, .int 0, .int 0, .null, .null, .null, .int 0, .long 0, .null])), (a1, .inr (2, [.ref x, .ref y, .ref z, .int 0])), (x, .inl (cI, 24, .inl (fun _ => 0))), (y, .inl (cI, 24, .inl (fun _ => 0))), (z, .inl (cI, 24, .inl (fun _ => 0)))]) hin1 tyX1 tyX1_ok nmX1 0 0 rfl rfl (by decide) (by decide +kernel) rfl rfl hnm rfl rfl rfl (Nat.le_of_ble_eq_true rfl) rfl dX1_init_12 ?_
  refine k_aload_n C 0 dX1_init_15 rfl rfl ?_
  refine k_bipush C (v := nI 44) dX1_init_16 rfl ?_
  refine k_newaF C hAO 2 rfl hcl0 (by decide) (by decide) (by decide) dX1_init_18 (fun fc => ?_)
  refine k_putF C (ws' := [(h, .inr (1, [.ref a1, .ref fc, .null, .int 0, .int 0, .null, .null, .null, .int 0, .long 0, .null])), (a1, .inr (2, [.ref x, .ref y, .ref z, .int 0])), (x, .inl (cI, 24, .inl (fun _ => 0))), (y, .inl (cI, 24, .inl (fun _ => 0))), (z, .inl (cI, 24, .inl (fun _ => 0))), (fc, .inl (cF, 44, .inr (.inr (.inr (.inr (fun _ => none))))))]) hin1 tyX1 tyX1_ok nmX1 0 1 rfl rfl (by decide) hlf rfl rfl hnm rfl rfl rfl (Nat.le_of_ble_eq_true rfl) rfl dX1_init_21 ?_
  refine k_iconst C (v := nI 0) dX1_init_24 rfl ?_
  refine k_istore_n C dX1_init_25 rfl (by decide) rfl ?_
  have loop : ∀ (d J : Nat) (fa ra : Nat → Nat), J + d = 44 → Kw X (5 + 2 * J) (120 + 31 * J) ([(h, .inr (1, [.ref a1, .ref fc, .null, .int 0, .int 0, .null, .null, .null, .int 0, .long 0, .null])), (a1, .inr (2, [.ref x, .ref y, .ref z, .int 0])), (x, .inl (cI, 24, .inl (fun _ => 0))), (y, .inl (cI, 24, .inl (fun _ => 0))), (z, .inl (cI, 24, .inl (fun _ => 0))), (fc, .inl (cF, 44, .inr (.inr (.inr (.inr (hFa fa J))))))] ++ hPl fa ra cI J) 26 [(1, .int (nI J)), (0, .ref h)] [] := by
    intro d
    induction d with
    | zero =>
      intro J fa ra hJ
      have hJ : J = 44 := by omega
      subst hJ
      refine k_iload_n C 0 dX1_init_26 rfl rfl ?_
      refine k_bipush C (v := nI 44) dX1_init_27 rfl ?_
      refine k_icmp_geN C (by decide) (by decide) 51 dX1_init_29 rfl (fun _ => ?_) (fun hh => absurd hh (by omega))
      refine k_aload_n C 1 dX1_init_51 rfl rfl ?_
      refine k_new C (ci := 0) (N := 7) (T := TX0) hin0 tyX0 tyX0_ok hcl0 hii0 hit0 rfl hfs (by decide) (by decide) dX1_init_52 (fun q => ?_)
      refine k_dup C dX1_init_55 rfl ?_
      refine k_callIN C hAO (cnV_frR (n0_face _ _ cI cJ cF cD q)) ggX1_init_X0_init rfl rfl rfl rfl hnl0 hit0 him0 (by decide +kernel) ⟨Nat.le_of_ble_eq_true rfl, Nat.le_of_ble_eq_true rfl⟩ (Nat.le_of_ble_eq_true rfl) dX1_init_56 (by decide) (by decide) ?_
      rintro _ ⟨_, ⟨r, rfl⟩, rfl⟩
      refine k_perm (hPl_up2 _ fa ra cI 44 q r) ?_
      generalize hfa : updN fa 44 q = fa'
      generalize hra : updN ra 44 r = ra'
      have hq : fa' 44 = q := by rw [← hfa]; simp [updN]
      have hfx : ∀ j, j < 44 → hFa fa 44 j = some (fa' j) := by
        intro j hj
        have : j ≠ 44 := by omega
        simp [hFa, hj, ← hfa, updN, this]
      generalize hPL : hPl fa' ra' cI 45 = PL
      refine k_put C (ws' := [(h, .inr (1, [.ref a1, .ref fc, .ref q, .int 0, .int 0, .null, .null, .null, .int 0, .long 0, .null])), (a1, .inr (2, [.ref x, .ref y, .ref z, .int 0])), (x, .inl (cI, 24, .inl (fun _ => 0))), (y, .inl (cI, 24, .inl (fun _ => 0))), (z, .inl (cI, 24, .inl (fun _ => 0))), (fc, .inl (cF, 44, .inr (.inr (.inr (.inr (hFa fa 44))))))] ++ PL) hin1 tyX1 tyX1_ok nmX1 0 2 rfl rfl (by decide) (by decide +kernel) rfl rfl rfl rfl (Nat.le_of_ble_eq_true rfl) rfl dX1_init_59 ?_
      refine k_aload_n C 1 dX1_init_62 rfl rfl ?_
      refine k_sipush C (v := nI 576) dX1_init_63 rfl ?_
      refine k_newaI C 0 rfl (by decide +kernel) (by decide) (by decide) (by decide) dX1_init_66 (fun al => ?_)
      refine k_perm h_perm1 ?_
      refine k_putF C (ws' := [(h, .inr (1, [.ref a1, .ref fc, .ref q, .int 0, .int 0, .ref al, .null, .null, .int 0, .long 0, .null])), (a1, .inr (2, [.ref x, .ref y, .ref z, .int 0])), (x, .inl (cI, 24, .inl (fun _ => 0))), (y, .inl (cI, 24, .inl (fun _ => 0))), (z, .inl (cI, 24, .inl (fun _ => 0))), (fc, .inl (cF, 44, .inr (.inr (.inr (.inr (hFa fa 44)))))), (al, .inl (cI, 576, .inl (fun _ => 0)))] ++ PL) hin1 tyX1 tyX1_ok nmX1 0 5 rfl rfl (by decide) (by decide +kernel) rfl rfl hnm rfl rfl rfl (Nat.le_of_ble_eq_true rfl) rfl dX1_init_68 ?_
      refine k_aload_n C 1 dX1_init_71 rfl rfl ?_
      refine k_bipush C (v := nI 66) dX1_init_72 rfl ?_
      refine k_newaI C 0 rfl (by decide +kernel) (by decide) (by decide) (by decide) dX1_init_74 (fun el => ?_)
      refine k_perm h_perm1 ?_
      refine k_putF C (ws' := [(h, .inr (1, [.ref a1, .ref fc, .ref q, .int 0, .int 0, .ref al, .ref el, .null, .int 0, .long 0, .null])), (a1, .inr (2, [.ref x, .ref y, .ref z, .int 0])), (x, .inl (cI, 24, .inl (fun _ => 0))), (y, .inl (cI, 24, .inl (fun _ => 0))), (z, .inl (cI, 24, .inl (fun _ => 0))), (fc, .inl (cF, 44, .inr (.inr (.inr (.inr (hFa fa 44)))))), (al, .inl (cI, 576, .inl (fun _ => 0))), (el, .inl (cI, 66, .inl (fun _ => 0)))] ++ PL) hin1 tyX1 tyX1_ok nmX1 0 6 rfl rfl (by decide) (by decide +kernel) rfl rfl hnm rfl rfl rfl (Nat.le_of_ble_eq_true rfl) rfl dX1_init_76 ?_
      refine k_aload_n C 1 dX1_init_79 rfl rfl ?_
      refine k_bipush C (v := nI 66) dX1_init_80 rfl ?_
      refine k_newaI C 0 rfl (by decide +kernel) (by decide) (by decide) (by decide) dX1_init_82 (fun eh => ?_)
      refine k_perm h_perm1 ?_
      refine k_putF C (ws' := [(h, .inr (1, [.ref a1, .ref fc, .ref q, .int 0, .int 0, .ref al, .ref el, .ref eh, .int 0, .long 0, .null])), (a1, .inr (2, [.ref x, .ref y, .ref z, .int 0])), (x, .inl (cI, 24, .inl (fun _ => 0))), (y, .inl (cI, 24, .inl (fun _ => 0))), (z, .inl (cI, 24, .inl (fun _ => 0))), (fc, .inl (cF, 44, .inr (.inr (.inr (.inr (hFa fa 44)))))), (al, .inl (cI, 576, .inl (fun _ => 0))), (el, .inl (cI, 66, .inl (fun _ => 0))), (eh, .inl (cI, 66, .inl (fun _ => 0)))] ++ PL) hin1 tyX1 tyX1_ok nmX1 0 7 rfl rfl (by decide) (by decide +kernel) rfl rfl hnm rfl rfl rfl (Nat.le_of_ble_eq_true rfl) rfl dX1_init_84 ?_
      refine k_aload_n C 1 dX1_init_87 rfl rfl ?_
      refine k_iconst C (v := nI 3) dX1_init_88 rfl ?_
      refine k_newaJ C 1 rfl (by decide +kernel) (by decide) (by decide) (by decide) dX1_init_89 (fun mo => ?_)
      refine k_perm h_perm1 ?_
      refine k_putF C (ws' := [(h, .inr (1, [.ref a1, .ref fc, .ref q, .int 0, .int 0, .ref al, .ref el, .ref eh, .int 0, .long 0, .ref mo])), (a1, .inr (2, [.ref x, .ref y, .ref z, .int 0])), (x, .inl (cI, 24, .inl (fun _ => 0))), (y, .inl (cI, 24, .inl (fun _ => 0))), (z, .inl (cI, 24, .inl (fun _ => 0))), (fc, .inl (cF, 44, .inr (.inr (.inr (.inr (hFa fa 44)))))), (al, .inl (cI, 576, .inl (fun _ => 0))), (el, .inl (cI, 66, .inl (fun _ => 0))), (eh, .inl (cI, 66, .inl (fun _ => 0))), (mo, .inl (cJ, 3, .inr (.inl (fun _ => 0))))] ++ PL) hin1 tyX1 tyX1_ok nmX1 0 10 rfl rfl (by decide) (by decide +kernel) rfl rfl hnm rfl rfl rfl (Nat.le_of_ble_eq_true rfl) rfl dX1_init_91 ?_
      refine k_ext (ws' := [(h, .inr (1, [.ref a1, .ref fc, .ref q, .int 0, .int 0, .ref al, .ref el, .ref eh, .int 0, .long 0, .ref mo])), (a1, .inr (2, [.ref x, .ref y, .ref z, .int 0])), (x, .inl (cI, 24, .inl (fun _ => 0))), (y, .inl (cI, 24, .inl (fun _ => 0))), (z, .inl (cI, 24, .inl (fun _ => 0))), (fc, .inl (cF, 44, .inr (.inr (.inr (.inr (fun j => some (fa' j))))))), (al, .inl (cI, 576, .inl (fun _ => 0))), (el, .inl (cI, 66, .inl (fun _ => 0))), (eh, .inl (cI, 66, .inl (fun _ => 0))), (mo, .inl (cJ, 3, .inr (.inl (fun _ => 0))))] ++ PL) 5 rfl hfx rfl ?_
      subst hq
      exact hret _ _ _ _ _ ⟨fun i => match i with | 5 => h | 6 => a1 | 7 => x | 8 => y | 9 => z | 10 => fc | 11 => al | 12 => el | 13 => eh | 14 => mo | _ => 0, fa', ra', rfl, by rw [hPL]; rfl⟩ (by decide) (by decide) dX1_init_94
    | succ d ih =>
      intro J fa ra hJ
      refine k_iload_n C 0 dX1_init_26 rfl rfl ?_
      refine k_bipush C (v := nI 44) dX1_init_27 rfl ?_
      refine k_icmp_geN C (by omega) (by decide) 51 dX1_init_29 rfl (fun hh => absurd hh (by omega)) (fun _ => ?_)
      refine k_aload_n C 1 dX1_init_32 rfl rfl ?_
      refine k_get C hin1 0 1 rfl rfl (by decide) hlf rfl rfl dX1_init_33 ?_
      refine k_iload_n C 0 dX1_init_36 rfl rfl ?_
      refine k_new C (ci := 0) (N := 7) (T := TX0) hin0 tyX0 tyX0_ok hcl0 hii0 hit0 rfl hfs (by show 5 + 2 * J + 1 ≤ 99; omega) (by show 120 + 31 * J + 7 ≤ 2226; omega) dX1_init_37 (fun q => ?_)
      refine k_dup C dX1_init_40 rfl ?_
      refine k_callIN C hAO (cnV_frR (n0_face _ _ cI cJ cF cD q)) ggX1_init_X0_init rfl rfl rfl rfl hnl0 hit0 him0 (by decide +kernel) ⟨Nat.le_of_ble_eq_true rfl, Nat.le_of_ble_eq_true rfl⟩ (Nat.le_of_ble_eq_true rfl) dX1_init_41 (by show 5 + 2 * J + 1 + 1 ≤ 99; omega) (by show 120 + 31 * J + 7 + 24 ≤ 2226; omega) ?_
      rintro _ ⟨_, ⟨r, rfl⟩, rfl⟩
      refine k_perm (hPl_up2 _ fa ra cI J q r) ?_
      have hq : updN fa J q J = q := by simp [updN]
      have hg : ([(h, .inr (1, [.ref a1, .ref fc, .null, .int 0, .int 0, .null, .null, .null, .int 0, .long 0, .null])), (a1, .inr (2, [.ref x, .ref y, .ref z, .int 0])), (x, .inl (cI, 24, .inl (fun _ => 0))), (y, .inl (cI, 24, .inl (fun _ => 0))), (z, .inl (cI, 24, .inl (fun _ => 0))), (fc, .inl (cF, 44, .inr (.inr (.inr (.inr (hFa fa J))))))] ++ hPl (updN fa J q) (updN ra J r) cI (J + 1))[6 + J]? = some (hOo (updN fa J q) (updN ra J r) J) := pool_get ([(h, .inr (1, [.ref a1, .ref fc, .null, .int 0, .int 0, .null, .null, .null, .int 0, .long 0, .null])), (a1, .inr (2, [.ref x, .ref y, .ref z, .int 0])), (x, .inl (cI, 24, .inl (fun _ => 0))), (y, .inl (cI, 24, .inl (fun _ => 0))), (z, .inl (cI, 24, .inl (fun _ => 0))), (fc, .inl (cF, 44, .inr (.inr (.inr (.inr (hFa fa J))))))]) (hOo (updN fa J q) (updN ra J r)) (J + 1) J (by omega) _
      have hg2 : ([(h, .inr (1, [.ref a1, .ref fc, .null, .int 0, .int 0, .null, .null, .null, .int 0, .long 0, .null])), (a1, .inr (2, [.ref x, .ref y, .ref z, .int 0])), (x, .inl (cI, 24, .inl (fun _ => 0))), (y, .inl (cI, 24, .inl (fun _ => 0))), (z, .inl (cI, 24, .inl (fun _ => 0))), (fc, .inl (cF, 44, .inr (.inr (.inr (.inr (hFa fa J))))))] ++ hPl (updN fa J q) (updN ra J r) cI (J + 1))[6 + J]? = some (q, .inr (0, [.long 0, .long 0, .long 0, .long 0, .int 0, .ref (updN ra J r J), .int 0])) := by rw [hg]; simp only [hOo, wBo, hq]; rfl
      refine k_aast C (ci := 0) (r := (RX0, TX0, 7)) (ws' := [(h, .inr (1, [.ref a1, .ref fc, .null, .int 0, .int 0, .null, .null, .null, .int 0, .long 0, .null])), (a1, .inr (2, [.ref x, .ref y, .ref z, .int 0])), (x, .inl (cI, 24, .inl (fun _ => 0))), (y, .inl (cI, 24, .inl (fun _ => 0))), (z, .inl (cI, 24, .inl (fun _ => 0))), (fc, .inl (cF, 44, .inr (.inr (.inr (.inr (hFa (updN fa J q) (J + 1)))))))] ++ hPl (updN fa J q) (updN ra J r) cI (J + 1)) 5 2 (6 + J) rfl rfl hg2 rfl (by omega) (by decide) (by rw [hFa_up]; rfl) dX1_init_44 ?_
      refine k_iinc C (v := (nI (J + 1))) (lv' := [(1, .int (nI (J + 1))), (0, .ref h)]) 0 dX1_init_45 rfl (nI_1 _) (by decide) rfl ?_
      refine k_goto C 26 dX1_init_48 rfl ?_
      exact k_widen (by omega) (by omega) (ih (J + 1) _ _ (by omega))
  exact loop 44 0 (fun _ => 0) (fun _ => 0) rfl
def wBn (o : Nat) : va_W := [(o, .inr (3, [.null, .null, .int 0]))]
def wB0 (ba fa ra : Nat → Nat) (cI cJ cF : ClassId) : va_W := wB ba fa ra cI cJ cF 0 0 0 0 0 0 0 44 (fun j => j) (fun _ => 0) (fun _ => 0) (fun _ => 0) (fun _ => 0) (fun _ => 0) (fun _ => 0) (fun _ => 0) (fun _ => 0) (fun _ => 0) (fun _ => 0) (fun _ => 0) (fun _ => 0) (fun _ => 0) (fun _ => 0) (fun _ => 0) (fun _ => 0) (fun _ _ => 0)
set_option maxHeartbeats 4000000 in
set_option maxRecDepth 100000 in
theorem n0_builder (l : Launch) (D : va_G) (cI cJ cF cD : ClassId) (o : Nat) : CnV l D (tyG cI cJ cF cD) yX3_init wsX3_init ({ frames := 3, cells := 104, slots := 2313, locals := 53 }) [.ref o] (wBn o) (fun w => ∃ ba fa ra : Nat → Nat, ba 0 = o ∧ w = wB0 ba fa ra cI cJ cF) 104 2313 := by
  refine cnV_of (cc := cX3_init) (maxL := 1) (by decide) rfl rfl (Nat.le_of_ble_eq_true rfl) ?_
  intro X hXl hXd C hAO hnm hret
  have hin1 : ∀ w ∈ wsX10, w ∈ wsX3_init := by decide +kernel
  have hin2 : ∀ w ∈ wsX20, w ∈ wsX3_init := by decide +kernel
  have hin3 : ∀ w ∈ wsX30, w ∈ wsX3_init := by decide +kernel
  show Kw X 0 0 [(o, .inr (3, [.null, .null, .int 0]))] 0 [(0, .ref o)] []
  refine k_aload_n C 0 dX3_init_0 rfl rfl ?_
  refine k_oinit C (by decide +kernel) (by decide +kernel) (List.mem_of_getElem? (i := 3) rfl) dX3_init_1 (Nat.le_of_ble_eq_true rfl) (Nat.le_of_ble_eq_true rfl) ?_
  refine k_aload_n C 0 dX3_init_4 rfl rfl ?_
  refine k_new C (ci := 2) (N := 4) (T := TX2) (fs := [.null, .null, .null, .int 0]) hin2 tyX2 tyX2_ok (by decide +kernel) (by decide +kernel) (by decide +kernel) rfl (fun j hj => match j, hj with | 0, _ => rfl | 1, _ => rfl | 2, _ => rfl | 3, _ => rfl) (by decide) (by decide) dX3_init_5 (fun p => ?_)
  refine k_dup C dX3_init_8 rfl ?_
  refine k_callIN C hAO (cnV_frR (n0_pts _ _ cI cJ cF cD p)) ggX3_init_X2_init rfl rfl rfl rfl (by decide +kernel : Cond.methodLinkNest RX3 11 yX2_init "HullBuilder" ∈ kNW) (by decide +kernel) (by decide +kernel) (by decide +kernel) ⟨Nat.le_of_ble_eq_true rfl, Nat.le_of_ble_eq_true rfl⟩ (Nat.le_of_ble_eq_true rfl) dX3_init_9 (by decide) (by decide) ?_
  rintro _ ⟨_, ⟨x, y, z, rfl⟩, rfl⟩
  refine k_putF C (ws' := [(o, .inr (3, [.ref p, .null, .int 0])), (p, .inr (2, [.ref x, .ref y, .ref z, .int 0])), (x, .inl (cI, 24, .inl (fun _ => 0))), (y, .inl (cI, 24, .inl (fun _ => 0))), (z, .inl (cI, 24, .inl (fun _ => 0)))]) hin3 tyX3 tyX3_ok nmX3 0 0 rfl rfl (by decide) (by decide +kernel) rfl rfl hnm rfl rfl rfl (Nat.le_of_ble_eq_true rfl) rfl dX3_init_12 ?_
  refine k_aload_n C 0 dX3_init_15 rfl rfl ?_
  refine k_new C (ci := 1) (N := 11) (T := TX1) (fs := [.null, .null, .null, .int 0, .int 0, .null, .null, .null, .int 0, .long 0, .null]) hin1 tyX1 tyX1_ok (by decide +kernel) (by decide +kernel) (by decide +kernel) rfl (fun j hj => match j, hj with | 0, _ => rfl | 1, _ => rfl | 2, _ => rfl | 3, _ => rfl | 4, _ => rfl | 5, _ => rfl | 6, _ => rfl | 7, _ => rfl | 8, _ => rfl | 9, _ => rfl | 10, _ => rfl) (by decide) (by decide) dX3_init_16 (fun h => ?_)
  refine k_dup C dX3_init_19 rfl ?_
  refine k_callIN C hAO (cnV_frR (n0_hull _ _ cI cJ cF cD h)) ggX3_init_X1_init rfl rfl rfl rfl (by decide +kernel : Cond.methodLinkNest RX3 18 yX1_init "HullBuilder" ∈ kNW) (by decide +kernel) (by decide +kernel) (by decide +kernel) ⟨Nat.le_of_ble_eq_true rfl, Nat.le_of_ble_eq_true rfl⟩ (Nat.le_of_ble_eq_true rfl) dX3_init_20 (by decide) (by decide) ?_
  rintro _ ⟨_, ⟨ba, fa, ra, hh, rfl⟩, rfl⟩
  generalize hPL : hPl fa ra cI 45 = PL
  refine k_putF C (ws' := [(o, .inr (3, [.ref p, .ref h, .int 0])), (p, .inr (2, [.ref x, .ref y, .ref z, .int 0])), (x, .inl (cI, 24, .inl (fun _ => 0))), (y, .inl (cI, 24, .inl (fun _ => 0))), (z, .inl (cI, 24, .inl (fun _ => 0)))] ++ (wHf ba fa cI cJ cF ++ PL)) hin3 tyX3 tyX3_ok nmX3 0 1 rfl rfl (by decide) (by decide +kernel) rfl rfl hnm rfl rfl rfl (Nat.le_of_ble_eq_true rfl) rfl dX3_init_23 ?_
  refine k_aload_n C 0 dX3_init_26 rfl rfl ?_
  refine k_iconst C (v := 0) dX3_init_27 rfl ?_
  refine k_put C (ws' := [(o, .inr (3, [.ref p, .ref h, .int 0])), (p, .inr (2, [.ref x, .ref y, .ref z, .int 0])), (x, .inl (cI, 24, .inl (fun _ => 0))), (y, .inl (cI, 24, .inl (fun _ => 0))), (z, .inl (cI, 24, .inl (fun _ => 0)))] ++ (wHf ba fa cI cJ cF ++ PL)) hin3 tyX3 tyX3_ok nmX3 0 2 rfl rfl (by decide) (by decide +kernel) rfl rfl rfl rfl (Nat.le_of_ble_eq_true rfl) rfl dX3_init_28 ?_
  subst hh
  refine hret _ _ _ _ _ ⟨fun i => match i with | 0 => o | 1 => p | 2 => x | 3 => y | 4 => z | _ => ba i, fa, ra, rfl, ?_⟩ (by decide) (by decide) dX3_init_31
  rw [← hPL]
  rfl
