/-! ===== the law from its entry ===== -/
def R_law : String := "HullBuilderLaw"
def lw_P (b : Addr) (xs : List Int32) (args : Array Value) (s : State) : Prop := args = #[.ref b] ∧ s.IntsAt b xs ∧ xs.length ≤ 2048 ∧ (Jvm.Cond.and given_1 narrow_1).before args s = true
def lw_Q (_ : Array Value) (s : State) (o : Outcome) (t : State) : Prop := o = .returned (some (.int 1)) ∧ Framed s o t [] 601024 7293034
def lw_Z (below : List Frame) (a : Array Value) (s : State) : State → Prop := fun t => ∃ o, t.status = .running ∧ Ended t below o ∧ lw_Q a s o t
/-- the law's own end, with 1 on the stack, nothing written that was there before, its room as the claim has it -/
theorem lw_ret {p : Program} {l : Launch} {e : Env} {s : State} {m : MethodId} {below : List Frame} {meth : Method} {c : Code} {b : Nat} (hx : p.tables.exec = Jvm.exec) (hb : c.code = code) (hr : meth.sig.returnType = ret) (hlocks : meth.locks = false) {pc : Nat} {H : Heap} {ls : Array Slot} (hdg : decode code pc = .ok (.ireturn, 1)) : W p l e room_1 s m #[Value.ref b] below meth c H [] 601024 7293034 (lw_Z below #[Value.ref b] s) (F0 m pc ls [.int 1]) := by
  intro T hT X
  obtain ⟨fs, hret, hrun, hended, hW, hframe⟩ := X.leave (v := some (.int 1)) (hlocks := hlocks) (fun h => by rw [hr] at h; cases h)
  have hmeth' : T.vm.method? m = some meth := X.method'
  refine ⟨T.setFrames fs, ?_, .returned (some (.int 1)), hrun, hended, rfl, ⟨_, rfl⟩, hW, hframe⟩
  jvm_step X.here [X.here.top, hx, hb, hdg, hmeth', hr, ret, narrow_b1]
  (try refine ⟨rfl, ?_⟩); (try refine ⟨rfl, ?_⟩)
  first | (intro acts; rw [hret _ acts rfl rfl rfl]) | rw [hret _ _ rfl rfl rfl]
  exact Steps.refl _
/-- what holds at the law's entry: the machine, the code, the tables' words (any of lw_tbl by 'hts w (by decide +kernel)'), the script of L ints xs at the cell b, what the Statement gives of the start (any of its parts by flat_of_before) -/
def lw_At (p : Program) (s : State) (m : MethodId) (meth : Method) (c : Code) (b L : Nat) (xs : Nat → Int32) : Prop :=
  p.tables.exec = Jvm.exec ∧ c.code = code ∧ meth.sig.returnType = ret ∧ c.maxLocals = 9 ∧ s.vm.findClass R_law = some m.cls ∧ (∀ w ∈ lw_tbl, w.before #[Value.ref b] s = true) ∧ va_X b L xs s s.heap ∧ b < s.heap.size ∧ meth.locks = false ∧ (Jvm.Cond.and given_1 narrow_1).before #[Value.ref b] s = true
/-- the places of the faces at birth -/
def pm1 : Nat → Nat := fun j => if j < 44 then j else 0
def wB1 (ba fa ra : Nat → Nat) (cI cJ cF : ClassId) : va_W := wB ba fa ra cI cJ cF 0 0 0 0 0 0 0 44 pm1 (fun _ => 0) (fun _ => 0) (fun _ => 0) (fun _ => 0) (fun _ => 0) (fun _ => 0) (fun _ => 0) (fun _ => 0) (fun _ => 0) (fun _ => 0) (fun _ => 0) (fun _ => 0) (fun _ => 0) (fun _ => 0) (fun _ => 0) (fun _ => 0) (fun _ _ => 0)
theorem pm1_eq {fa : Nat → Nat} : ∀ j, j < 44 → (fun j => some (fa ((fun j => j) j))) j = (fun j => some (fa (pm1 j))) j := by
  intro j hj
  show some (fa j) = some (fa (pm1 j))
  rw [show pm1 j = j from if_pos hj]
/-- what the mathematics must give: a relation between the two worlds that holds at birth and that every call keeps, with the same answer -/
def LawOK (l : Launch) (D : va_G) (cI cJ cF cD : ClassId) (ad ba fa ra : Nat → Nat) (oa od : Nat) : Prop := ∃ Rl : Int32 → va_W → va_W → Prop, Rl 0 (wM0 ad cI cJ) (wB1 ba fa ra cI cJ cF) ∧ AgT Rl l D cI cJ cF cD (ad 0) ∧ (∀ x y z : Int32, AgI Rl l D cI cJ cF cD oa od yL_point wsL_point ({ frames := 8, cells := 2, slots := 12, locals := 136 }) [.ref (ba 0), .int x, .int y, .int z, .ref oa] 2 12 yX4_point wsX4_point ({ frames := 1, cells := 0, slots := 0, locals := 25 }) [.ref (ad 0), .int x, .int y, .int z]) ∧ (∀ x : Int32, AgI Rl l D cI cJ cF cD oa od yL_take wsL_take ({ frames := 8, cells := 1, slots := 6, locals := 132 }) [.ref (ba 0), .int x, .ref oa] 1 6 yX4_take wsX4_take ({ frames := 1, cells := 0, slots := 0, locals := 22 }) [.ref (ad 0), .int x]) ∧ (AgI Rl l D cI cJ cF cD oa od yL_build wsL_build ({ frames := 7, cells := 1, slots := 6, locals := 141 }) [.ref (ba 0), .ref oa] 1 6 yX4_build wsX4_build ({ frames := 4, cells := 0, slots := 0, locals := 112 }) [.ref (ad 0)]) ∧ (∀ x y : Int32, AgI Rl l D cI cJ cF cD oa od yL_of wsL_of ({ frames := 8, cells := 2, slots := 12, locals := 133 }) [.ref (ba 0), .int x, .int y, .ref oa] 2 12 yX4_of wsX4_of ({ frames := 1, cells := 0, slots := 0, locals := 22 }) [.ref (ad 0), .int x, .int y]) ∧ (∀ x y : Int32, AgI Rl l D cI cJ cF cD oa od yL_face wsL_face ({ frames := 8, cells := 3, slots := 18, locals := 134 }) [.ref (ba 0), .int x, .int y, .ref oa] 3 18 yX4_face wsX4_face ({ frames := 1, cells := 0, slots := 0, locals := 22 }) [.ref (ad 0), .int x, .int y]) ∧ (∀ x : Int32, AgL Rl l D cI cJ cF cD oa od yL_offset wsL_offset ({ frames := 8, cells := 2, slots := 12, locals := 132 }) [.ref (ba 0), .int x, .ref oa] 2 12 yX4_offset wsX4_offset ({ frames := 1, cells := 0, slots := 0, locals := 22 }) [.ref (ad 0), .int x]) ∧ (∀ x y : Int32, AgI Rl l D cI cJ cF cD oa od yL_corner wsL_corner ({ frames := 8, cells := 3, slots := 18, locals := 133 }) [.ref (ba 0), .int x, .int y, .ref oa] 3 18 yX4_corner wsX4_corner ({ frames := 1, cells := 0, slots := 0, locals := 22 }) [.ref (ad 0), .int x, .int y]) ∧ (∀ x y : Int32, AgI Rl l D cI cJ cF cD oa od yL_edge wsL_edge ({ frames := 8, cells := 3, slots := 18, locals := 135 }) [.ref (ba 0), .int x, .int y, .ref oa] 3 18 yX4_edge wsX4_edge ({ frames := 1, cells := 0, slots := 0, locals := 22 }) [.ref (ad 0), .int x, .int y]) ∧ (∀ x y z : Int32, AgI Rl l D cI cJ cF cD oa od yL_support wsL_support ({ frames := 8, cells := 2, slots := 12, locals := 136 }) [.ref (ba 0), .int x, .int y, .int z, .ref oa] 2 12 yX4_support wsX4_support ({ frames := 1, cells := 0, slots := 0, locals := 23 }) [.ref (ad 0), .int x, .int y, .int z]) ∧ (∀ x y : Int32, AgI Rl l D cI cJ cF cD oa od yL_steps wsL_steps ({ frames := 9, cells := 5, slots := 30, locals := 154 }) [.ref (ba 0), .int x, .int y, .ref oa] 5 30 yX4_steps wsX4_steps ({ frames := 1, cells := 0, slots := 0, locals := 23 }) [.ref (ad 0), .int x, .int y]) ∧ (∀ x y z : Int32, AgI Rl l D cI cJ cF cD oa od yL_side wsL_side ({ frames := 8, cells := 2, slots := 12, locals := 136 }) [.ref (ba 0), .int x, .int y, .int z, .ref oa] 2 12 yX4_side wsX4_side ({ frames := 1, cells := 0, slots := 0, locals := 22 }) [.ref (ad 0), .int x, .int y, .int z]) ∧ (AgL Rl l D cI cJ cF cD oa od yL_volume wsL_volume ({ frames := 8, cells := 1, slots := 6, locals := 130 }) [.ref (ba 0), .ref oa] 1 6 yX4_volume wsX4_volume ({ frames := 1, cells := 0, slots := 0, locals := 32 }) [.ref (ad 0)]) ∧ (∀ x : Int32, AgL Rl l D cI cJ cF cD oa od yL_centre wsL_centre ({ frames := 8, cells := 2, slots := 12, locals := 132 }) [.ref (ba 0), .int x, .ref oa] 2 12 yX4_centre wsX4_centre ({ frames := 1, cells := 0, slots := 0, locals := 32 }) [.ref (ad 0), .int x]) ∧ (∀ x : Int32, AgD Rl l D cI cJ cF cD oa od yL_middle wsL_middle ({ frames := 8, cells := 2, slots := 12, locals := 134 }) [.ref (ba 0), .int x, .ref od] 2 12 yX4_middle wsX4_middle ({ frames := 1, cells := 0, slots := 0, locals := 32 }) [.ref (ad 0), .int x]) ∧ (∀ x : Int32, AgI Rl l D cI cJ cF cD oa od yL_count wsL_count ({ frames := 7, cells := 1, slots := 6, locals := 111 }) [.ref (ba 0), .int x, .ref oa] 1 6 yX4_count wsX4_count ({ frames := 1, cells := 0, slots := 0, locals := 23 }) [.ref (ad 0), .int x])
theorem st_ty {s : State} {args : Array Value} (h1 : (Cond.arrayClass .int).before args s = true) (h2 : (Cond.arrayClass .long).before args s = true) (h3 : (Cond.arrayOver (.object RX0)).before args s = true) (h4 : (Cond.arrayClass .double).before args s = true) : ∃ cI cJ cF cD : ClassId, ∀ (k : Nat) (q : ClassId × FieldType), (tyG cI cJ cF cD)[k]? = some q → ArrOfT s q.1 q.2 ∧ va_RA s q.1 q.2 := by
  obtain ⟨cI, kI, p1, a1, a2, a3⟩ := Cond.arrayClass_spec h1
  obtain ⟨cJ, kJ, p2, b1, b2, b3⟩ := Cond.arrayClass_spec h2
  obtain ⟨p3, cF, kF, e1, e2, e3, e4, e5⟩ := Cond.arrayOver_spec h3
  obtain ⟨cD, kD, p4, d1, d2, d3⟩ := Cond.arrayClass_spec h4
  refine ⟨cI, cJ, cF, cD, ?_⟩
  intro k q hq
  match k, hq with
  | 0, hq => cases hq; exact ⟨fun n z => ⟨fun k h => (by cases h), kI, a2, p1, a3⟩, a1⟩
  | 1, hq => cases hq; exact ⟨fun n z => ⟨fun k h => (by cases h), kJ, b2, p2, b3⟩, b1⟩
  | 2, hq => cases hq; exact ⟨fun n z => ⟨fun k h => (by cases h), kF, e3, p3, e4⟩, kF, p3, e3, e4, e1, e5⟩
  | 3, hq => cases hq; exact ⟨fun n z => ⟨fun k h => (by cases h), kD, d2, p4, d3⟩, d1⟩
  | k + 4, hq => simp [tyG] at hq
theorem st_perm {A B : va_W} {x y : Nat × va_E} : (((A ++ B) ++ [x]) ++ [y]).Perm (B ++ (A ++ [x, y])) := by
  rw [List.append_assoc, List.append_assoc, ← List.append_assoc B A [x, y]]
  show (A ++ (B ++ [x, y])).Perm _
  rw [← List.append_assoc]
  exact List.Perm.append_right _ List.perm_append_comm
set_option maxHeartbeats 4000000 in
set_option maxRecDepth 100000 in
theorem law_start {p : Program} {e : Env} {s : State} {m : MethodId} {below : List Frame} {meth : Method} {c : Code} (l : Launch) (htr : l.stackTraces = false) (hOK : ∀ (D : va_G) (cI cJ cF cD : ClassId) (ad ba fa ra : Nat → Nat) (oa od : Nat), LawOK l D cI cJ cF cD ad ba fa ra oa od) {b L : Nat} {xs : Nat → Int32} (hL : L ≤ 2048) (C0 : lw_At p s m meth c b L xs) : W p l e room_1 s m #[Value.ref b] below meth c s.heap [] 0 0 (lw_Z below #[Value.ref b] s) (entryFrame m ([Value.ref b] : List Value).toArray 9) := by
  obtain ⟨hx, hb, hr, hml, hown, hts, hX, hbl, hlocks, hgv⟩ := id C0
  have hfl := flat_of_before _ hgv
  obtain ⟨c0, iS0, hKn0⟩ := u_known (C := RX0) (T := TX0) (N := 7) (n := 7) hts wsL_law_in_u0 (hts (.instantiable RX0 7) (by decide +kernel))
  obtain ⟨c1, iS1, hKn1⟩ := u_known (C := RX1) (T := TX1) (N := 11) (n := 11) hts wsL_law_in_u1 (hts (.instantiable RX1 11) (by decide +kernel))
  obtain ⟨c2, iS2, hKn2⟩ := u_known (C := RX2) (T := TX2) (N := 4) (n := 4) hts wsL_law_in_u2 (hts (.instantiable RX2 4) (by decide +kernel))
  obtain ⟨c3, iS3, hKn3⟩ := u_known (C := RX3) (T := TX3) (N := 3) (n := 3) hts wsL_law_in_u3 (hts (.instantiable RX3 3) (by decide +kernel))
  obtain ⟨c4, iS4, hKn4⟩ := u_known (C := RX4) (T := TX4) (N := 27) (n := 27) hts wsL_law_in_u4 (hts (.instantiable RX4 27) (by decide +kernel))
  obtain ⟨D, hKc⟩ : ∃ D : va_G, ∀ (k : Nat) (q : vw_C), vwCl[k]? = some q → u_Kn s q.1 q.2.1 q.2.2 (D.1 k) (D.2 k) := by
    refine ⟨(fun k => if k = 0 then c0 else if k = 1 then c1 else if k = 2 then c2 else if k = 3 then c3 else c4, fun k => if k = 0 then iS0 else if k = 1 then iS1 else if k = 2 then iS2 else if k = 3 then iS3 else iS4), ?_⟩
    intro k q hq
    match k, hq with
    | 0, hq => cases hq; exact hKn0
    | 1, hq => cases hq; exact hKn1
    | 2, hq => cases hq; exact hKn2
    | 3, hq => cases hq; exact hKn3
    | 4, hq => cases hq; exact hKn4
    | k + 5, hq => simp [vwCl] at hq
  obtain ⟨cI, cJ, cF, cD, hty⟩ := st_ty (hts (.arrayClass .int) (by decide +kernel)) (hts (.arrayClass .long) (by decide +kernel)) (hts (.arrayOver (.object RX0)) (by decide +kernel)) (hts (.arrayClass .double) (by decide +kernel))
  have hK : va_K D vwCl (tyG cI cJ cF cD) s := ⟨hKc, hty⟩
  have hNW : kNWs s := fun w hw => by
    have hin := List.mem_append_right (k2_sels lw_privs) (kNW_in w hw)
    rcases kNW_kind w hw with ⟨a, i, b, n, d, g, rfl⟩ | ⟨a, i, x, g, rfl⟩
    · exact va_Nw.of rfl (hts _ hin)
    · exact va_Nw.of rfl (hts _ hin)
  have hAO : va_AO RX0 s := va_AO.of (hts (.arrayOver (.object RX0)) (by decide +kernel))
  have hNC : kNC s := ⟨va_Nc.of (hfl _ (by decide +kernel)), va_Nc.of (hfl _ (by decide +kernel)), va_Nc.of (hfl _ (by decide +kernel))⟩
  have hT0 : kT0 s := by
    refine ⟨?_, ?_⟩
    · have hin : ∀ w ∈ kBW, w ∈ lw_tbl := by decide +kernel
      intro w hw
      rcases kBW_kind w hw with ⟨x, rfl⟩ | ⟨a, b, rfl⟩
      · exact va_Nw.of rfl (hts _ (hin _ hw))
      · exact va_Nw.of rfl (hts _ (hin _ hw))
    · have hin1 : ∀ q ∈ kStr, Cond.stringRef RX3 q.1 q.2 ∈ lw_tbl := by decide +kernel
      have hin2 : ∀ q ∈ kStr, Cond.exactly (Term.string RX3 q.1) "java/lang/String" ∈ flatC (Jvm.Cond.and given_1 narrow_1) := by decide +kernel
      intro q hq
      obtain ⟨a, _, _, _, q1, -⟩ := Cond.exactly_spec (hfl _ (hin2 q hq))
      exact ⟨a, vk_R.of (hts _ (hin1 q hq)) q1⟩
  have hTZ : kTZ (fun q : Nat => s.heap.size ≤ q) s s.heap := ⟨vx_Zqof (hts _ (by decide +kernel)) (hts (.initialized Bundle.tN) (by decide +kernel)) (hfl _ (by decide +kernel)) (fun a h => Nat.not_le.mpr h), vx_Zqof (hts _ (by decide +kernel)) (hts (.initialized Bundle.tN) (by decide +kernel)) (hfl _ (by decide +kernel)) (fun a h => Nat.not_le.mpr h)⟩
  have hS : va_S (fun q : Nat => s.heap.size ≤ q) s.heap s.heap [] := va_S.rf
  have hP : va_P D vwCl [] s.heap := fun k q h => by simp at h
  have hD : va_D (fun q : Nat => s.heap.size ≤ q) [] := ⟨fun i j p q h => by simp at h, fun k q h => by simp at h⟩
  have hl := lv_entry ([.ref b]) (n := 9) (Nat.le_of_ble_eq_true rfl)
  rw [lg_entry_eq]
  generalize (lg_sl ([.ref b]) ++ List.replicate (9 - (lg_sl ([.ref b])).length) Slot.unset).toArray = ls at hl ⊢
  have hl : lv_has ls 9 [(0, .ref b)] := hl
  obtain ⟨X, hXe⟩ : ∃ X : XT, X = (p, l, e, room_1, s, m, #[Value.ref b], below, meth, c, lw_Z below #[Value.ref b] s, D, (fun q : Nat => s.heap.size ≤ q), s.heap, 9) := ⟨_, rfl⟩
  have C : Cx X cL_law RL wsL_law room_1 (tyG cI cJ cF cD) 9 := by
    subst hXe
    exact ⟨rfl, hx, hb, hml, hown, fun w hw => hts w (wsL_law_in w hw), hK, rfl, fun q h => h, hNW⟩
  have TX : Tx X := by subst hXe; exact ⟨hT0, hTZ, htr⟩
  have NC : kNC (kxS X) := by subst hXe; exact hNC
  have AO : va_AO RX0 (kxS X) := by subst hXe; exact hAO
  have SX : Sx X b L xs := by subst hXe; exact ⟨hX, hbl, Nat.not_le.mpr hbl, hL⟩
  have hend : ∀ (w : va_W) (lv : List (Nat × Value)) (k n : Nat), k ≤ 601024 → n ≤ 7293034 → Kw X k n w 1093 lv [.int 1] := by
    subst hXe
    intro w lv k n hk hn H locs ls hP hD hS hl
    refine W.widen hk hn ?_
    refine va_forget (fun q hq => hS.2.2 q hq) ?_
    exact lw_ret hx hb hr hlocks dL_law_1093
  have K : Kw X 0 0 [] 0 [(0, .ref b)] [] := by
    have hXl : kxL X = l := by subst hXe; rfl
    have hXd : kxD X = D := by subst hXe; rfl
    clear hend
    have hend' : ∀ (w : va_W) (lv : List (Nat × Value)) (k n : Nat), k ≤ 601024 → n ≤ 7293034 → Kw X k n w 1093 lv [.int 1] := by
      subst hXe
      intro w lv k n hk hn H locs ls hP hD hS hl
      refine W.widen hk hn ?_
      refine va_forget (fun q hq => hS.2.2 q hq) ?_
      exact lw_ret hx hb hr hlocks dL_law_1093
    have hin3 : ∀ w ∈ wsX30, w ∈ wsL_law := by decide +kernel
    have hin4 : ∀ w ∈ wsX40, w ∈ wsL_law := by decide +kernel
    refine k_new C (ci := 3) (N := 3) (T := TX3) (fs := [.null, .null, .int 0]) hin3 tyX3 tyX3_ok (by decide +kernel) (by decide +kernel) (by decide +kernel) rfl (fun j hj => match j, hj with | 0, _ => rfl | 1, _ => rfl | 2, _ => rfl) (by decide) (by decide) dL_law_0 (fun o => ?_)
    refine k_dup C dL_law_3 rfl ?_
    refine k_callI C AO (cnV_frR (a9 := []) (n0_builder _ _ cI cJ cF cD o)) gL_law_X3_init rfl rfl rfl rfl (by decide +kernel) (by decide +kernel) (by decide +kernel) (by decide +kernel) ⟨Nat.le_of_ble_eq_true rfl, Nat.le_of_ble_eq_true rfl⟩ (Nat.le_of_ble_eq_true rfl) dL_law_4 (by decide) (by decide) ?_
    rintro _ ⟨_, ⟨ba, fa, ra, hba, rfl⟩, rfl⟩
    refine k_ext (ws' := [] ++ wB1 ba fa ra cI cJ cF) (g := fun j => some (fa (pm1 j))) 10 rfl pm1_eq rfl ?_
    refine k_astore_n C (lv' := [(1, .ref o), (0, .ref b)]) dL_law_7 rfl (by decide) rfl ?_
    refine k_new C (ci := 4) (N := 27) (T := TX4) (fs := [.int 0, .int 0, .null, .null, .null, .int 0, .int 0, .int 0, .null, .null, .null, .int 0, .null, .null, .null, .null, .null, .null, .null, .int 0, .null, .null, .null, .long 0, .long 0, .long 0, .null]) hin4 tyX4 tyX4_ok (by decide +kernel) (by decide +kernel) (by decide +kernel) rfl (fun j hj => match j, hj with | 0, _ => rfl | 1, _ => rfl | 2, _ => rfl | 3, _ => rfl | 4, _ => rfl | 5, _ => rfl | 6, _ => rfl | 7, _ => rfl | 8, _ => rfl | 9, _ => rfl | 10, _ => rfl | 11, _ => rfl | 12, _ => rfl | 13, _ => rfl | 14, _ => rfl | 15, _ => rfl | 16, _ => rfl | 17, _ => rfl | 18, _ => rfl | 19, _ => rfl | 20, _ => rfl | 21, _ => rfl | 22, _ => rfl | 23, _ => rfl | 24, _ => rfl | 25, _ => rfl | 26, _ => rfl | j + 27, hj => absurd hj (by omega)) (by decide) (by decide) dL_law_8 (fun q => ?_)
    refine k_dup C dL_law_11 rfl ?_
    refine k_callI C AO (cnV_frR (n0_model _ _ cI cJ cF cD q)) gL_law_X4_init rfl rfl rfl rfl (by decide +kernel) (by decide +kernel) (by decide +kernel) (by decide +kernel) ⟨Nat.le_of_ble_eq_true rfl, Nat.le_of_ble_eq_true rfl⟩ (Nat.le_of_ble_eq_true rfl) dL_law_12 (by decide) (by decide) ?_
    rintro _ ⟨_, ⟨ad, had, rfl⟩, rfl⟩
    refine k_astore_n C (lv' := [(2, .ref q), (1, .ref o), (0, .ref b)]) dL_law_15 rfl (by decide) rfl ?_
    refine k_iconst C (v := nI 1) dL_law_16 rfl ?_
    refine k_newaJ C 1 rfl (by decide +kernel) (by decide) (by decide) (by decide) dL_law_17 (fun oa => ?_)
    refine k_astore_n C (lv' := [(3, .ref oa), (2, .ref q), (1, .ref o), (0, .ref b)]) dL_law_19 rfl (by decide) rfl ?_
    refine k_iconst C (v := nI 1) dL_law_20 rfl ?_
    refine k_newaD C 3 rfl (by decide +kernel) (by decide) (by decide) (by decide) dL_law_21 (fun od => ?_)
    refine k_astore C (lv' := [(4, .ref od), (3, .ref oa), (2, .ref q), (1, .ref o), (0, .ref b)]) dL_law_23 (by decide) rfl ?_
    refine k_iconst C (v := nI 0) dL_law_25 rfl ?_
    refine k_istore C (lv' := [(5, .int (nI 0)), (4, .ref od), (3, .ref oa), (2, .ref q), (1, .ref o), (0, .ref b)]) dL_law_26 (by decide) rfl ?_
    refine k_perm st_perm ?_
    obtain ⟨Rl, h0, hT, g_point, g_take, g_build, g_of, g_face, g_offset, g_corner, g_edge, g_support, g_steps, g_side, g_volume, g_centre, g_middle, g_count⟩ := hOK D cI cJ cF cD ad ba fa ra oa od
    subst had
    subst hba
    rw [← hXl, ← hXd] at hT g_point g_take g_build g_of g_face g_offset g_corner g_edge g_support g_steps g_side g_volume g_centre g_middle g_count
    exact law_loop C TX NC SX hT g_point g_take g_build g_of g_face g_offset g_corner g_edge g_support g_steps g_side g_volume g_centre g_middle g_count hend' L 0 _ _ 0 _ _ (fun _ => 0) (fun _ => FP.dconst0) (by omega) (by omega) (Nat.le_of_ble_eq_true rfl) (Nat.le_of_ble_eq_true rfl) h0
  have KW := K s.heap [] ls
  subst hXe
  exact KW hP hD hS hl
