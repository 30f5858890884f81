/-! ===== the law's own methods: with a table, returning ===== -/
def kNC (U : State) : Prop := va_Nc eIS eIA U ∧ va_Nc eIB eIS U ∧ va_Nc eIA eIS U
theorem kNC.moved {u U : State} (hvm : u.vm.Alike U.vm) (h : kNC u) : kNC U := ⟨va_Nc.moved hvm h.1, va_Nc.moved hvm h.2.1, va_Nc.moved hvm h.2.2⟩
abbrev kPy (D : va_G) (tys : List (ClassId × FieldType)) (as : List Value) (ws : va_W) (sz : Nat) : Array Value → State → Prop := va_Pc as (fun U => U.heap.size = sz ∧ va_P D vwCl ws U.heap ∧ va_K D vwCl tys U ∧ va_D (fun _ => True) ws ∧ kNWs U ∧ kT0 U ∧ kTZ (va_A ws sz) U U.heap ∧ kNC U)
theorem kBlindY (D : va_G) (tys : List (ClassId × FieldType)) (as : List Value) (ws : va_W) (sz : Nat) : FrameBlind (kPy D tys as ws sz) := fun a U g mk q => by
  obtain ⟨q0, q1, qP, qK, qD, qN, qT, qZ, qC⟩ := q
  exact ⟨q0, q1, qP, va_K.moved (u := U) (U := U.calling g mk a) (Vm.Alike.refl U.vm) qK, qD, kNWs.same (s := U) (U := U.calling g mk a) rfl qN, kT0.same (s := U) (U := U.calling g mk a) rfl qT, kTZ.moved (u := U) (U := U.calling g mk a) (Vm.Alike.refl U.vm) qZ, kNC.moved (u := U) (U := U.calling g mk a) (Vm.Alike.refl U.vm) qC⟩
def CwI (l : Launch) (D : va_G) (tys : List (ClassId × FieldType)) (y : MethodName) (wy : List Cond) (rm : Room) (as : List Value) (ws : va_W) (post : Int32 → va_W → Prop) (mc ms : Nat) : Prop := ∀ sz : Nat, Met l y wy rm (kPy D tys as ws sz) (va_Qi post (kB D ws sz) (va_A ws sz)) mc ms (va_A ws sz)
theorem cwI_of {l : Launch} {D : va_G} {tys : List (ClassId × FieldType)} {y : MethodName} {wy wy' : List Cond} {rm : Room} {as : List Value} {ws : va_W} {post : Int32 → va_W → Prop} {mc ms : Nat} {cc : ByteArray} {maxL : Nat} {hh : List (Nat × Nat × Nat × Nat)} (htr : l.stackTraces = false) (hy : plainName y.cls = true) (hw : wy = Cond.codeWith y cc maxL (some .int) hh :: wy') (hl : (lg_sl as).length ≤ maxL)
    (body : ∀ X : XT, kxL X = l → kxD X = D → Cx X cc y.cls wy rm tys maxL → Tx X → kNC (kxS X) → (kxC X).exceptionTable.toList = tableOf hh → (∀ (r : Int32) (w : va_W) (pc : Nat) (lv : List (Nat × Value)) (k n : Nat), post r w → k ≤ mc → n ≤ ms → decode cc pc = .ok (.ireturn, 1) → Kw X k n w pc lv [.int r]) → Kw X 0 0 ws 0 (lv_args 0 as) []) : CwI l D tys y wy rm as ws post mc ms := by
  intro sz
  refine va_MetW (cc := cc) (maxL := maxL) (ret := some .int) (hh := hh) hy hw ?_
  intro p e s m args below meth c s₁ B hml hv
  obtain ⟨rfl, hsz, hP, hK, hD0, hNW, hT0, hTZ, hNC⟩ := hv
  subst hsz
  have hlocks := B.notSynchronized
  have hts := atoms_spec (ws := wy) B.pre
  have K := body (p, l, e, (headSpec wy rm).room, s, m, as.toArray, below, meth, c, MQ below (va_Qi post (kB D ws s.heap.size) (va_A ws s.heap.size)) as.toArray s mc ms (va_A ws s.heap.size), D, va_A ws s.heap.size, s.heap, maxL) rfl rfl ⟨rfl, B.exec, B.bytes, hml, findClass_of_methodNamed B.named, hts, hK, rfl, fun q h => Or.inr h, hNW⟩ ⟨hT0, hTZ, htr⟩ hNC (vx_table (x := y) B (hts _ (by rw [hw]; exact List.mem_cons_self)))
    (by
      intro r w pc lv k n hp hk hn hd H locs ls hP1 hD1 hS1 hl1
      show W p l e (headSpec wy rm).room s m as.toArray below meth c H locs k n (MQ below (va_Qi post (kB D ws s.heap.size) (va_A ws s.heap.size)) as.toArray s mc ms (va_A ws s.heap.size)) (F0 m pc ls [.int r])
      have hq : ∀ t : State, t.heap = H → s.WarmedH t.vm → va_Qi post (kB D ws s.heap.size) (va_A ws s.heap.size) as.toArray s (.returned (some (.int r))) t := fun t ht hW => ⟨⟨r, w, rfl, hp, by rw [ht]; exact hP1, hD1⟩, va_S.F hS1 ht⟩
      refine W.widen hk hn ?_
      exact W.iret (v := r) B.exec B.bytes B.returns hq hS1.2.2 hd)
  rw [lg_entry_eq]
  exact K s.heap [] _ hP (hD0.self (sz := s.heap.size)) va_S.rf (lv_entry as hl)
section KCatch
variable {X : XT} {cc : ByteArray} {own : String} {Ts : List Cond} {rm : Room} {tys : List (ClassId × FieldType)} {nL k n pc : Nat} {ws : va_W} {lv : List (Nat × Value)}
/-- caught by the row x of this method's table -/
theorem k_catch (C : Cx X cc own Ts rm tys nL) {hh : List (Nat × Nat × Nat × Nat)} {E name : String} (tb : (kxC X).exceptionTable.toList = tableOf hh) (pre : List ExceptionTableEntry) (x : ExceptionTableEntry) (suf : List ExceptionTableEntry) (hsplit : tableOf hh = pre ++ x :: suf) (hpass : ∀ z ∈ pre, covers z pc = false ∨ (z.catchType ≠ 0 ∧ ∃ nm : String, Cond.classLink own z.catchType nm ∈ Ts ∧ va_Nc E nm (kxS X))) (hx : covers x pc = true) (h0 : x.catchType ≠ 0) (hlink : Cond.classLink own x.catchType name ∈ Ts) (hcast : va_Nw (.castable E name) (kxS X))
    (K : ∀ q, Kw X k n ws x.handlerPc lv [.ref q]) : Kt X k n ws pc lv E := fun H locs ls rest q ce hP hD hS hl hc hv hcl => vx_catch C.hown pre x suf (tb.trans hsplit) (fun z hz => (hpass z hz).elim Or.inl (fun h => Or.inr ⟨h.1, h.2.choose, C.hts _ h.2.choose_spec.1, h.2.choose_spec.2⟩)) hx h0 (C.hts _ hlink) (va_Nw.use rfl hcast) hc hv hcl (K q H locs ls hP hD hS hl)
variable {st0 rest : List Value} {y : MethodName} {wy wy' : List Cond} {rmc : Room} {bytes : ByteArray} {maxL index ar : Nat} {ret : Option FieldType} {As : List Value} {mc ms : Nat} {hh : List (Nat × Nat × Nat × Nat)}
theorem k_callSW (C : Cx X cc own Ts rm tys nL) (TX : Tx X) (NC : kNC (kxS X)) {post : Int32 → va_W → Prop} (M : CwI (kxL X) (kxD X) tys y wy rmc As ws post mc ms) (hT : GoodIn Ts (va_wsS own index y wy)) (hw : wy = Cond.codeWith y bytes maxL ret hh :: wy') (hrc : rmc.cells = mc) (hrs : rmc.slots = ms) (hd1 : y.cls ≠ "java/lang/invoke/MethodHandle" ∧ y.cls ≠ "java/lang/invoke/VarHandle" ∧ (parseMethodDescriptor y.desc).map (fun d => d.parameters.length) = some ar) (hR : rmc.frames + 1 ≤ rm.frames ∧ 8 + (maxL + 11) + rmc.locals ≤ rm.locals) (hn : As.length = ar) (hst : st0 = As.reverse ++ rest) (hroom : (rest.map fun v => v.category).sum ≤ 8) (hd : decode cc pc = .ok (.invokestatic index, 3)) (hk : k + mc ≤ rm.cells) (hs : n + ms ≤ rm.slots)
    (K : ∀ (r : Int32) (w : va_W), post r w → Kw X (k + mc) (n + ms) w (pc + 3) lv (.int r :: rest)) : Kw X k n ws pc lv st0 := by
  intro H locs ls hP hD hS hl
  have hF := kFree hD hS C.hA
  exact va_calli (vx_runSW (As := As) (rest := rest) ⟨C.hx, C.hb, C.hml, C.hown, C.hts⟩ (M H.size) (vx_cwSW ar C.hts hT hw hrc hrs hd1 (by rw [C.hR]; exact hR)) ⟨kBlindY _ _ _ _ _, fun U hU hW => ⟨rfl, by rw [hU], by rw [hU]; exact hP, va_K.moved hW.alike C.hK, kAll hD, C.hN.warm hW, TX.1.warm hW, by rw [hU]; exact kTZ.moved hW.alike ((TX.2.1.kept hS.2.1).narrow hF), kNC.moved hW.alike NC⟩⟩ rfl hn hl.1 hst (lv_room hroom) hd ⟨by rw [C.hR]; exact hk, by rw [C.hR]; exact hs⟩) hS (fun q _ h => hF q h) hF (fun r w t H1 locs1 ht hvm hp hB hz1 hk1 hS1 => K r w hp H1 locs1 ls (by rw [← ht]; exact hB.1) ⟨hB.2.1, fun j q h => hF _ (hB.2.2 j q h)⟩ hS1 hl)
end KCatch
/-- a law's own method beside another world -/
theorem cwI_frR {l : Launch} {D : va_G} {tys : List (ClassId × FieldType)} {y : MethodName} {wy : List Cond} {rm : Room} {as : List Value} {a9 b9 : va_W} {post : Int32 → va_W → Prop} {mc ms : Nat} (M : CwI l D tys y wy rm as b9 post mc ms) : CwI l D tys y wy rm as (a9 ++ b9) (fun r w => ∃ w0, post r w0 ∧ w = a9 ++ w0) mc ms := by
  intro sz p e h1 h2 h3 s m args below hf ha hP hK
  obtain ⟨q0, q1, qP, qK, qD, qN, qT, qZ, qC⟩ := hP
  subst q1
  obtain ⟨n, o, b1, b2, b3, ⟨⟨⟨r, u, ho, hp, hB1, hB2⟩, hF⟩, L, hL1, hL2⟩⟩ := M s.heap.size p e h1 h2 h3 s m args below hf ha ⟨q0, rfl, fr_P2 qP, qK, fr_D2 qD, qN, qT, qZ.narrow fr_A2, qC⟩ trivial
  obtain ⟨e1, e2, e3⟩ := fr_outR qP qD hF hB1 hB2
  exact ⟨n, o, b1, b2, b3, ⟨⟨⟨r, _, ho, ⟨u, hp, rfl⟩, e1, e2⟩, e3⟩, L, hL1, fun q hq => fr_A2 _ (hL2 q hq)⟩⟩
/-- the law's two rows for answers -/
def wO (oa od : Nat) (cJ cD : ClassId) (ov : Nat → Int64) (dv : Nat → UInt64) : va_W := [(oa, .inl (cJ, 1, .inr (.inl ov))), (od, .inl (cD, 1, .inr (.inr (.inr (.inl dv)))))]
