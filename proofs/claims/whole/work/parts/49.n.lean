/-! ===== births ===== -/
theorem kn_Pm {D : va_G} {ws : va_W} {H : Heap} : va_P D vwCl ws H ↔ ∀ q ∈ ws, va_at D vwCl q H := by
  constructor
  · intro h q hq
    obtain ⟨k, hk⟩ := List.getElem?_of_mem hq
    exact h k q hk
  · intro h k q hk
    exact h q (List.mem_of_getElem? hk)
theorem kn_Dm {A : Nat → Prop} {ws : va_W} : va_D A ws ↔ (ws.map Prod.fst).Nodup ∧ ∀ q ∈ ws, A q.1 := by
  constructor
  · intro h
    refine ⟨?_, ?_⟩
    · rw [List.nodup_iff_pairwise_ne, List.pairwise_iff_getElem]
      intro i j hi hj hij e
      simp only [List.length_map] at hi hj
      simp only [List.getElem_map] at e
      have := h.1 i j ws[i] ws[j] (by simp [hi]) (by simp [hj]) e
      omega
    · intro q hq
      obtain ⟨k, hk⟩ := List.getElem?_of_mem hq
      exact h.2 k q hk
  · intro h
    refine ⟨?_, fun k q hk => h.2 q (List.mem_of_getElem? hk)⟩
    intro i j p q hi hj e
    have h1 := h.1
    rw [List.nodup_iff_pairwise_ne, List.pairwise_iff_getElem] at h1
    obtain ⟨a1, a2⟩ := List.getElem?_eq_some_iff.mp hi
    obtain ⟨b1, b2⟩ := List.getElem?_eq_some_iff.mp hj
    rcases Nat.lt_trichotomy i j with c | c | c
    · exact absurd (by rw [List.getElem_map, List.getElem_map, a2, b2]; exact e) (h1 i j (by simpa using a1) (by simpa using b1) c)
    · exact c
    · exact absurd (by rw [List.getElem_map, List.getElem_map, a2, b2]; exact e.symm) (h1 j i (by simpa using b1) (by simpa using a1) c)
theorem kn_Pp {D : va_G} {ws ws' : va_W} {H : Heap} (h : ws.Perm ws') (hP : va_P D vwCl ws H) : va_P D vwCl ws' H := kn_Pm.mpr (fun q hq => kn_Pm.mp hP q (h.mem_iff.mpr hq))
theorem kn_Dp {A : Nat → Prop} {ws ws' : va_W} (h : ws.Perm ws') (hD : va_D A ws) : va_D A ws' := kn_Dm.mpr ⟨(h.map Prod.fst).nodup_iff.mp (kn_Dm.mp hD).1, fun q hq => (kn_Dm.mp hD).2 q (h.mem_iff.mpr hq)⟩
theorem kn_arrV (cA : ClassId) (N : Nat) (f g : Nat → Value) (h : ∀ j, j < N → f j = g j) : arrV cA N f = arrV cA N g := by
  unfold arrV
  congr 2
  funext j
  exact h j.val j.isLt
section NRows
variable {X : XT} {cc : ByteArray} {own : String} {Ts : List Cond} {rm : Room} {tys : List (ClassId × FieldType)} {nL k n pc : Nat} {ws : va_W} {lv : List (Nat × Value)} {st : List Value}
theorem k_perm {ws' : va_W} (h : ws.Perm ws') (K : Kw X k n ws' pc lv st) : Kw X k n ws pc lv st := fun H locs ls hP hD hS hl => K H locs ls (kn_Pp h hP) (kn_Dp h hD) hS hl
/-- a row of references, other beyond its end -/
theorem k_ext {a : Nat} {cA : ClassId} {N : Nat} {f g : Nat → Option Nat} {ws' : va_W} (q0 : Nat) (ha : ws[q0]? = some (a, .inl (cA, N, .inr (.inr (.inr (.inr f)))))) (h : ∀ j, j < N → f j = g j) (hw : ws.set q0 (a, .inl (cA, N, .inr (.inr (.inr (.inr g))))) = ws') (K : Kw X k n ws' pc lv st) : Kw X k n ws pc lv st := by
  intro H locs ls hP hD hS hl
  refine K H locs ls (hw ▸ hP.set hD ha (H1 := H) ?_ (fun q _ => rfl)) (hw ▸ hD.set ha) hS hl
  have := hP q0 _ ha
  show H[a]? = some (vp_cell _ _)
  rw [vp_cell_q, ← kn_arrV cA N (fun j => va_rf (f j)) (fun j => va_rf (g j)) (fun j hj => by rw [h j hj])]
  exact this
theorem k_oinit (C : Cx X cc own Ts rm tys nL) {idx a : Nat} (hlink : Cond.methodLink own idx objectInit ∈ Ts) (hinst : Cond.instanceMethod objectInit ∈ Ts) (hcode : Cond.code objectInit ⟨#[0xb1]⟩ 1 none ∈ Ts) (hd : decode cc pc = .ok (.invokespecial idx, 3)) (hfr : 1 ≤ rm.frames) (hlo : (st.map fun v => v.category).sum + 12 ≤ rm.locals) (K : Kw X k n ws (pc + 3) lv st) : Kw X k n ws pc lv (.ref a :: st) := by
  intro H locs ls hP hD hS hl
  exact W.objInit C.hx C.hb C.hown (C.hts _ hlink) (C.hts _ hinst) (C.hts _ hcode) rfl (by rw [C.hml]; exact hl.1) rfl hd (by rw [C.hR]; exact hfr) (by rw [C.hR]; show 2 * 0 + _ + 12 ≤ _; omega) (K H locs ls hP hD hS hl)
theorem k_new (C : Cx X cc own Ts rm tys nL) {C0 : String} {T : u_T} {N ci index : Nat} (hin : ∀ w ∈ u_ws C0 T N, w ∈ Ts) (ty0 : Nat → FieldType) (hty : ∀ k, k < N → parseFieldDescriptor (T k).2.2.1 = some (ty0 k)) (hcl : Cond.classLink own index C0 ∈ Ts) (hinst : Cond.instantiable C0 N ∈ Ts) (hini : Cond.initialized C0 ∈ Ts) (hc : vwCl[ci]? = some (C0, T, N)) {fs : List Value} (hfs : ∀ j, j < N → defaultValue (ty0 j) = vp_V fs j) (hcells : k + 1 ≤ rm.cells) (hslots : n + N ≤ rm.slots) (hd : decode cc pc = .ok (.new index, 3))
    (K : ∀ q : Nat, Kw X (k + 1) (n + N) (ws ++ [(q, .inr (ci, fs))]) (pc + 3) lv (.ref q :: st)) : Kw X k n ws pc lv st := by
  intro H locs ls hP hD hS hl
  exact va_new C.hx C.hb C.hts hin ty0 hty C.hown (C.hts _ hcl) (C.hts _ hinst) (C.hts _ hini) C.hK hP hD hS C.hA hc hfs (by rw [C.hR]; exact hcells) (by rw [C.hR]; exact hslots) hd (fun q H1 hP1 hD1 hS1 => K q H1 locs ls hP1 hD1 hS1 hl)
theorem k_newaI (C : Cx X cc own Ts rm tys nL) {cA : ClassId} {N : Nat} (t0 : Nat) (ht : tys[t0]? = some (cA, .int)) (harr : Cond.arrayClass .int ∈ Ts) (hN : N < 65536) (hcells : k + 1 ≤ rm.cells) (hslots : n + N ≤ rm.slots) (hd : decode cc pc = .ok (.newarray .int, 2))
    (K : ∀ q : Nat, Kw X (k + 1) (n + N) (ws ++ [(q, .inl (cA, N, .inl (fun _ => 0)))]) (pc + 2) lv (.ref q :: st)) : Kw X k n ws pc lv (.int (nI N) :: st) := by
  intro H locs ls hP hD hS hl
  have hz : ¬ (nI N : Int32) < 0 := by
    intro h
    have := (nI_ltI (a := N) (b := 0) (by omega) (by decide)).mp h
    omega
  refine va_newa (atype := .int) (N' := N) (a0 := (N, .inl (fun _ => 0))) (ty := .int) C.hx C.hb (C.hts _ harr) rfl C.hK hP hD hS C.hA (fun _ => rfl) hz (nI_clamp (by omega)) (by show N * 4 ≤ 536870912; omega) (by rw [C.hR]; exact hcells) (by rw [C.hR]; exact hslots) hd (fun q cB H1 hK1 hP1 hD1 hS1 => ?_)
  have e1 : va_RA (kxS X) cB .int := (hK1.2 tys.length (cB, .int) (by simp)).2
  have e2 : va_RA (kxS X) cA .int := (C.hK.2 t0 _ ht).2
  have e : cB = cA := Option.some.inj (e1.symm.trans e2)
  subst e
  exact K q H1 locs ls hP1 hD1 hS1 hl
theorem k_newaJ (C : Cx X cc own Ts rm tys nL) {cA : ClassId} {N : Nat} (t0 : Nat) (ht : tys[t0]? = some (cA, .long)) (harr : Cond.arrayClass .long ∈ Ts) (hN : N < 65536) (hcells : k + 1 ≤ rm.cells) (hslots : n + N ≤ rm.slots) (hd : decode cc pc = .ok (.newarray .long, 2))
    (K : ∀ q : Nat, Kw X (k + 1) (n + N) (ws ++ [(q, .inl (cA, N, .inr (.inl (fun _ => 0))))]) (pc + 2) lv (.ref q :: st)) : Kw X k n ws pc lv (.int (nI N) :: st) := by
  intro H locs ls hP hD hS hl
  have hz : ¬ (nI N : Int32) < 0 := by
    intro h
    have := (nI_ltI (a := N) (b := 0) (by omega) (by decide)).mp h
    omega
  refine va_newa (atype := .long) (N' := N) (a0 := (N, .inr (.inl (fun _ => 0)))) (ty := .long) C.hx C.hb (C.hts _ harr) rfl C.hK hP hD hS C.hA (fun _ => rfl) hz (nI_clamp (by omega)) (by show N * 8 ≤ 536870912; omega) (by rw [C.hR]; exact hcells) (by rw [C.hR]; exact hslots) hd (fun q cB H1 hK1 hP1 hD1 hS1 => ?_)
  have e1 : va_RA (kxS X) cB .long := (hK1.2 tys.length (cB, .long) (by simp)).2
  have e2 : va_RA (kxS X) cA .long := (C.hK.2 t0 _ ht).2
  have e : cB = cA := Option.some.inj (e1.symm.trans e2)
  subst e
  exact K q H1 locs ls hP1 hD1 hS1 hl
theorem k_newaD (C : Cx X cc own Ts rm tys nL) {cA : ClassId} {N : Nat} (t0 : Nat) (ht : tys[t0]? = some (cA, .double)) (harr : Cond.arrayClass .double ∈ Ts) (hN : N < 65536) (hcells : k + 1 ≤ rm.cells) (hslots : n + N ≤ rm.slots) (hd : decode cc pc = .ok (.newarray .double, 2))
    (K : ∀ q : Nat, Kw X (k + 1) (n + N) (ws ++ [(q, .inl (cA, N, .inr (.inr (.inr (.inl (fun _ => FP.dconst0))))))]) (pc + 2) lv (.ref q :: st)) : Kw X k n ws pc lv (.int (nI N) :: st) := by
  intro H locs ls hP hD hS hl
  have hz : ¬ (nI N : Int32) < 0 := by
    intro h
    have := (nI_ltI (a := N) (b := 0) (by omega) (by decide)).mp h
    omega
  refine va_newa (atype := .double) (N' := N) (a0 := (N, .inr (.inr (.inr (.inl (fun _ => FP.dconst0)))))) (ty := .double) C.hx C.hb (C.hts _ harr) rfl C.hK hP hD hS C.hA (fun _ => rfl) hz (nI_clamp (by omega)) (by show N * 8 ≤ 536870912; omega) (by rw [C.hR]; exact hcells) (by rw [C.hR]; exact hslots) hd (fun q cB H1 hK1 hP1 hD1 hS1 => ?_)
  have e1 : va_RA (kxS X) cB .double := (hK1.2 tys.length (cB, .double) (by simp)).2
  have e2 : va_RA (kxS X) cA .double := (C.hK.2 t0 _ ht).2
  have e : cB = cA := Option.some.inj (e1.symm.trans e2)
  subst e
  exact K q H1 locs ls hP1 hD1 hS1 hl
theorem k_newaF (C : Cx X cc own Ts rm tys nL) (hAO : va_AO RX0 (kxS X)) {cA : ClassId} {N index : Nat} (t0 : Nat) (ht : tys[t0]? = some (cA, .object RX0)) (hcl : Cond.classLink own index RX0 ∈ Ts) (hN : N < 65536) (hcells : k + 1 ≤ rm.cells) (hslots : n + N ≤ rm.slots) (hd : decode cc pc = .ok (.anewarray index, 3))
    (K : ∀ q : Nat, Kw X (k + 1) (n + N) (ws ++ [(q, .inl (cA, N, .inr (.inr (.inr (.inr (fun _ => none))))))]) (pc + 3) lv (.ref q :: st)) : Kw X k n ws pc lv (.int (nI N) :: st) := by
  intro H locs ls hP hD hS hl
  have hz : ¬ (nI N : Int32) < 0 := by
    intro h
    have := (nI_ltI (a := N) (b := 0) (by omega) (by decide)).mp h
    omega
  refine va_newq (N' := N) (C := RX0) C.hx C.hb C.hown (C.hts _ hcl) hAO C.hK hP hD hS C.hA hz (nI_clamp (by omega)) (by omega) (by rw [C.hR]; exact hcells) (by rw [C.hR]; exact hslots) hd (fun q cB H1 hK1 hP1 hD1 hS1 => ?_)
  obtain ⟨_, _, _, _, _, e1⟩ : va_RA (kxS X) cB (.object RX0) := (hK1.2 tys.length (cB, .object RX0) (by simp)).2
  obtain ⟨_, _, _, _, _, e2⟩ : va_RA (kxS X) cA (.object RX0) := (C.hK.2 t0 _ ht).2
  have e : cB = cA := Option.some.inj (e1.symm.trans e2)
  subst e
  exact K q H1 locs ls hP1 hD1 hS1 hl
end NRows
abbrev kPn (D : va_G) (tys : List (ClassId × FieldType)) (as : List Value) (ws : va_W) (sz : Nat) : Array Value → State → Prop := va_Pc as (fun U => U.heap.size = sz ∧ va_P D vwCl ws U.heap ∧ va_K D vwCl tys U ∧ va_D (fun _ => True) ws ∧ kNWs U ∧ va_AO RX0 U)
theorem kBlindN (D : va_G) (tys : List (ClassId × FieldType)) (as : List Value) (ws : va_W) (sz : Nat) : FrameBlind (kPn D tys as ws sz) := fun a U g mk q => by
  obtain ⟨q0, q1, qP, qK, qD, qN, qA⟩ := q
  exact ⟨q0, q1, qP, va_K.moved (u := U) (U := U.calling g mk a) (Vm.Alike.refl U.vm) qK, qD, kNWs.same (s := U) (U := U.calling g mk a) rfl qN, va_AO.moved (u := U) (U := U.calling g mk a) (Vm.Alike.refl U.vm) qA⟩
def CnV (l : Launch) (D : va_G) (tys : List (ClassId × FieldType)) (y : MethodName) (wy : List Cond) (rm : Room) (as : List Value) (ws : va_W) (post : va_W → Prop) (mc ms : Nat) : Prop := ∀ sz : Nat, Met l y wy rm (kPn D tys as ws sz) (va_Qv post (kB D ws sz) (va_A ws sz)) mc ms (va_A ws sz)
theorem cnV_of {l : Launch} {D : va_G} {tys : List (ClassId × FieldType)} {y : MethodName} {wy wy' : List Cond} {rm : Room} {as : List Value} {ws : va_W} {post : va_W → Prop} {mc ms : Nat} {cc : ByteArray} {maxL : Nat} (hy : plainName y.cls = true) (hyn : y.name = "<init>") (hw : wy = Cond.code y cc maxL (none) :: wy') (hl : (lg_sl as).length ≤ maxL)
    (body : ∀ X : XT, kxL X = l → kxD X = D → Cx X cc y.cls wy rm tys maxL → va_AO RX0 (kxS X) → (kxH X).name = "<init>" → (∀ (w : va_W) (pc : Nat) (lv : List (Nat × Value)) (k n : Nat), post w → k ≤ mc → n ≤ ms → decode cc pc = .ok (.return_, 1) → Kw X k n w pc lv []) → Kw X 0 0 ws 0 (lv_args 0 as) []) : CnV l D tys y wy rm as ws post mc ms := by
  intro sz
  refine Met.ofW (cc := cc) (maxL := maxL) (ret := none) hy hw ?_
  intro p e s m args below meth c s₁ B hml hv
  obtain ⟨rfl, hsz, hP, hK, hD0, hNW, hAO⟩ := hv
  subst hsz
  have hin : meth.name = "<init>" := (name_of_methodNamed B.named B.method).1.trans hyn
  have K := body (p, l, e, (headSpec wy rm).room, s, m, as.toArray, below, meth, c, MQ below (va_Qv post (kB D ws s.heap.size) (va_A ws s.heap.size)) as.toArray s mc ms (va_A ws s.heap.size), D, va_A ws s.heap.size, s.heap, maxL) rfl rfl ⟨rfl, B.exec, B.bytes, hml, findClass_of_methodNamed B.named, atoms_spec (ws := wy) B.pre, hK, rfl, fun q h => Or.inr h, hNW⟩ hAO hin
    (by
      have hlocks := B.notSynchronized
      intro w pc lv k n hp hk hn hd H locs ls hP1 hD1 hS1 hl1
      show W p l e (headSpec wy rm).room s m as.toArray below meth c H locs k n (MQ below (va_Qv post (kB D ws s.heap.size) (va_A ws s.heap.size)) as.toArray s mc ms (va_A ws s.heap.size)) (F0 m pc ls [])
      have hq : ∀ t : State, t.heap = H → s.WarmedH t.vm → va_Qv post (kB D ws s.heap.size) (va_A ws s.heap.size) as.toArray s (.returned none) t := fun t ht hW => ⟨⟨w, rfl, hp, by rw [ht]; exact hP1, hD1⟩, va_S.F hS1 ht⟩
      refine W.widen hk hn ?_
      exact W.vret B.exec B.bytes B.returns hq hS1.2.2 hd)
  rw [lg_entry_eq]
  exact K s.heap [] _ hP (hD0.self (sz := s.heap.size)) va_S.rf (lv_entry as hl)
theorem cnV_frR {l : Launch} {D : va_G} {tys : List (ClassId × FieldType)} {y : MethodName} {wy : List Cond} {rm : Room} {as : List Value} {a9 b9 : va_W} {post : va_W → Prop} {mc ms : Nat} (M : CnV l D tys y wy rm as b9 post mc ms) : CnV l D tys y wy rm as (a9 ++ b9) (fun w => ∃ w0, post w0 ∧ w = a9 ++ w0) mc ms := by
  intro sz p e h1 h2 h3 s m args below hf ha hP hK
  obtain ⟨q0, q1, qP, qK, qD, qN, qA⟩ := hP
  subst q1
  obtain ⟨n, o, b1, b2, b3, ⟨⟨⟨u, ho, hp, hB1, hB2⟩, hF⟩, L, hL1, hL2⟩⟩ := M s.heap.size p e h1 h2 h3 s m args below hf ha ⟨q0, rfl, fr_P2 qP, qK, fr_D2 qD, qN, qA⟩ trivial
  obtain ⟨e1, e2, e3⟩ := fr_outR qP qD hF hB1 hB2
  exact ⟨n, o, b1, b2, b3, ⟨⟨⟨_, ho, ⟨u, hp, rfl⟩, e1, e2⟩, e3⟩, L, hL1, fun q hq => fr_A2 _ (hL2 q hq)⟩⟩
section NCalls
variable {X : XT} {cc : ByteArray} {own : String} {Ts : List Cond} {rm : Room} {tys : List (ClassId × FieldType)} {nL k n pc : Nat} {ws : va_W} {lv : List (Nat × Value)} {rest : List Value}
variable {y : MethodName} {wy wy' : List Cond} {rmc : Room} {bytes : ByteArray} {maxL index : Nat} {b : Addr} {host : String} {mc ms : Nat}
theorem k_callI (C : Cx X cc own Ts rm tys nL) (hAO : va_AO RX0 (kxS X)) {post : va_W → Prop} (M : CnV (kxL X) (kxD X) tys y wy rmc [.ref b] ws post mc ms) (hG : GoodIn Ts wy) (hw : wy = Cond.code y bytes maxL none :: wy') (hrc : rmc.cells = mc) (hrs : rmc.slots = ms) (hy : y.name = "<init>") (hi1 : Cond.initialized y.cls ∈ Ts) (hl1 : Cond.methodLink own index y ∈ Ts) (hi2 : Cond.instanceMethod y ∈ Ts) (hd1 : y.cls ≠ "java/lang/invoke/MethodHandle" ∧ y.cls ≠ "java/lang/invoke/VarHandle" ∧ (parseMethodDescriptor y.desc).map (fun d => d.parameters.length) = some 0) (hR : rmc.frames + 1 ≤ rm.frames ∧ 8 + (maxL + 11) + rmc.locals ≤ rm.locals) (hroom : (rest.map fun v => v.category).sum ≤ 8) (hd : decode cc pc = .ok (.invokespecial index, 3)) (hk : k + mc ≤ rm.cells) (hs : n + ms ≤ rm.slots)
    (K : ∀ (w : va_W), post w → Kw X (k + mc) (n + ms) w (pc + 3) lv rest) : Kw X k n ws pc lv (.ref b :: rest) := by
  intro H locs ls hP hD hS hl
  have hF := kFree hD hS C.hA
  exact va_callv (va_runI (As := []) (rest := rest) ⟨C.hx, C.hb, C.hml, C.hown, C.hts⟩ (M H.size) (cwI 0 C.hts hG hw hrc hrs (C.hts _ hi1) (C.hts _ hl1) (C.hts _ hi2) hy hd1 (by rw [C.hR]; exact hR)) ⟨kBlindN _ _ _ _ _, fun U hU hW => ⟨rfl, by rw [hU], by rw [hU]; exact hP, va_K.moved hW.alike C.hK, kAll hD, C.hN.warm hW, va_AO.moved hW.alike hAO⟩⟩ rfl rfl hl.1 rfl (lv_room hroom) hd ⟨by rw [C.hR]; exact hk, by rw [C.hR]; exact hs⟩) hS (fun q _ h => hF q h) hF (fun w t H1 locs1 ht hvm hp hB hz1 hk1 hS1 => K w hp H1 locs1 ls (by rw [← ht]; exact hB.1) ⟨hB.2.1, fun j q h => hF _ (hB.2.2 j q h)⟩ hS1 hl)
theorem k_callIN (C : Cx X cc own Ts rm tys nL) (hAO : va_AO RX0 (kxS X)) {post : va_W → Prop} (M : CnV (kxL X) (kxD X) tys y wy rmc [.ref b] ws post mc ms) (hG : GoodIn Ts wy) (hw : wy = Cond.code y bytes maxL none :: wy') (hrc : rmc.cells = mc) (hrs : rmc.slots = ms) (hy : y.name = "<init>") (hl1 : Cond.methodLinkNest own index y host ∈ kNW) (hi1 : Cond.initialized y.cls ∈ Ts) (hi2 : Cond.instanceMethod y ∈ Ts) (hd1 : y.cls ≠ "java/lang/invoke/MethodHandle" ∧ y.cls ≠ "java/lang/invoke/VarHandle" ∧ (parseMethodDescriptor y.desc).map (fun d => d.parameters.length) = some 0) (hR : rmc.frames + 1 ≤ rm.frames ∧ 8 + (maxL + 11) + rmc.locals ≤ rm.locals) (hroom : (rest.map fun v => v.category).sum ≤ 8) (hd : decode cc pc = .ok (.invokespecial index, 3)) (hk : k + mc ≤ rm.cells) (hs : n + ms ≤ rm.slots)
    (K : ∀ (w : va_W), post w → Kw X (k + mc) (n + ms) w (pc + 3) lv rest) : Kw X k n ws pc lv (.ref b :: rest) := by
  intro H locs ls hP hD hS hl
  have hF := kFree hD hS C.hA
  exact va_callv (va_runIN (As := []) (rest := rest) ⟨C.hx, C.hb, C.hml, C.hown, C.hts⟩ (M H.size) ⟨va_cnB 0 C.hts hG hw hrc hrs (C.hN _ hl1) (C.hts _ hi1) hd1 (by rw [C.hR]; exact hR), hy, C.hts _ hi2⟩ ⟨kBlindN _ _ _ _ _, fun U hU hW => ⟨rfl, by rw [hU], by rw [hU]; exact hP, va_K.moved hW.alike C.hK, kAll hD, C.hN.warm hW, va_AO.moved hW.alike hAO⟩⟩ rfl rfl hl.1 rfl (lv_room hroom) hd ⟨by rw [C.hR]; exact hk, by rw [C.hR]; exact hs⟩) hS (fun q _ h => hF q h) hF (fun w t H1 locs1 ht hvm hp hB hz1 hk1 hS1 => K w hp H1 locs1 ls (by rw [← ht]; exact hB.1) ⟨hB.2.1, fun j q h => hF _ (hB.2.2 j q h)⟩ hS1 hl)
end NCalls
