/-! ===== throws: methods that return or throw ===== -/
abbrev eIA : String := "java/lang/IllegalArgumentException"
abbrev eIS : String := "java/lang/IllegalStateException"
abbrev eIB : String := "java/lang/IndexOutOfBoundsException"
abbrev eNm : List String := ["java/lang/RuntimeException", "java/lang/Exception"]
/-- the words of a throw that don't ride in a method's own list -/
def kBW : List Cond := [.declares (Bundle.initS "java/lang/RuntimeException"), .declares (Bundle.initS "java/lang/Exception"), .declares (Bundle.initS "java/lang/Throwable"), .castable eIA eIA, .castable eIS eIS, .castable eIB eIB]
theorem kBW_kind : ∀ w ∈ kBW, (∃ x, w = .declares x) ∨ (∃ a b, w = .castable a b) := by
  intro w hw
  simp only [kBW, List.mem_cons, List.not_mem_nil, or_false] at hw
  rcases hw with rfl | rfl | rfl | rfl | rfl | rfl
  · exact Or.inl ⟨_, rfl⟩
  · exact Or.inl ⟨_, rfl⟩
  · exact Or.inl ⟨_, rfl⟩
  · exact Or.inr ⟨_, _, rfl⟩
  · exact Or.inr ⟨_, _, rfl⟩
  · exact Or.inr ⟨_, _, rfl⟩
def kStr : List (Nat × String) := [(155, "nothing is counted there"), (158, "there is no hull"), (164, "that is no corner"), (166, "there is no such place"), (171, "a coordinate is out of reach"), (37, "a point is at that place"), (47, "there are 24 points"), (66, "all points lie in a plane")]
/-- what a throw takes from the tables -/
def kT0 (U : State) : Prop := (∀ w ∈ kBW, va_Nw w U) ∧ (∀ q ∈ kStr, ∃ sa, vk_R RX3 q.1 q.2 sa U)
theorem kT0.warm {s U : State} (hW : s.WarmedH U.vm) (h : kT0 s) : kT0 U := by
  refine ⟨?_, ?_⟩
  · intro w hw
    rcases kBW_kind w hw with ⟨x, rfl⟩ | ⟨a, b, rfl⟩
    · exact va_Nw.warmD hW (h.1 _ hw)
    · exact va_Nw.warmC hW (h.1 _ hw)
  · intro q hq
    obtain ⟨sa, ha⟩ := h.2 q hq
    exact ⟨sa, vk_R.warm hW ha⟩
theorem kT0.same {s U : State} (e : s.vm = U.vm) (h : kT0 s) : kT0 U := by
  refine ⟨?_, ?_⟩
  · intro w hw
    rcases kBW_kind w hw with ⟨x, rfl⟩ | ⟨a, b, rfl⟩
    · exact va_Nw.same rfl e (h.1 _ hw)
    · exact va_Nw.same rfl e (h.1 _ hw)
  · intro q hq
    obtain ⟨sa, ha⟩ := h.2 q hq
    exact ⟨sa, vk_R.same e.symm ha⟩
/-- Throwable's two statics -/
def kTZ (A : Nat → Prop) (U : State) (H : Heap) : Prop := vx_Zq Bundle.tN "UNASSIGNED_STACK" Bundle.steD A U H ∧ vx_Zq Bundle.tN "SUPPRESSED_SENTINEL" Bundle.listD A U H
theorem kTZ.moved {A : Nat → Prop} {u U : State} {H : Heap} (hvm : u.vm.Alike U.vm) (h : kTZ A u H) : kTZ A U H := ⟨vx_Zq.moved hvm h.1, vx_Zq.moved hvm h.2⟩
theorem kTZ.kept {A : Nat → Prop} {U : State} {H H1 : Heap} (h : kTZ A U H) (hq : ∀ a : Nat, a < H.size → ¬ A a → H1[a]? = H[a]?) : kTZ A U H1 := ⟨vx_Zq.kept h.1 hq, vx_Zq.kept h.2 hq⟩
theorem kTZ.narrow {A B : Nat → Prop} {U : State} {H : Heap} (h : kTZ A U H) (hAB : ∀ q, B q → A q) : kTZ B U H := ⟨vx_Zq.narrow h.1 hAB, vx_Zq.narrow h.2 hAB⟩
abbrev kPx (D : va_G) (tys : List (ClassId × FieldType)) (as : List Value) (ws : va_W) (sz : Nat) : Array Value → State → Prop := va_Pc as (fun U => U.heap.size = sz ∧ va_P D vwCl ws U.heap ∧ va_K D vwCl tys U ∧ va_D (fun _ => True) ws ∧ kNWs U ∧ kT0 U ∧ kTZ (va_A ws sz) U U.heap)
theorem kBlindX (D : va_G) (tys : List (ClassId × FieldType)) (as : List Value) (ws : va_W) (sz : Nat) : FrameBlind (kPx D tys as ws sz) := fun a U g mk q => by
  obtain ⟨q0, q1, qP, qK, qD, qN, qT, qZ⟩ := q
  exact ⟨q0, q1, qP, va_K.moved (u := U) (U := U.calling g mk a) (Vm.Alike.refl U.vm) qK, qD, kNWs.same (s := U) (U := U.calling g mk a) rfl qN, kT0.same (s := U) (U := U.calling g mk a) rfl qT, kTZ.moved (u := U) (U := U.calling g mk a) (Vm.Alike.refl U.vm) qZ⟩
abbrev kXC (D : va_G) (ws : va_W) (sz : Nat) (xp : String → va_W → Prop) : String → State → State → Prop := vx_X (fun _ : va_W => True) (fun E w t => xp E w ∧ va_P D vwCl w t.heap ∧ va_D (va_A ws sz) w) (va_A ws sz)
/-- q, of class E, thrown over this method's frame -/
def Kt (X : XT) (k n : Nat) (ws : va_W) (pc : Nat) (lv : List (Nat × Value)) (E : String) : Prop :=
  ∀ (H : Heap) (locs : List Loc) (ls : Array Slot) (rest : List Value) (q : Addr) (ce : Cell), va_P (kxD X) vwCl ws H → va_D (kxF X) ws → va_S (kxF X) (kxO X) H locs → lv_has ls (kxN X) lv → H[q]? = some ce → ce.vm = .none → (kxS X).vm.findClass E = some ce.cls → vx_W (kxP X) (kxL X) (kxE X) (kxR X) (kxS X) (kxM X) (kxA X) (kxB X) (kxH X) (kxC X) H locs k n (kxQ X) (F0 (kxM X) pc ls rest) q
/-- what a body that may throw stands on, beside Cx -/
def Tx (X : XT) : Prop := kT0 (kxS X) ∧ kTZ (kxF X) (kxS X) (kxO X) ∧ (kxL X).stackTraces = false
/-- the words of 'throw new E("..")' in a method's list -/
def kThr (own : String) (Ts : List Cond) (E : String) (ik ic : Nat) : Prop := Bundle.fit E = true ∧ Cond.classLink own ik E ∈ Ts ∧ Cond.initialized E ∈ Ts ∧ (∀ w ∈ (vx_atS own ic E eNm).filter goodWord, w ∈ Ts) ∧ (∀ w ∈ (vx_atS own ic E eNm).filter (fun w => !goodWord w), w ∈ kBW) ∧ (∀ w ∈ Cond.classLink own ik E :: Cond.initialized E :: vx_atS own ic E eNm, vx_ot w = true)
theorem eNm_fit : ∀ n ∈ eNm, Bundle.fit n = true := by decide +kernel
def CxI (l : Launch) (D : va_G) (tys : List (ClassId × FieldType)) (y : MethodName) (wy : List Cond) (rm : Room) (as : List Value) (ws : va_W) (post : Int32 → va_W → Prop) (xp : String → va_W → Prop) (mc ms : Nat) : Prop := ∀ sz : Nat, vx_Met l y wy rm (kPx D tys as ws sz) (va_Qi post (kB D ws sz) (va_A ws sz)) (kXC D ws sz xp) mc ms (va_A ws sz)
theorem cxI_of {l : Launch} {D : va_G} {tys : List (ClassId × FieldType)} {y : MethodName} {wy wy' : List Cond} {rm : Room} {as : List Value} {ws : va_W} {post : Int32 → va_W → Prop} {xp : String → va_W → Prop} {mc ms : Nat} {cc : ByteArray} {maxL : Nat} (htr : l.stackTraces = false) (hy : plainName y.cls = true) (hw : wy = Cond.code y cc maxL (some .int) :: wy') (hl : (lg_sl as).length ≤ maxL)
    (body : ∀ X : XT, kxL X = l → kxD X = D → Cx X cc y.cls wy rm tys maxL → Tx X → (∀ (r : Int32) (w : va_W) (pc : Nat) (lv : List (Nat × Value)) (k n : Nat), post r w → k ≤ mc → n ≤ ms → decode cc pc = .ok (.ireturn, 1) → Kw X k n w pc lv [.int r]) → (∀ (E : String) (w : va_W) (pc : Nat) (lv : List (Nat × Value)) (k n : Nat), xp E w → k ≤ mc → n ≤ ms → Kt X k n w pc lv E) →
      (∀ (E txt : String) (ik is ic : Nat) (w : va_W) (pc : Nat) (lv : List (Nat × Value)) (st : List Value) (k n : Nat), xp E w → kThr y.cls wy E ik ic → (is, txt) ∈ kStr → y.cls = RX3 → decode cc pc = .ok (.new ik, 3) → decode cc (pc + 3) = .ok (.dup, 1) → decode cc (pc + 4) = .ok (.ldc is, 2) → decode cc (pc + 6) = .ok (.invokespecial ic, 3) → decode cc (pc + 9) = .ok (.athrow, 1) → 5 < rm.frames → (st.map fun v => v.category).sum + 82 ≤ rm.locals → k + 1 ≤ rm.cells → n + 6 ≤ rm.slots → k + 1 ≤ mc → n + 6 ≤ ms → Kw X k n w pc lv st) → Kw X 0 0 ws 0 (lv_args 0 as) []) : CxI l D tys y wy rm as ws post xp mc ms := by
  intro sz
  refine vx_ofW (cc := cc) (maxL := maxL) (ret := some .int) hy hw ?_
  intro p e s m args below meth c s₁ B hml ht hv
  obtain ⟨rfl, hsz, hP, hK, hD0, hNW, hT0, hTZ⟩ := hv
  subst hsz
  have hlocks := B.notSynchronized
  have hts := atoms_spec (ws := wy) B.pre
  have hown : s.vm.findClass y.cls = some m.cls := findClass_of_methodNamed B.named
  have K := body (p, l, e, (headSpec wy rm).room, s, m, as.toArray, below, meth, c, vx_MQ below (va_Qi post (kB D ws s.heap.size) (va_A ws s.heap.size)) (kXC D ws s.heap.size xp) as.toArray s mc ms (va_A ws s.heap.size), D, va_A ws s.heap.size, s.heap, maxL) rfl rfl ⟨rfl, B.exec, B.bytes, hml, hown, hts, hK, rfl, fun q h => Or.inr h, hNW⟩ ⟨hT0, hTZ, htr⟩
    (by
      intro r w pc lv k n hp hk hn hd H locs ls hP1 hD1 hS1 hl1
      show W p l e (headSpec wy rm).room s m as.toArray below meth c H locs k n (vx_MQ below (va_Qi post (kB D ws s.heap.size) (va_A ws s.heap.size)) (kXC D ws s.heap.size xp) as.toArray s mc ms (va_A ws s.heap.size)) (F0 m pc ls [.int r])
      have hq : ∀ t : State, t.heap = H → s.WarmedH t.vm → va_Qi post (kB D ws s.heap.size) (va_A ws s.heap.size) as.toArray s (.returned (some (.int r))) t := fun t ht hW => ⟨⟨r, w, rfl, hp, by rw [ht]; exact hP1, hD1⟩, va_S.F hS1 ht⟩
      refine W.widen hk hn (vx_ret ?_)
      exact W.iret (v := r) B.exec B.bytes B.returns hq hS1.2.2 hd)
    (by
      intro E w pc lv k n hp hk hn H locs ls rest q ce hP1 hD1 hS1 hl1 hc hv hcl
      show vx_W p l e (headSpec wy rm).room s m as.toArray below meth c H locs k n (vx_MQ below (va_Qi post (kB D ws s.heap.size) (va_A ws s.heap.size)) (kXC D ws s.heap.size xp) as.toArray s mc ms (va_A ws s.heap.size)) (F0 m pc ls rest) q
      exact vx_out (fun x hx => absurd hx (fun hx => ht x hx)) hlocks hc hv hcl (fun t ht2 _ => ⟨w, trivial, ⟨hp, by rw [ht2]; exact hP1, hD1⟩, va_S.F hS1 ht2⟩) hS1.2.2 hk hn)
    (by
      intro E txt ik is ic w pc lv st k n hp hT hS0 hy3 d0 d3 d4 d6 d9 hf hlo hkc hns hmc hms H locs ls hP1 hD1 hS1 hl1
      show W p l e (headSpec wy rm).room s m as.toArray below meth c H locs k n (vx_MQ below (va_Qi post (kB D ws s.heap.size) (va_A ws s.heap.size)) (kXC D ws s.heap.size xp) as.toArray s mc ms (va_A ws s.heap.size)) (F0 m pc ls st)
      obtain ⟨sa, hsa⟩ := hT0.2 _ hS0
      obtain ⟨t1, t2, t3, t4, t5, t6⟩ := hT
      have hat : ∀ w ∈ vx_atS y.cls ic E eNm, w.before as.toArray s = true := vx_hat (fun w h => hts w (t4 w h)) t5 (fun w h => va_Nw.use (by rcases kBW_kind w h with ⟨x, rfl⟩ | ⟨a, b, rfl⟩ <;> rfl) (hT0.1 w h))
      exact vx_throwS B.exec B.bytes htr (names := eNm) (cls := E) (text := txt) (ik := ik) (is := is) (ic := ic) (sa := sa) (A := va_A ws s.heap.size) hown t1 eNm_fit (hts _ t2) (hts _ t3) (by rw [hy3]; exact hsa) hat t6 hTZ.1 hTZ.2 hS1 (hl1.1.trans hml.symm) d0 d3 d4 d6 d9 (fun x hx => absurd hx (fun hx => ht x hx)) hf hlo hkc hns hlocks
        (fun t hal hz hk9 => ⟨w, trivial, ⟨hp, hP1.kept (fun j q hjq => hk9 q.1 (vx_lt hP1 hjq)), hD1⟩, Nat.le_trans hS1.1 hz, fun q h1 h2 => (hk9 q (Nat.lt_of_lt_of_le h1 hS1.1)).trans (hS1.2.1 q h1 h2)⟩) hS1.2.2 hmc hms)
  rw [lg_entry_eq]
  exact K s.heap [] _ hP (hD0.self (sz := s.heap.size)) va_S.rf (lv_entry as hl)
def CxL (l : Launch) (D : va_G) (tys : List (ClassId × FieldType)) (y : MethodName) (wy : List Cond) (rm : Room) (as : List Value) (ws : va_W) (post : Int64 → va_W → Prop) (xp : String → va_W → Prop) (mc ms : Nat) : Prop := ∀ sz : Nat, vx_Met l y wy rm (kPx D tys as ws sz) (va_Ql post (kB D ws sz) (va_A ws sz)) (kXC D ws sz xp) mc ms (va_A ws sz)
theorem cxL_of {l : Launch} {D : va_G} {tys : List (ClassId × FieldType)} {y : MethodName} {wy wy' : List Cond} {rm : Room} {as : List Value} {ws : va_W} {post : Int64 → va_W → Prop} {xp : String → va_W → Prop} {mc ms : Nat} {cc : ByteArray} {maxL : Nat} (htr : l.stackTraces = false) (hy : plainName y.cls = true) (hw : wy = Cond.code y cc maxL (some .long) :: wy') (hl : (lg_sl as).length ≤ maxL)
    (body : ∀ X : XT, kxL X = l → kxD X = D → Cx X cc y.cls wy rm tys maxL → Tx X → (∀ (r : Int64) (w : va_W) (pc : Nat) (lv : List (Nat × Value)) (k n : Nat), post r w → k ≤ mc → n ≤ ms → decode cc pc = .ok (.lreturn, 1) → Kw X k n w pc lv [.long r]) → (∀ (E : String) (w : va_W) (pc : Nat) (lv : List (Nat × Value)) (k n : Nat), xp E w → k ≤ mc → n ≤ ms → Kt X k n w pc lv E) →
      (∀ (E txt : String) (ik is ic : Nat) (w : va_W) (pc : Nat) (lv : List (Nat × Value)) (st : List Value) (k n : Nat), xp E w → kThr y.cls wy E ik ic → (is, txt) ∈ kStr → y.cls = RX3 → decode cc pc = .ok (.new ik, 3) → decode cc (pc + 3) = .ok (.dup, 1) → decode cc (pc + 4) = .ok (.ldc is, 2) → decode cc (pc + 6) = .ok (.invokespecial ic, 3) → decode cc (pc + 9) = .ok (.athrow, 1) → 5 < rm.frames → (st.map fun v => v.category).sum + 82 ≤ rm.locals → k + 1 ≤ rm.cells → n + 6 ≤ rm.slots → k + 1 ≤ mc → n + 6 ≤ ms → Kw X k n w pc lv st) → Kw X 0 0 ws 0 (lv_args 0 as) []) : CxL l D tys y wy rm as ws post xp mc ms := by
  intro sz
  refine vx_ofW (cc := cc) (maxL := maxL) (ret := some .long) hy hw ?_
  intro p e s m args below meth c s₁ B hml ht hv
  obtain ⟨rfl, hsz, hP, hK, hD0, hNW, hT0, hTZ⟩ := hv
  subst hsz
  have hlocks := B.notSynchronized
  have hts := atoms_spec (ws := wy) B.pre
  have hown : s.vm.findClass y.cls = some m.cls := findClass_of_methodNamed B.named
  have K := body (p, l, e, (headSpec wy rm).room, s, m, as.toArray, below, meth, c, vx_MQ below (va_Ql post (kB D ws s.heap.size) (va_A ws s.heap.size)) (kXC D ws s.heap.size xp) as.toArray s mc ms (va_A ws s.heap.size), D, va_A ws s.heap.size, s.heap, maxL) rfl rfl ⟨rfl, B.exec, B.bytes, hml, hown, hts, hK, rfl, fun q h => Or.inr h, hNW⟩ ⟨hT0, hTZ, htr⟩
    (by
      intro r w pc lv k n hp hk hn hd H locs ls hP1 hD1 hS1 hl1
      show W p l e (headSpec wy rm).room s m as.toArray below meth c H locs k n (vx_MQ below (va_Ql post (kB D ws s.heap.size) (va_A ws s.heap.size)) (kXC D ws s.heap.size xp) as.toArray s mc ms (va_A ws s.heap.size)) (F0 m pc ls [.long r])
      have hq : ∀ t : State, t.heap = H → s.WarmedH t.vm → va_Ql post (kB D ws s.heap.size) (va_A ws s.heap.size) as.toArray s (.returned (some (.long r))) t := fun t ht hW => ⟨⟨r, w, rfl, hp, by rw [ht]; exact hP1, hD1⟩, va_S.F hS1 ht⟩
      refine W.widen hk hn (vx_ret ?_)
      exact W.lret (v := r) B.exec B.bytes B.returns hq hS1.2.2 hd)
    (by
      intro E w pc lv k n hp hk hn H locs ls rest q ce hP1 hD1 hS1 hl1 hc hv hcl
      show vx_W p l e (headSpec wy rm).room s m as.toArray below meth c H locs k n (vx_MQ below (va_Ql post (kB D ws s.heap.size) (va_A ws s.heap.size)) (kXC D ws s.heap.size xp) as.toArray s mc ms (va_A ws s.heap.size)) (F0 m pc ls rest) q
      exact vx_out (fun x hx => absurd hx (fun hx => ht x hx)) hlocks hc hv hcl (fun t ht2 _ => ⟨w, trivial, ⟨hp, by rw [ht2]; exact hP1, hD1⟩, va_S.F hS1 ht2⟩) hS1.2.2 hk hn)
    (by
      intro E txt ik is ic w pc lv st k n hp hT hS0 hy3 d0 d3 d4 d6 d9 hf hlo hkc hns hmc hms H locs ls hP1 hD1 hS1 hl1
      show W p l e (headSpec wy rm).room s m as.toArray below meth c H locs k n (vx_MQ below (va_Ql post (kB D ws s.heap.size) (va_A ws s.heap.size)) (kXC D ws s.heap.size xp) as.toArray s mc ms (va_A ws s.heap.size)) (F0 m pc ls st)
      obtain ⟨sa, hsa⟩ := hT0.2 _ hS0
      obtain ⟨t1, t2, t3, t4, t5, t6⟩ := hT
      have hat : ∀ w ∈ vx_atS y.cls ic E eNm, w.before as.toArray s = true := vx_hat (fun w h => hts w (t4 w h)) t5 (fun w h => va_Nw.use (by rcases kBW_kind w h with ⟨x, rfl⟩ | ⟨a, b, rfl⟩ <;> rfl) (hT0.1 w h))
      exact vx_throwS B.exec B.bytes htr (names := eNm) (cls := E) (text := txt) (ik := ik) (is := is) (ic := ic) (sa := sa) (A := va_A ws s.heap.size) hown t1 eNm_fit (hts _ t2) (hts _ t3) (by rw [hy3]; exact hsa) hat t6 hTZ.1 hTZ.2 hS1 (hl1.1.trans hml.symm) d0 d3 d4 d6 d9 (fun x hx => absurd hx (fun hx => ht x hx)) hf hlo hkc hns hlocks
        (fun t hal hz hk9 => ⟨w, trivial, ⟨hp, hP1.kept (fun j q hjq => hk9 q.1 (vx_lt hP1 hjq)), hD1⟩, Nat.le_trans hS1.1 hz, fun q h1 h2 => (hk9 q (Nat.lt_of_lt_of_le h1 hS1.1)).trans (hS1.2.1 q h1 h2)⟩) hS1.2.2 hmc hms)
  rw [lg_entry_eq]
  exact K s.heap [] _ hP (hD0.self (sz := s.heap.size)) va_S.rf (lv_entry as hl)
def CxD (l : Launch) (D : va_G) (tys : List (ClassId × FieldType)) (y : MethodName) (wy : List Cond) (rm : Room) (as : List Value) (ws : va_W) (post : UInt64 → va_W → Prop) (xp : String → va_W → Prop) (mc ms : Nat) : Prop := ∀ sz : Nat, vx_Met l y wy rm (kPx D tys as ws sz) (va_Qd post (kB D ws sz) (va_A ws sz)) (kXC D ws sz xp) mc ms (va_A ws sz)
theorem cxD_of {l : Launch} {D : va_G} {tys : List (ClassId × FieldType)} {y : MethodName} {wy wy' : List Cond} {rm : Room} {as : List Value} {ws : va_W} {post : UInt64 → va_W → Prop} {xp : String → va_W → Prop} {mc ms : Nat} {cc : ByteArray} {maxL : Nat} (htr : l.stackTraces = false) (hy : plainName y.cls = true) (hw : wy = Cond.code y cc maxL (some .double) :: wy') (hl : (lg_sl as).length ≤ maxL)
    (body : ∀ X : XT, kxL X = l → kxD X = D → Cx X cc y.cls wy rm tys maxL → Tx X → (∀ (r : UInt64) (w : va_W) (pc : Nat) (lv : List (Nat × Value)) (k n : Nat), post r w → k ≤ mc → n ≤ ms → decode cc pc = .ok (.dreturn, 1) → Kw X k n w pc lv [.double r]) → (∀ (E : String) (w : va_W) (pc : Nat) (lv : List (Nat × Value)) (k n : Nat), xp E w → k ≤ mc → n ≤ ms → Kt X k n w pc lv E) →
      (∀ (E txt : String) (ik is ic : Nat) (w : va_W) (pc : Nat) (lv : List (Nat × Value)) (st : List Value) (k n : Nat), xp E w → kThr y.cls wy E ik ic → (is, txt) ∈ kStr → y.cls = RX3 → decode cc pc = .ok (.new ik, 3) → decode cc (pc + 3) = .ok (.dup, 1) → decode cc (pc + 4) = .ok (.ldc is, 2) → decode cc (pc + 6) = .ok (.invokespecial ic, 3) → decode cc (pc + 9) = .ok (.athrow, 1) → 5 < rm.frames → (st.map fun v => v.category).sum + 82 ≤ rm.locals → k + 1 ≤ rm.cells → n + 6 ≤ rm.slots → k + 1 ≤ mc → n + 6 ≤ ms → Kw X k n w pc lv st) → Kw X 0 0 ws 0 (lv_args 0 as) []) : CxD l D tys y wy rm as ws post xp mc ms := by
  intro sz
  refine vx_ofW (cc := cc) (maxL := maxL) (ret := some .double) hy hw ?_
  intro p e s m args below meth c s₁ B hml ht hv
  obtain ⟨rfl, hsz, hP, hK, hD0, hNW, hT0, hTZ⟩ := hv
  subst hsz
  have hlocks := B.notSynchronized
  have hts := atoms_spec (ws := wy) B.pre
  have hown : s.vm.findClass y.cls = some m.cls := findClass_of_methodNamed B.named
  have K := body (p, l, e, (headSpec wy rm).room, s, m, as.toArray, below, meth, c, vx_MQ below (va_Qd post (kB D ws s.heap.size) (va_A ws s.heap.size)) (kXC D ws s.heap.size xp) as.toArray s mc ms (va_A ws s.heap.size), D, va_A ws s.heap.size, s.heap, maxL) rfl rfl ⟨rfl, B.exec, B.bytes, hml, hown, hts, hK, rfl, fun q h => Or.inr h, hNW⟩ ⟨hT0, hTZ, htr⟩
    (by
      intro r w pc lv k n hp hk hn hd H locs ls hP1 hD1 hS1 hl1
      show W p l e (headSpec wy rm).room s m as.toArray below meth c H locs k n (vx_MQ below (va_Qd post (kB D ws s.heap.size) (va_A ws s.heap.size)) (kXC D ws s.heap.size xp) as.toArray s mc ms (va_A ws s.heap.size)) (F0 m pc ls [.double r])
      have hq : ∀ t : State, t.heap = H → s.WarmedH t.vm → va_Qd post (kB D ws s.heap.size) (va_A ws s.heap.size) as.toArray s (.returned (some (.double r))) t := fun t ht hW => ⟨⟨r, w, rfl, hp, by rw [ht]; exact hP1, hD1⟩, va_S.F hS1 ht⟩
      refine W.widen hk hn (vx_ret ?_)
      exact W.dret (v := r) B.exec B.bytes B.returns hq hS1.2.2 hd)
    (by
      intro E w pc lv k n hp hk hn H locs ls rest q ce hP1 hD1 hS1 hl1 hc hv hcl
      show vx_W p l e (headSpec wy rm).room s m as.toArray below meth c H locs k n (vx_MQ below (va_Qd post (kB D ws s.heap.size) (va_A ws s.heap.size)) (kXC D ws s.heap.size xp) as.toArray s mc ms (va_A ws s.heap.size)) (F0 m pc ls rest) q
      exact vx_out (fun x hx => absurd hx (fun hx => ht x hx)) hlocks hc hv hcl (fun t ht2 _ => ⟨w, trivial, ⟨hp, by rw [ht2]; exact hP1, hD1⟩, va_S.F hS1 ht2⟩) hS1.2.2 hk hn)
    (by
      intro E txt ik is ic w pc lv st k n hp hT hS0 hy3 d0 d3 d4 d6 d9 hf hlo hkc hns hmc hms H locs ls hP1 hD1 hS1 hl1
      show W p l e (headSpec wy rm).room s m as.toArray below meth c H locs k n (vx_MQ below (va_Qd post (kB D ws s.heap.size) (va_A ws s.heap.size)) (kXC D ws s.heap.size xp) as.toArray s mc ms (va_A ws s.heap.size)) (F0 m pc ls st)
      obtain ⟨sa, hsa⟩ := hT0.2 _ hS0
      obtain ⟨t1, t2, t3, t4, t5, t6⟩ := hT
      have hat : ∀ w ∈ vx_atS y.cls ic E eNm, w.before as.toArray s = true := vx_hat (fun w h => hts w (t4 w h)) t5 (fun w h => va_Nw.use (by rcases kBW_kind w h with ⟨x, rfl⟩ | ⟨a, b, rfl⟩ <;> rfl) (hT0.1 w h))
      exact vx_throwS B.exec B.bytes htr (names := eNm) (cls := E) (text := txt) (ik := ik) (is := is) (ic := ic) (sa := sa) (A := va_A ws s.heap.size) hown t1 eNm_fit (hts _ t2) (hts _ t3) (by rw [hy3]; exact hsa) hat t6 hTZ.1 hTZ.2 hS1 (hl1.1.trans hml.symm) d0 d3 d4 d6 d9 (fun x hx => absurd hx (fun hx => ht x hx)) hf hlo hkc hns hlocks
        (fun t hal hz hk9 => ⟨w, trivial, ⟨hp, hP1.kept (fun j q hjq => hk9 q.1 (vx_lt hP1 hjq)), hD1⟩, Nat.le_trans hS1.1 hz, fun q h1 h2 => (hk9 q (Nat.lt_of_lt_of_le h1 hS1.1)).trans (hS1.2.1 q h1 h2)⟩) hS1.2.2 hmc hms)
  rw [lg_entry_eq]
  exact K s.heap [] _ hP (hD0.self (sz := s.heap.size)) va_S.rf (lv_entry as hl)
def CxV (l : Launch) (D : va_G) (tys : List (ClassId × FieldType)) (y : MethodName) (wy : List Cond) (rm : Room) (as : List Value) (ws : va_W) (post : va_W → Prop) (xp : String → va_W → Prop) (mc ms : Nat) : Prop := ∀ sz : Nat, vx_Met l y wy rm (kPx D tys as ws sz) (va_Qv post (kB D ws sz) (va_A ws sz)) (kXC D ws sz xp) mc ms (va_A ws sz)
theorem cxV_of {l : Launch} {D : va_G} {tys : List (ClassId × FieldType)} {y : MethodName} {wy wy' : List Cond} {rm : Room} {as : List Value} {ws : va_W} {post : va_W → Prop} {xp : String → va_W → Prop} {mc ms : Nat} {cc : ByteArray} {maxL : Nat} (htr : l.stackTraces = false) (hy : plainName y.cls = true) (hw : wy = Cond.code y cc maxL (none) :: wy') (hl : (lg_sl as).length ≤ maxL)
    (body : ∀ X : XT, kxL X = l → kxD X = D → Cx X cc y.cls wy rm tys maxL → Tx X → (∀ (w : va_W) (pc : Nat) (lv : List (Nat × Value)) (k n : Nat), post w → k ≤ mc → n ≤ ms → decode cc pc = .ok (.return_, 1) → Kw X k n w pc lv []) → (∀ (E : String) (w : va_W) (pc : Nat) (lv : List (Nat × Value)) (k n : Nat), xp E w → k ≤ mc → n ≤ ms → Kt X k n w pc lv E) →
      (∀ (E txt : String) (ik is ic : Nat) (w : va_W) (pc : Nat) (lv : List (Nat × Value)) (st : List Value) (k n : Nat), xp E w → kThr y.cls wy E ik ic → (is, txt) ∈ kStr → y.cls = RX3 → decode cc pc = .ok (.new ik, 3) → decode cc (pc + 3) = .ok (.dup, 1) → decode cc (pc + 4) = .ok (.ldc is, 2) → decode cc (pc + 6) = .ok (.invokespecial ic, 3) → decode cc (pc + 9) = .ok (.athrow, 1) → 5 < rm.frames → (st.map fun v => v.category).sum + 82 ≤ rm.locals → k + 1 ≤ rm.cells → n + 6 ≤ rm.slots → k + 1 ≤ mc → n + 6 ≤ ms → Kw X k n w pc lv st) → Kw X 0 0 ws 0 (lv_args 0 as) []) : CxV l D tys y wy rm as ws post xp mc ms := by
  intro sz
  refine vx_ofW (cc := cc) (maxL := maxL) (ret := none) hy hw ?_
  intro p e s m args below meth c s₁ B hml ht hv
  obtain ⟨rfl, hsz, hP, hK, hD0, hNW, hT0, hTZ⟩ := hv
  subst hsz
  have hlocks := B.notSynchronized
  have hts := atoms_spec (ws := wy) B.pre
  have hown : s.vm.findClass y.cls = some m.cls := findClass_of_methodNamed B.named
  have K := body (p, l, e, (headSpec wy rm).room, s, m, as.toArray, below, meth, c, vx_MQ below (va_Qv post (kB D ws s.heap.size) (va_A ws s.heap.size)) (kXC D ws s.heap.size xp) as.toArray s mc ms (va_A ws s.heap.size), D, va_A ws s.heap.size, s.heap, maxL) rfl rfl ⟨rfl, B.exec, B.bytes, hml, hown, hts, hK, rfl, fun q h => Or.inr h, hNW⟩ ⟨hT0, hTZ, htr⟩
    (by
      intro w pc lv k n hp hk hn hd H locs ls hP1 hD1 hS1 hl1
      show W p l e (headSpec wy rm).room s m as.toArray below meth c H locs k n (vx_MQ below (va_Qv post (kB D ws s.heap.size) (va_A ws s.heap.size)) (kXC D ws s.heap.size xp) as.toArray s mc ms (va_A ws s.heap.size)) (F0 m pc ls [])
      have hq : ∀ t : State, t.heap = H → s.WarmedH t.vm → va_Qv post (kB D ws s.heap.size) (va_A ws s.heap.size) as.toArray s (.returned none) t := fun t ht hW => ⟨⟨w, rfl, hp, by rw [ht]; exact hP1, hD1⟩, va_S.F hS1 ht⟩
      refine W.widen hk hn (vx_ret ?_)
      exact W.vret B.exec B.bytes B.returns hq hS1.2.2 hd)
    (by
      intro E w pc lv k n hp hk hn H locs ls rest q ce hP1 hD1 hS1 hl1 hc hv hcl
      show vx_W p l e (headSpec wy rm).room s m as.toArray below meth c H locs k n (vx_MQ below (va_Qv post (kB D ws s.heap.size) (va_A ws s.heap.size)) (kXC D ws s.heap.size xp) as.toArray s mc ms (va_A ws s.heap.size)) (F0 m pc ls rest) q
      exact vx_out (fun x hx => absurd hx (fun hx => ht x hx)) hlocks hc hv hcl (fun t ht2 _ => ⟨w, trivial, ⟨hp, by rw [ht2]; exact hP1, hD1⟩, va_S.F hS1 ht2⟩) hS1.2.2 hk hn)
    (by
      intro E txt ik is ic w pc lv st k n hp hT hS0 hy3 d0 d3 d4 d6 d9 hf hlo hkc hns hmc hms H locs ls hP1 hD1 hS1 hl1
      show W p l e (headSpec wy rm).room s m as.toArray below meth c H locs k n (vx_MQ below (va_Qv post (kB D ws s.heap.size) (va_A ws s.heap.size)) (kXC D ws s.heap.size xp) as.toArray s mc ms (va_A ws s.heap.size)) (F0 m pc ls st)
      obtain ⟨sa, hsa⟩ := hT0.2 _ hS0
      obtain ⟨t1, t2, t3, t4, t5, t6⟩ := hT
      have hat : ∀ w ∈ vx_atS y.cls ic E eNm, w.before as.toArray s = true := vx_hat (fun w h => hts w (t4 w h)) t5 (fun w h => va_Nw.use (by rcases kBW_kind w h with ⟨x, rfl⟩ | ⟨a, b, rfl⟩ <;> rfl) (hT0.1 w h))
      exact vx_throwS B.exec B.bytes htr (names := eNm) (cls := E) (text := txt) (ik := ik) (is := is) (ic := ic) (sa := sa) (A := va_A ws s.heap.size) hown t1 eNm_fit (hts _ t2) (hts _ t3) (by rw [hy3]; exact hsa) hat t6 hTZ.1 hTZ.2 hS1 (hl1.1.trans hml.symm) d0 d3 d4 d6 d9 (fun x hx => absurd hx (fun hx => ht x hx)) hf hlo hkc hns hlocks
        (fun t hal hz hk9 => ⟨w, trivial, ⟨hp, hP1.kept (fun j q hjq => hk9 q.1 (vx_lt hP1 hjq)), hD1⟩, Nat.le_trans hS1.1 hz, fun q h1 h2 => (hk9 q (Nat.lt_of_lt_of_le h1 hS1.1)).trans (hS1.2.1 q h1 h2)⟩) hS1.2.2 hmc hms)
  rw [lg_entry_eq]
  exact K s.heap [] _ hP (hD0.self (sz := s.heap.size)) va_S.rf (lv_entry as hl)
section KCallsX
variable {X : XT} {cc : ByteArray} {own : String} {Ts : List Cond} {rm : Room} {tys : List (ClassId × FieldType)} {nL k n pc : Nat} {ws : va_W} {lv : List (Nat × Value)} {st0 rest : List Value}
variable {y : MethodName} {wy wy' : List Cond} {rmc : Room} {bytes : ByteArray} {maxL index ar : Nat} {ret : Option FieldType} {b : Addr} {As : List Value} {C0 : String} {T0 : u_T} {N0 ci : Nat} {fs : List Value} {xp : String → va_W → Prop} {mc ms : Nat}
theorem kx_callVI (C : Cx X cc own Ts rm tys nL) (TX : Tx X) {post : Int32 → va_W → Prop} (M : CxI (kxL X) (kxD X) tys y wy rmc (.ref b :: As) ws post xp mc ms) (hT : GoodIn Ts (wsV own index C0 y wy)) (hw : wy = Cond.code y bytes maxL ret :: wy') (hrc : rmc.cells = mc) (hrs : rmc.slots = ms) (hd1 : y.cls = C0 ∧ y.cls ≠ "java/lang/invoke/MethodHandle" ∧ y.cls ≠ "java/lang/invoke/VarHandle" ∧ (parseMethodDescriptor y.desc).map (fun d => d.parameters.length) = some ar) (hR : rmc.frames + 1 ≤ rm.frames ∧ 8 + (maxL + 11) + rmc.locals ≤ rm.locals) (q0 : Nat) (he : ws[q0]? = some (b, .inr (ci, fs))) (hc : vwCl[ci]? = some (C0, T0, N0)) (hn : As.length = ar) (hst : st0 = As.reverse ++ .ref b :: rest) (hroom : (rest.map fun v => v.category).sum ≤ 8) (hd : decode cc pc = .ok (.invokevirtual index, 3)) (hk : k + mc ≤ rm.cells) (hs : n + ms ≤ rm.slots)
    (KX : ∀ (E : String) (w : va_W), xp E w → Kt X (k + mc) (n + ms) w pc lv E) (K : ∀ (r : Int32) (w : va_W), post r w → Kw X (k + mc) (n + ms) w (pc + 3) lv (.int r :: rest)) : Kw X k n ws pc lv st0 := by
  intro H locs ls hP hD hS hl
  have hF := kFree hD hS C.hA
  exact vx_calli (vx_runV (As := As) (rest := rest) ⟨C.hx, C.hb, C.hml, C.hown, C.hts⟩ (M H.size) (cwV ar C.hts hT hw hrc hrs hd1 (by rw [C.hR]; exact hR)) ⟨kBlindX _ _ _ _ _, va_recv C.hK hP hc he, fun U hU hW => ⟨rfl, by rw [hU], by rw [hU]; exact hP, va_K.moved hW.alike C.hK, kAll hD, C.hN.warm hW, TX.1.warm hW, by rw [hU]; exact kTZ.moved hW.alike ((TX.2.1.kept hS.2.1).narrow hF)⟩⟩ rfl hn hl.1 hst (lv_room hroom) hd ⟨by rw [C.hR]; exact hk, by rw [C.hR]; exact hs⟩) hS (fun q _ h => hF q h) hF (fun q _ h => hF q h) (fun E ce q9 w t H1 locs1 ht hvm _ hB hz1 hk1 hS1 hce hcv hcl => KX E w hB.1 H1 locs1 ls rest q9 ce (by rw [← ht]; exact hB.2.1) ⟨hB.2.2.1, fun j q h => hF _ (hB.2.2.2 j q h)⟩ hS1 hl hce hcv hcl) (fun r w t H1 locs1 ht hvm hp hB hz1 hk1 hS1 => K r w hp H1 locs1 ls (by rw [← ht]; exact hB.1) ⟨hB.2.1, fun j q h => hF _ (hB.2.2 j q h)⟩ hS1 hl)
theorem kx_callVL (C : Cx X cc own Ts rm tys nL) (TX : Tx X) {post : Int64 → va_W → Prop} (M : CxL (kxL X) (kxD X) tys y wy rmc (.ref b :: As) ws post xp mc ms) (hT : GoodIn Ts (wsV own index C0 y wy)) (hw : wy = Cond.code y bytes maxL ret :: wy') (hrc : rmc.cells = mc) (hrs : rmc.slots = ms) (hd1 : y.cls = C0 ∧ y.cls ≠ "java/lang/invoke/MethodHandle" ∧ y.cls ≠ "java/lang/invoke/VarHandle" ∧ (parseMethodDescriptor y.desc).map (fun d => d.parameters.length) = some ar) (hR : rmc.frames + 1 ≤ rm.frames ∧ 8 + (maxL + 11) + rmc.locals ≤ rm.locals) (q0 : Nat) (he : ws[q0]? = some (b, .inr (ci, fs))) (hc : vwCl[ci]? = some (C0, T0, N0)) (hn : As.length = ar) (hst : st0 = As.reverse ++ .ref b :: rest) (hroom : (rest.map fun v => v.category).sum ≤ 8) (hd : decode cc pc = .ok (.invokevirtual index, 3)) (hk : k + mc ≤ rm.cells) (hs : n + ms ≤ rm.slots)
    (KX : ∀ (E : String) (w : va_W), xp E w → Kt X (k + mc) (n + ms) w pc lv E) (K : ∀ (r : Int64) (w : va_W), post r w → Kw X (k + mc) (n + ms) w (pc + 3) lv (.long r :: rest)) : Kw X k n ws pc lv st0 := by
  intro H locs ls hP hD hS hl
  have hF := kFree hD hS C.hA
  exact vx_calll (vx_runV (As := As) (rest := rest) ⟨C.hx, C.hb, C.hml, C.hown, C.hts⟩ (M H.size) (cwV ar C.hts hT hw hrc hrs hd1 (by rw [C.hR]; exact hR)) ⟨kBlindX _ _ _ _ _, va_recv C.hK hP hc he, fun U hU hW => ⟨rfl, by rw [hU], by rw [hU]; exact hP, va_K.moved hW.alike C.hK, kAll hD, C.hN.warm hW, TX.1.warm hW, by rw [hU]; exact kTZ.moved hW.alike ((TX.2.1.kept hS.2.1).narrow hF)⟩⟩ rfl hn hl.1 hst (lv_room hroom) hd ⟨by rw [C.hR]; exact hk, by rw [C.hR]; exact hs⟩) hS (fun q _ h => hF q h) hF (fun q _ h => hF q h) (fun E ce q9 w t H1 locs1 ht hvm _ hB hz1 hk1 hS1 hce hcv hcl => KX E w hB.1 H1 locs1 ls rest q9 ce (by rw [← ht]; exact hB.2.1) ⟨hB.2.2.1, fun j q h => hF _ (hB.2.2.2 j q h)⟩ hS1 hl hce hcv hcl) (fun r w t H1 locs1 ht hvm hp hB hz1 hk1 hS1 => K r w hp H1 locs1 ls (by rw [← ht]; exact hB.1) ⟨hB.2.1, fun j q h => hF _ (hB.2.2 j q h)⟩ hS1 hl)
theorem kx_callVD (C : Cx X cc own Ts rm tys nL) (TX : Tx X) {post : UInt64 → va_W → Prop} (M : CxD (kxL X) (kxD X) tys y wy rmc (.ref b :: As) ws post xp mc ms) (hT : GoodIn Ts (wsV own index C0 y wy)) (hw : wy = Cond.code y bytes maxL ret :: wy') (hrc : rmc.cells = mc) (hrs : rmc.slots = ms) (hd1 : y.cls = C0 ∧ y.cls ≠ "java/lang/invoke/MethodHandle" ∧ y.cls ≠ "java/lang/invoke/VarHandle" ∧ (parseMethodDescriptor y.desc).map (fun d => d.parameters.length) = some ar) (hR : rmc.frames + 1 ≤ rm.frames ∧ 8 + (maxL + 11) + rmc.locals ≤ rm.locals) (q0 : Nat) (he : ws[q0]? = some (b, .inr (ci, fs))) (hc : vwCl[ci]? = some (C0, T0, N0)) (hn : As.length = ar) (hst : st0 = As.reverse ++ .ref b :: rest) (hroom : (rest.map fun v => v.category).sum ≤ 8) (hd : decode cc pc = .ok (.invokevirtual index, 3)) (hk : k + mc ≤ rm.cells) (hs : n + ms ≤ rm.slots)
    (KX : ∀ (E : String) (w : va_W), xp E w → Kt X (k + mc) (n + ms) w pc lv E) (K : ∀ (r : UInt64) (w : va_W), post r w → Kw X (k + mc) (n + ms) w (pc + 3) lv (.double r :: rest)) : Kw X k n ws pc lv st0 := by
  intro H locs ls hP hD hS hl
  have hF := kFree hD hS C.hA
  exact vx_calld (vx_runV (As := As) (rest := rest) ⟨C.hx, C.hb, C.hml, C.hown, C.hts⟩ (M H.size) (cwV ar C.hts hT hw hrc hrs hd1 (by rw [C.hR]; exact hR)) ⟨kBlindX _ _ _ _ _, va_recv C.hK hP hc he, fun U hU hW => ⟨rfl, by rw [hU], by rw [hU]; exact hP, va_K.moved hW.alike C.hK, kAll hD, C.hN.warm hW, TX.1.warm hW, by rw [hU]; exact kTZ.moved hW.alike ((TX.2.1.kept hS.2.1).narrow hF)⟩⟩ rfl hn hl.1 hst (lv_room hroom) hd ⟨by rw [C.hR]; exact hk, by rw [C.hR]; exact hs⟩) hS (fun q _ h => hF q h) hF (fun q _ h => hF q h) (fun E ce q9 w t H1 locs1 ht hvm _ hB hz1 hk1 hS1 hce hcv hcl => KX E w hB.1 H1 locs1 ls rest q9 ce (by rw [← ht]; exact hB.2.1) ⟨hB.2.2.1, fun j q h => hF _ (hB.2.2.2 j q h)⟩ hS1 hl hce hcv hcl) (fun r w t H1 locs1 ht hvm hp hB hz1 hk1 hS1 => K r w hp H1 locs1 ls (by rw [← ht]; exact hB.1) ⟨hB.2.1, fun j q h => hF _ (hB.2.2 j q h)⟩ hS1 hl)
theorem kx_callVV (C : Cx X cc own Ts rm tys nL) (TX : Tx X) {post : va_W → Prop} (M : CxV (kxL X) (kxD X) tys y wy rmc (.ref b :: As) ws post xp mc ms) (hT : GoodIn Ts (wsV own index C0 y wy)) (hw : wy = Cond.code y bytes maxL ret :: wy') (hrc : rmc.cells = mc) (hrs : rmc.slots = ms) (hd1 : y.cls = C0 ∧ y.cls ≠ "java/lang/invoke/MethodHandle" ∧ y.cls ≠ "java/lang/invoke/VarHandle" ∧ (parseMethodDescriptor y.desc).map (fun d => d.parameters.length) = some ar) (hR : rmc.frames + 1 ≤ rm.frames ∧ 8 + (maxL + 11) + rmc.locals ≤ rm.locals) (q0 : Nat) (he : ws[q0]? = some (b, .inr (ci, fs))) (hc : vwCl[ci]? = some (C0, T0, N0)) (hn : As.length = ar) (hst : st0 = As.reverse ++ .ref b :: rest) (hroom : (rest.map fun v => v.category).sum ≤ 8) (hd : decode cc pc = .ok (.invokevirtual index, 3)) (hk : k + mc ≤ rm.cells) (hs : n + ms ≤ rm.slots)
    (KX : ∀ (E : String) (w : va_W), xp E w → Kt X (k + mc) (n + ms) w pc lv E) (K : ∀ (w : va_W), post w → Kw X (k + mc) (n + ms) w (pc + 3) lv rest) : Kw X k n ws pc lv st0 := by
  intro H locs ls hP hD hS hl
  have hF := kFree hD hS C.hA
  exact vx_callv (vx_runV (As := As) (rest := rest) ⟨C.hx, C.hb, C.hml, C.hown, C.hts⟩ (M H.size) (cwV ar C.hts hT hw hrc hrs hd1 (by rw [C.hR]; exact hR)) ⟨kBlindX _ _ _ _ _, va_recv C.hK hP hc he, fun U hU hW => ⟨rfl, by rw [hU], by rw [hU]; exact hP, va_K.moved hW.alike C.hK, kAll hD, C.hN.warm hW, TX.1.warm hW, by rw [hU]; exact kTZ.moved hW.alike ((TX.2.1.kept hS.2.1).narrow hF)⟩⟩ rfl hn hl.1 hst (lv_room hroom) hd ⟨by rw [C.hR]; exact hk, by rw [C.hR]; exact hs⟩) hS (fun q _ h => hF q h) hF (fun q _ h => hF q h) (fun E ce q9 w t H1 locs1 ht hvm _ hB hz1 hk1 hS1 hce hcv hcl => KX E w hB.1 H1 locs1 ls rest q9 ce (by rw [← ht]; exact hB.2.1) ⟨hB.2.2.1, fun j q h => hF _ (hB.2.2.2 j q h)⟩ hS1 hl hce hcv hcl) (fun w t H1 locs1 ht hvm hp hB hz1 hk1 hS1 => K w hp H1 locs1 ls (by rw [← ht]; exact hB.1) ⟨hB.2.1, fun j q h => hF _ (hB.2.2 j q h)⟩ hS1 hl)
theorem kx_callSI (C : Cx X cc own Ts rm tys nL) (TX : Tx X) {post : Int32 → va_W → Prop} (M : CxI (kxL X) (kxD X) tys y wy rmc As ws post xp mc ms) (hT : GoodIn Ts (va_wsS own index y wy)) (hw : wy = Cond.code y bytes maxL ret :: wy') (hrc : rmc.cells = mc) (hrs : rmc.slots = ms) (hd1 : y.cls ≠ "java/lang/invoke/MethodHandle" ∧ y.cls ≠ "java/lang/invoke/VarHandle" ∧ (parseMethodDescriptor y.desc).map (fun d => d.parameters.length) = some ar) (hR : rmc.frames + 1 ≤ rm.frames ∧ 8 + (maxL + 11) + rmc.locals ≤ rm.locals) (hn : As.length = ar) (hst : st0 = As.reverse ++ rest) (hroom : (rest.map fun v => v.category).sum ≤ 8) (hd : decode cc pc = .ok (.invokestatic index, 3)) (hk : k + mc ≤ rm.cells) (hs : n + ms ≤ rm.slots)
    (KX : ∀ (E : String) (w : va_W), xp E w → Kt X (k + mc) (n + ms) w pc lv E) (K : ∀ (r : Int32) (w : va_W), post r w → Kw X (k + mc) (n + ms) w (pc + 3) lv (.int r :: rest)) : Kw X k n ws pc lv st0 := by
  intro H locs ls hP hD hS hl
  have hF := kFree hD hS C.hA
  exact vx_calli (vx_runS (As := As) (rest := rest) ⟨C.hx, C.hb, C.hml, C.hown, C.hts⟩ (M H.size) (va_cwS ar C.hts hT hw hrc hrs hd1 (by rw [C.hR]; exact hR)) ⟨kBlindX _ _ _ _ _, fun U hU hW => ⟨rfl, by rw [hU], by rw [hU]; exact hP, va_K.moved hW.alike C.hK, kAll hD, C.hN.warm hW, TX.1.warm hW, by rw [hU]; exact kTZ.moved hW.alike ((TX.2.1.kept hS.2.1).narrow hF)⟩⟩ rfl hn hl.1 hst (lv_room hroom) hd ⟨by rw [C.hR]; exact hk, by rw [C.hR]; exact hs⟩) hS (fun q _ h => hF q h) hF (fun q _ h => hF q h) (fun E ce q9 w t H1 locs1 ht hvm _ hB hz1 hk1 hS1 hce hcv hcl => KX E w hB.1 H1 locs1 ls rest q9 ce (by rw [← ht]; exact hB.2.1) ⟨hB.2.2.1, fun j q h => hF _ (hB.2.2.2 j q h)⟩ hS1 hl hce hcv hcl) (fun r w t H1 locs1 ht hvm hp hB hz1 hk1 hS1 => K r w hp H1 locs1 ls (by rw [← ht]; exact hB.1) ⟨hB.2.1, fun j q h => hF _ (hB.2.2 j q h)⟩ hS1 hl)
theorem kx_callSL (C : Cx X cc own Ts rm tys nL) (TX : Tx X) {post : Int64 → va_W → Prop} (M : CxL (kxL X) (kxD X) tys y wy rmc As ws post xp mc ms) (hT : GoodIn Ts (va_wsS own index y wy)) (hw : wy = Cond.code y bytes maxL ret :: wy') (hrc : rmc.cells = mc) (hrs : rmc.slots = ms) (hd1 : y.cls ≠ "java/lang/invoke/MethodHandle" ∧ y.cls ≠ "java/lang/invoke/VarHandle" ∧ (parseMethodDescriptor y.desc).map (fun d => d.parameters.length) = some ar) (hR : rmc.frames + 1 ≤ rm.frames ∧ 8 + (maxL + 11) + rmc.locals ≤ rm.locals) (hn : As.length = ar) (hst : st0 = As.reverse ++ rest) (hroom : (rest.map fun v => v.category).sum ≤ 8) (hd : decode cc pc = .ok (.invokestatic index, 3)) (hk : k + mc ≤ rm.cells) (hs : n + ms ≤ rm.slots)
    (KX : ∀ (E : String) (w : va_W), xp E w → Kt X (k + mc) (n + ms) w pc lv E) (K : ∀ (r : Int64) (w : va_W), post r w → Kw X (k + mc) (n + ms) w (pc + 3) lv (.long r :: rest)) : Kw X k n ws pc lv st0 := by
  intro H locs ls hP hD hS hl
  have hF := kFree hD hS C.hA
  exact vx_calll (vx_runS (As := As) (rest := rest) ⟨C.hx, C.hb, C.hml, C.hown, C.hts⟩ (M H.size) (va_cwS ar C.hts hT hw hrc hrs hd1 (by rw [C.hR]; exact hR)) ⟨kBlindX _ _ _ _ _, fun U hU hW => ⟨rfl, by rw [hU], by rw [hU]; exact hP, va_K.moved hW.alike C.hK, kAll hD, C.hN.warm hW, TX.1.warm hW, by rw [hU]; exact kTZ.moved hW.alike ((TX.2.1.kept hS.2.1).narrow hF)⟩⟩ rfl hn hl.1 hst (lv_room hroom) hd ⟨by rw [C.hR]; exact hk, by rw [C.hR]; exact hs⟩) hS (fun q _ h => hF q h) hF (fun q _ h => hF q h) (fun E ce q9 w t H1 locs1 ht hvm _ hB hz1 hk1 hS1 hce hcv hcl => KX E w hB.1 H1 locs1 ls rest q9 ce (by rw [← ht]; exact hB.2.1) ⟨hB.2.2.1, fun j q h => hF _ (hB.2.2.2 j q h)⟩ hS1 hl hce hcv hcl) (fun r w t H1 locs1 ht hvm hp hB hz1 hk1 hS1 => K r w hp H1 locs1 ls (by rw [← ht]; exact hB.1) ⟨hB.2.1, fun j q h => hF _ (hB.2.2 j q h)⟩ hS1 hl)
theorem kx_callSD (C : Cx X cc own Ts rm tys nL) (TX : Tx X) {post : UInt64 → va_W → Prop} (M : CxD (kxL X) (kxD X) tys y wy rmc As ws post xp mc ms) (hT : GoodIn Ts (va_wsS own index y wy)) (hw : wy = Cond.code y bytes maxL ret :: wy') (hrc : rmc.cells = mc) (hrs : rmc.slots = ms) (hd1 : y.cls ≠ "java/lang/invoke/MethodHandle" ∧ y.cls ≠ "java/lang/invoke/VarHandle" ∧ (parseMethodDescriptor y.desc).map (fun d => d.parameters.length) = some ar) (hR : rmc.frames + 1 ≤ rm.frames ∧ 8 + (maxL + 11) + rmc.locals ≤ rm.locals) (hn : As.length = ar) (hst : st0 = As.reverse ++ rest) (hroom : (rest.map fun v => v.category).sum ≤ 8) (hd : decode cc pc = .ok (.invokestatic index, 3)) (hk : k + mc ≤ rm.cells) (hs : n + ms ≤ rm.slots)
    (KX : ∀ (E : String) (w : va_W), xp E w → Kt X (k + mc) (n + ms) w pc lv E) (K : ∀ (r : UInt64) (w : va_W), post r w → Kw X (k + mc) (n + ms) w (pc + 3) lv (.double r :: rest)) : Kw X k n ws pc lv st0 := by
  intro H locs ls hP hD hS hl
  have hF := kFree hD hS C.hA
  exact vx_calld (vx_runS (As := As) (rest := rest) ⟨C.hx, C.hb, C.hml, C.hown, C.hts⟩ (M H.size) (va_cwS ar C.hts hT hw hrc hrs hd1 (by rw [C.hR]; exact hR)) ⟨kBlindX _ _ _ _ _, fun U hU hW => ⟨rfl, by rw [hU], by rw [hU]; exact hP, va_K.moved hW.alike C.hK, kAll hD, C.hN.warm hW, TX.1.warm hW, by rw [hU]; exact kTZ.moved hW.alike ((TX.2.1.kept hS.2.1).narrow hF)⟩⟩ rfl hn hl.1 hst (lv_room hroom) hd ⟨by rw [C.hR]; exact hk, by rw [C.hR]; exact hs⟩) hS (fun q _ h => hF q h) hF (fun q _ h => hF q h) (fun E ce q9 w t H1 locs1 ht hvm _ hB hz1 hk1 hS1 hce hcv hcl => KX E w hB.1 H1 locs1 ls rest q9 ce (by rw [← ht]; exact hB.2.1) ⟨hB.2.2.1, fun j q h => hF _ (hB.2.2.2 j q h)⟩ hS1 hl hce hcv hcl) (fun r w t H1 locs1 ht hvm hp hB hz1 hk1 hS1 => K r w hp H1 locs1 ls (by rw [← ht]; exact hB.1) ⟨hB.2.1, fun j q h => hF _ (hB.2.2 j q h)⟩ hS1 hl)
theorem kx_callSV (C : Cx X cc own Ts rm tys nL) (TX : Tx X) {post : va_W → Prop} (M : CxV (kxL X) (kxD X) tys y wy rmc As ws post xp mc ms) (hT : GoodIn Ts (va_wsS own index y wy)) (hw : wy = Cond.code y bytes maxL ret :: wy') (hrc : rmc.cells = mc) (hrs : rmc.slots = ms) (hd1 : y.cls ≠ "java/lang/invoke/MethodHandle" ∧ y.cls ≠ "java/lang/invoke/VarHandle" ∧ (parseMethodDescriptor y.desc).map (fun d => d.parameters.length) = some ar) (hR : rmc.frames + 1 ≤ rm.frames ∧ 8 + (maxL + 11) + rmc.locals ≤ rm.locals) (hn : As.length = ar) (hst : st0 = As.reverse ++ rest) (hroom : (rest.map fun v => v.category).sum ≤ 8) (hd : decode cc pc = .ok (.invokestatic index, 3)) (hk : k + mc ≤ rm.cells) (hs : n + ms ≤ rm.slots)
    (KX : ∀ (E : String) (w : va_W), xp E w → Kt X (k + mc) (n + ms) w pc lv E) (K : ∀ (w : va_W), post w → Kw X (k + mc) (n + ms) w (pc + 3) lv rest) : Kw X k n ws pc lv st0 := by
  intro H locs ls hP hD hS hl
  have hF := kFree hD hS C.hA
  exact vx_callv (vx_runS (As := As) (rest := rest) ⟨C.hx, C.hb, C.hml, C.hown, C.hts⟩ (M H.size) (va_cwS ar C.hts hT hw hrc hrs hd1 (by rw [C.hR]; exact hR)) ⟨kBlindX _ _ _ _ _, fun U hU hW => ⟨rfl, by rw [hU], by rw [hU]; exact hP, va_K.moved hW.alike C.hK, kAll hD, C.hN.warm hW, TX.1.warm hW, by rw [hU]; exact kTZ.moved hW.alike ((TX.2.1.kept hS.2.1).narrow hF)⟩⟩ rfl hn hl.1 hst (lv_room hroom) hd ⟨by rw [C.hR]; exact hk, by rw [C.hR]; exact hs⟩) hS (fun q _ h => hF q h) hF (fun q _ h => hF q h) (fun E ce q9 w t H1 locs1 ht hvm _ hB hz1 hk1 hS1 hce hcv hcl => KX E w hB.1 H1 locs1 ls rest q9 ce (by rw [← ht]; exact hB.2.1) ⟨hB.2.2.1, fun j q h => hF _ (hB.2.2.2 j q h)⟩ hS1 hl hce hcv hcl) (fun w t H1 locs1 ht hvm hp hB hz1 hk1 hS1 => K w hp H1 locs1 ls (by rw [← ht]; exact hB.1) ⟨hB.2.1, fun j q h => hF _ (hB.2.2 j q h)⟩ hS1 hl)
end KCallsX
