/-! ===== the frame rule for contracts ===== -/
theorem fr_P1 {D : va_G} {a b : va_W} {H : Heap} (h : va_P D vwCl (a ++ b) H) : va_P D vwCl a H := fun k q hk => h k q (by rw [List.getElem?_append_left (List.getElem?_eq_some_iff.mp hk).1]; exact hk)
theorem fr_P2 {D : va_G} {a b : va_W} {H : Heap} (h : va_P D vwCl (a ++ b) H) : va_P D vwCl b H := fun k q hk => h (a.length + k) q (by rw [List.getElem?_append_right (by omega), show a.length + k - a.length = k by omega]; exact hk)
theorem fr_D1 {A : Nat → Prop} {a b : va_W} (h : va_D A (a ++ b)) : va_D A a := ⟨fun i j p q hi hj e => h.1 i j p q (by rw [List.getElem?_append_left (List.getElem?_eq_some_iff.mp hi).1]; exact hi) (by rw [List.getElem?_append_left (List.getElem?_eq_some_iff.mp hj).1]; exact hj) e, fun k q hk => h.2 k q (by rw [List.getElem?_append_left (List.getElem?_eq_some_iff.mp hk).1]; exact hk)⟩
theorem fr_D2 {A : Nat → Prop} {a b : va_W} (h : va_D A (a ++ b)) : va_D A b := by
  refine ⟨fun i j p q hi hj e => ?_, fun k q hk => h.2 (a.length + k) q (by rw [List.getElem?_append_right (by omega), show a.length + k - a.length = k by omega]; exact hk)⟩
  have := h.1 (a.length + i) (a.length + j) p q (by rw [List.getElem?_append_right (by omega), show a.length + i - a.length = i by omega]; exact hi) (by rw [List.getElem?_append_right (by omega), show a.length + j - a.length = j by omega]; exact hj) e
  omega
theorem fr_X {A : Nat → Prop} {a b : va_W} (h : va_D A (a ++ b)) : ∀ (i j : Nat) (p q : Nat × va_E), a[i]? = some p → b[j]? = some q → p.1 ≠ q.1 := by
  intro i j p q hi hj e
  have h1 := (List.getElem?_eq_some_iff.mp hi).1
  have := h.1 i (a.length + j) p q (by rw [List.getElem?_append_left h1]; exact hi) (by rw [List.getElem?_append_right (by omega), show a.length + j - a.length = j by omega]; exact hj) e
  omega
/-- the other world's cells aren't the callee's -/
theorem fr_not {D : va_G} {a b : va_W} {H : Heap} (hP : va_P D vwCl b H) (hx : ∀ (i j : Nat) (p q : Nat × va_E), a[i]? = some p → b[j]? = some q → p.1 ≠ q.1) : ∀ (j : Nat) (q : Nat × va_E), b[j]? = some q → ¬ va_A a H.size q.1 := by
  intro j q hj h
  rcases h with ⟨k, e, h⟩ | h
  · exact hx k j _ q h hj rfl
  · exact absurd (vx_lt hP hj) (Nat.not_lt.mpr h)
theorem fr_kept {D : va_G} {a b : va_W} {st t : State} (hP : va_P D vwCl b st.heap) (hx : ∀ (i j : Nat) (p q : Nat × va_E), a[i]? = some p → b[j]? = some q → p.1 ≠ q.1) (hF : va_F (va_A a st.heap.size) st t) : va_P D vwCl b t.heap := hP.kept (fun k q hk => hF.2 q.1 (vx_lt hP hk) (fr_not hP hx k q hk))
theorem fr_A1 {a b : va_W} {sz : Nat} : ∀ q, va_A a sz q → va_A (a ++ b) sz q := by
  intro q h
  rcases h with ⟨k, e, h⟩ | h
  · exact Or.inl ⟨k, e, by rw [List.getElem?_append_left (List.getElem?_eq_some_iff.mp h).1]; exact h⟩
  · exact Or.inr h
theorem fr_A2 {a b : va_W} {sz : Nat} : ∀ q, va_A b sz q → va_A (a ++ b) sz q := by
  intro q h
  rcases h with ⟨k, e, h⟩ | h
  · exact Or.inl ⟨a.length + k, e, by rw [List.getElem?_append_right (by omega), show a.length + k - a.length = k by omega]; exact h⟩
  · exact Or.inr h
theorem fr_F {A B : Nat → Prop} {st t : State} (h : ∀ q, A q → B q) (hF : va_F A st t) : va_F B st t := ⟨hF.1, fun q h1 h2 => hF.2 q h1 (fun z => h2 (h q z))⟩
theorem fr_Dw {A B : Nat → Prop} {w : va_W} (hAB : ∀ q, A q → B q) (h : va_D A w) : va_D B w := ⟨h.1, fun k q hk => hAB _ (h.2 k q hk)⟩
theorem fr_Db {a b : va_W} {sz : Nat} (h : va_D (fun _ => True) (a ++ b)) : va_D (va_A (a ++ b) sz) b := ⟨(fr_D2 h).1, fun k q hk => fr_A2 _ (Or.inl ⟨k, q.2, hk⟩)⟩
theorem fr_Da {a b : va_W} {sz : Nat} (h : va_D (fun _ => True) (a ++ b)) : va_D (va_A (a ++ b) sz) a := ⟨(fr_D1 h).1, fun k q hk => fr_A1 _ (Or.inl ⟨k, q.2, hk⟩)⟩
theorem fr_outL {D : va_G} {a b w : va_W} {st t : State} (hP : va_P D vwCl (a ++ b) st.heap) (hD : va_D (fun _ => True) (a ++ b)) (hF : va_F (va_A a st.heap.size) st t) (hw : va_P D vwCl w t.heap) (hwD : va_D (va_A a st.heap.size) w) : va_P D vwCl (w ++ b) t.heap ∧ va_D (va_A (a ++ b) st.heap.size) (w ++ b) ∧ va_F (va_A (a ++ b) st.heap.size) st t := by
  have hx := fr_X hD
  refine ⟨hw.app (fr_kept (fr_P2 hP) hx hF), va_D.app (fr_Dw fr_A1 hwD) (fr_Db hD) ?_, fr_F fr_A1 hF⟩
  intro i j p q hi hj e
  exact fr_not (fr_P2 hP) hx j q hj (e ▸ hwD.2 i p hi)
theorem fr_outR {D : va_G} {a b w : va_W} {st t : State} (hP : va_P D vwCl (a ++ b) st.heap) (hD : va_D (fun _ => True) (a ++ b)) (hF : va_F (va_A b st.heap.size) st t) (hw : va_P D vwCl w t.heap) (hwD : va_D (va_A b st.heap.size) w) : va_P D vwCl (a ++ w) t.heap ∧ va_D (va_A (a ++ b) st.heap.size) (a ++ w) ∧ va_F (va_A (a ++ b) st.heap.size) st t := by
  have hx := fr_X hD
  have hx' : ∀ (i j : Nat) (p q : Nat × va_E), b[i]? = some p → a[j]? = some q → p.1 ≠ q.1 := fun i j p q h1 h2 e => hx j i q p h2 h1 e.symm
  refine ⟨(fr_kept (fr_P1 hP) hx' hF).app hw, va_D.app (fr_Da hD) (fr_Dw fr_A2 hwD) ?_, fr_F fr_A2 hF⟩
  intro i j p q hi hj e
  exact fr_not (fr_P1 hP) hx' i p hi (e.symm ▸ hwD.2 j q hj)
theorem ctI_frL {l : Launch} {D : va_G} {tys : List (ClassId × FieldType)} {y : MethodName} {wy : List Cond} {rm : Room} {as : List Value} {a9 b9 : va_W} {post : Int32 → va_W → Prop} (M : CtI l D tys y wy rm as a9 post) : CtI l D tys y wy rm as (a9 ++ b9) (fun r w => ∃ w0, post r w0 ∧ w = w0 ++ b9) := by
  intro sz p e h1 h2 h3 s m args below hf ha hP hK
  obtain ⟨q0, q1, qP, qK, qD, qN⟩ := hP
  subst q1
  obtain ⟨n, o, b1, b2, b3, ⟨⟨⟨r, u, ho, hp, hB1, hB2⟩, hF⟩, L, hL1, hL2⟩⟩ := M s.heap.size p e h1 h2 h3 s m args below hf ha ⟨q0, rfl, fr_P1 qP, qK, fr_D1 qD, qN⟩ trivial
  obtain ⟨e1, e2, e3⟩ := fr_outL qP qD hF hB1 hB2
  exact ⟨n, o, b1, b2, b3, ⟨⟨⟨r, _, ho, ⟨u, hp, rfl⟩, e1, e2⟩, e3⟩, L, hL1, fun q hq => fr_A1 _ (hL2 q hq)⟩⟩
theorem cxI_frL {l : Launch} {D : va_G} {tys : List (ClassId × FieldType)} {y : MethodName} {wy : List Cond} {rm : Room} {as : List Value} {a9 b9 : va_W} {post : Int32 → va_W → Prop} {xp : String → va_W → Prop} {mc ms : Nat} (M : CxI l D tys y wy rm as a9 post xp mc ms) : CxI l D tys y wy rm as (a9 ++ b9) (fun r w => ∃ w0, post r w0 ∧ w = w0 ++ b9) (fun E w => ∃ w0, xp E w0 ∧ w = w0 ++ b9) mc ms := by
  intro sz p e h1 h2 h3 s m args below hf ha hP hK
  obtain ⟨q0, q1, qP, qK, qD, qN, qT, qZ⟩ := hP
  subst q1
  obtain ⟨n, o, b1, b2, b3, hq⟩ := M s.heap.size p e h1 h2 h3 s m args below hf ha ⟨q0, rfl, fr_P1 qP, qK, fr_D1 qD, qN, qT, qZ.narrow fr_A1⟩ trivial
  refine ⟨n, o, b1, b2, b3, ?_⟩
  rcases hq with ⟨⟨⟨r, u, ho, hp, hB1, hB2⟩, hF⟩, L, hL1, hL2⟩ | ⟨q, ho, E, ce, L, ⟨u, _, ⟨hx, hB1, hB2⟩, hF⟩, c1, c2, c3, c4, c5, c6⟩
  · obtain ⟨e1, e2, e3⟩ := fr_outL qP qD hF hB1 hB2
    exact Or.inl ⟨⟨⟨r, _, ho, ⟨u, hp, rfl⟩, e1, e2⟩, e3⟩, L, hL1, fun q hq => fr_A1 _ (hL2 q hq)⟩
  · obtain ⟨e1, e2, e3⟩ := fr_outL qP qD hF hB1 hB2
    exact Or.inr ⟨q, ho, E, ce, L, ⟨_, trivial, ⟨⟨u, hx, rfl⟩, e1, e2⟩, e3⟩, c1, c2, c3, c4, c5, fun z hz => fr_A1 _ (c6 z hz)⟩
theorem ctL_frL {l : Launch} {D : va_G} {tys : List (ClassId × FieldType)} {y : MethodName} {wy : List Cond} {rm : Room} {as : List Value} {a9 b9 : va_W} {post : Int64 → va_W → Prop} (M : CtL l D tys y wy rm as a9 post) : CtL l D tys y wy rm as (a9 ++ b9) (fun r w => ∃ w0, post r w0 ∧ w = w0 ++ b9) := by
  intro sz p e h1 h2 h3 s m args below hf ha hP hK
  obtain ⟨q0, q1, qP, qK, qD, qN⟩ := hP
  subst q1
  obtain ⟨n, o, b1, b2, b3, ⟨⟨⟨r, u, ho, hp, hB1, hB2⟩, hF⟩, L, hL1, hL2⟩⟩ := M s.heap.size p e h1 h2 h3 s m args below hf ha ⟨q0, rfl, fr_P1 qP, qK, fr_D1 qD, qN⟩ trivial
  obtain ⟨e1, e2, e3⟩ := fr_outL qP qD hF hB1 hB2
  exact ⟨n, o, b1, b2, b3, ⟨⟨⟨r, _, ho, ⟨u, hp, rfl⟩, e1, e2⟩, e3⟩, L, hL1, fun q hq => fr_A1 _ (hL2 q hq)⟩⟩
theorem cxL_frL {l : Launch} {D : va_G} {tys : List (ClassId × FieldType)} {y : MethodName} {wy : List Cond} {rm : Room} {as : List Value} {a9 b9 : va_W} {post : Int64 → va_W → Prop} {xp : String → va_W → Prop} {mc ms : Nat} (M : CxL l D tys y wy rm as a9 post xp mc ms) : CxL l D tys y wy rm as (a9 ++ b9) (fun r w => ∃ w0, post r w0 ∧ w = w0 ++ b9) (fun E w => ∃ w0, xp E w0 ∧ w = w0 ++ b9) mc ms := by
  intro sz p e h1 h2 h3 s m args below hf ha hP hK
  obtain ⟨q0, q1, qP, qK, qD, qN, qT, qZ⟩ := hP
  subst q1
  obtain ⟨n, o, b1, b2, b3, hq⟩ := M s.heap.size p e h1 h2 h3 s m args below hf ha ⟨q0, rfl, fr_P1 qP, qK, fr_D1 qD, qN, qT, qZ.narrow fr_A1⟩ trivial
  refine ⟨n, o, b1, b2, b3, ?_⟩
  rcases hq with ⟨⟨⟨r, u, ho, hp, hB1, hB2⟩, hF⟩, L, hL1, hL2⟩ | ⟨q, ho, E, ce, L, ⟨u, _, ⟨hx, hB1, hB2⟩, hF⟩, c1, c2, c3, c4, c5, c6⟩
  · obtain ⟨e1, e2, e3⟩ := fr_outL qP qD hF hB1 hB2
    exact Or.inl ⟨⟨⟨r, _, ho, ⟨u, hp, rfl⟩, e1, e2⟩, e3⟩, L, hL1, fun q hq => fr_A1 _ (hL2 q hq)⟩
  · obtain ⟨e1, e2, e3⟩ := fr_outL qP qD hF hB1 hB2
    exact Or.inr ⟨q, ho, E, ce, L, ⟨_, trivial, ⟨⟨u, hx, rfl⟩, e1, e2⟩, e3⟩, c1, c2, c3, c4, c5, fun z hz => fr_A1 _ (c6 z hz)⟩
theorem ctD_frL {l : Launch} {D : va_G} {tys : List (ClassId × FieldType)} {y : MethodName} {wy : List Cond} {rm : Room} {as : List Value} {a9 b9 : va_W} {post : UInt64 → va_W → Prop} (M : CtD l D tys y wy rm as a9 post) : CtD l D tys y wy rm as (a9 ++ b9) (fun r w => ∃ w0, post r w0 ∧ w = w0 ++ b9) := by
  intro sz p e h1 h2 h3 s m args below hf ha hP hK
  obtain ⟨q0, q1, qP, qK, qD, qN⟩ := hP
  subst q1
  obtain ⟨n, o, b1, b2, b3, ⟨⟨⟨r, u, ho, hp, hB1, hB2⟩, hF⟩, L, hL1, hL2⟩⟩ := M s.heap.size p e h1 h2 h3 s m args below hf ha ⟨q0, rfl, fr_P1 qP, qK, fr_D1 qD, qN⟩ trivial
  obtain ⟨e1, e2, e3⟩ := fr_outL qP qD hF hB1 hB2
  exact ⟨n, o, b1, b2, b3, ⟨⟨⟨r, _, ho, ⟨u, hp, rfl⟩, e1, e2⟩, e3⟩, L, hL1, fun q hq => fr_A1 _ (hL2 q hq)⟩⟩
theorem cxD_frL {l : Launch} {D : va_G} {tys : List (ClassId × FieldType)} {y : MethodName} {wy : List Cond} {rm : Room} {as : List Value} {a9 b9 : va_W} {post : UInt64 → va_W → Prop} {xp : String → va_W → Prop} {mc ms : Nat} (M : CxD l D tys y wy rm as a9 post xp mc ms) : CxD l D tys y wy rm as (a9 ++ b9) (fun r w => ∃ w0, post r w0 ∧ w = w0 ++ b9) (fun E w => ∃ w0, xp E w0 ∧ w = w0 ++ b9) mc ms := by
  intro sz p e h1 h2 h3 s m args below hf ha hP hK
  obtain ⟨q0, q1, qP, qK, qD, qN, qT, qZ⟩ := hP
  subst q1
  obtain ⟨n, o, b1, b2, b3, hq⟩ := M s.heap.size p e h1 h2 h3 s m args below hf ha ⟨q0, rfl, fr_P1 qP, qK, fr_D1 qD, qN, qT, qZ.narrow fr_A1⟩ trivial
  refine ⟨n, o, b1, b2, b3, ?_⟩
  rcases hq with ⟨⟨⟨r, u, ho, hp, hB1, hB2⟩, hF⟩, L, hL1, hL2⟩ | ⟨q, ho, E, ce, L, ⟨u, _, ⟨hx, hB1, hB2⟩, hF⟩, c1, c2, c3, c4, c5, c6⟩
  · obtain ⟨e1, e2, e3⟩ := fr_outL qP qD hF hB1 hB2
    exact Or.inl ⟨⟨⟨r, _, ho, ⟨u, hp, rfl⟩, e1, e2⟩, e3⟩, L, hL1, fun q hq => fr_A1 _ (hL2 q hq)⟩
  · obtain ⟨e1, e2, e3⟩ := fr_outL qP qD hF hB1 hB2
    exact Or.inr ⟨q, ho, E, ce, L, ⟨_, trivial, ⟨⟨u, hx, rfl⟩, e1, e2⟩, e3⟩, c1, c2, c3, c4, c5, fun z hz => fr_A1 _ (c6 z hz)⟩
theorem ctV_frL {l : Launch} {D : va_G} {tys : List (ClassId × FieldType)} {y : MethodName} {wy : List Cond} {rm : Room} {as : List Value} {a9 b9 : va_W} {post : va_W → Prop} (M : CtV l D tys y wy rm as a9 post) : CtV l D tys y wy rm as (a9 ++ b9) (fun w => ∃ w0, post w0 ∧ w = w0 ++ b9) := by
  intro sz p e h1 h2 h3 s m args below hf ha hP hK
  obtain ⟨q0, q1, qP, qK, qD, qN⟩ := hP
  subst q1
  obtain ⟨n, o, b1, b2, b3, ⟨⟨⟨u, ho, hp, hB1, hB2⟩, hF⟩, L, hL1, hL2⟩⟩ := M s.heap.size p e h1 h2 h3 s m args below hf ha ⟨q0, rfl, fr_P1 qP, qK, fr_D1 qD, qN⟩ trivial
  obtain ⟨e1, e2, e3⟩ := fr_outL qP qD hF hB1 hB2
  exact ⟨n, o, b1, b2, b3, ⟨⟨⟨_, ho, ⟨u, hp, rfl⟩, e1, e2⟩, e3⟩, L, hL1, fun q hq => fr_A1 _ (hL2 q hq)⟩⟩
theorem cxV_frL {l : Launch} {D : va_G} {tys : List (ClassId × FieldType)} {y : MethodName} {wy : List Cond} {rm : Room} {as : List Value} {a9 b9 : va_W} {post : va_W → Prop} {xp : String → va_W → Prop} {mc ms : Nat} (M : CxV l D tys y wy rm as a9 post xp mc ms) : CxV l D tys y wy rm as (a9 ++ b9) (fun w => ∃ w0, post w0 ∧ w = w0 ++ b9) (fun E w => ∃ w0, xp E w0 ∧ w = w0 ++ b9) mc ms := by
  intro sz p e h1 h2 h3 s m args below hf ha hP hK
  obtain ⟨q0, q1, qP, qK, qD, qN, qT, qZ⟩ := hP
  subst q1
  obtain ⟨n, o, b1, b2, b3, hq⟩ := M s.heap.size p e h1 h2 h3 s m args below hf ha ⟨q0, rfl, fr_P1 qP, qK, fr_D1 qD, qN, qT, qZ.narrow fr_A1⟩ trivial
  refine ⟨n, o, b1, b2, b3, ?_⟩
  rcases hq with ⟨⟨⟨u, ho, hp, hB1, hB2⟩, hF⟩, L, hL1, hL2⟩ | ⟨q, ho, E, ce, L, ⟨u, _, ⟨hx, hB1, hB2⟩, hF⟩, c1, c2, c3, c4, c5, c6⟩
  · obtain ⟨e1, e2, e3⟩ := fr_outL qP qD hF hB1 hB2
    exact Or.inl ⟨⟨⟨_, ho, ⟨u, hp, rfl⟩, e1, e2⟩, e3⟩, L, hL1, fun q hq => fr_A1 _ (hL2 q hq)⟩
  · obtain ⟨e1, e2, e3⟩ := fr_outL qP qD hF hB1 hB2
    exact Or.inr ⟨q, ho, E, ce, L, ⟨_, trivial, ⟨⟨u, hx, rfl⟩, e1, e2⟩, e3⟩, c1, c2, c3, c4, c5, fun z hz => fr_A1 _ (c6 z hz)⟩
theorem ctI_frR {l : Launch} {D : va_G} {tys : List (ClassId × FieldType)} {y : MethodName} {wy : List Cond} {rm : Room} {as : List Value} {a9 b9 : va_W} {post : Int32 → va_W → Prop} (M : CtI l D tys y wy rm as b9 post) : CtI l D tys y wy rm as (a9 ++ b9) (fun r w => ∃ w0, post r w0 ∧ w = a9 ++ w0) := by
  intro sz p e h1 h2 h3 s m args below hf ha hP hK
  obtain ⟨q0, q1, qP, qK, qD, qN⟩ := hP
  subst q1
  obtain ⟨n, o, b1, b2, b3, ⟨⟨⟨r, u, ho, hp, hB1, hB2⟩, hF⟩, L, hL1, hL2⟩⟩ := M s.heap.size p e h1 h2 h3 s m args below hf ha ⟨q0, rfl, fr_P2 qP, qK, fr_D2 qD, qN⟩ trivial
  obtain ⟨e1, e2, e3⟩ := fr_outR qP qD hF hB1 hB2
  exact ⟨n, o, b1, b2, b3, ⟨⟨⟨r, _, ho, ⟨u, hp, rfl⟩, e1, e2⟩, e3⟩, L, hL1, fun q hq => fr_A2 _ (hL2 q hq)⟩⟩
theorem cxI_frR {l : Launch} {D : va_G} {tys : List (ClassId × FieldType)} {y : MethodName} {wy : List Cond} {rm : Room} {as : List Value} {a9 b9 : va_W} {post : Int32 → va_W → Prop} {xp : String → va_W → Prop} {mc ms : Nat} (M : CxI l D tys y wy rm as b9 post xp mc ms) : CxI l D tys y wy rm as (a9 ++ b9) (fun r w => ∃ w0, post r w0 ∧ w = a9 ++ w0) (fun E w => ∃ w0, xp E w0 ∧ w = a9 ++ w0) mc ms := by
  intro sz p e h1 h2 h3 s m args below hf ha hP hK
  obtain ⟨q0, q1, qP, qK, qD, qN, qT, qZ⟩ := hP
  subst q1
  obtain ⟨n, o, b1, b2, b3, hq⟩ := M s.heap.size p e h1 h2 h3 s m args below hf ha ⟨q0, rfl, fr_P2 qP, qK, fr_D2 qD, qN, qT, qZ.narrow fr_A2⟩ trivial
  refine ⟨n, o, b1, b2, b3, ?_⟩
  rcases hq with ⟨⟨⟨r, u, ho, hp, hB1, hB2⟩, hF⟩, L, hL1, hL2⟩ | ⟨q, ho, E, ce, L, ⟨u, _, ⟨hx, hB1, hB2⟩, hF⟩, c1, c2, c3, c4, c5, c6⟩
  · obtain ⟨e1, e2, e3⟩ := fr_outR qP qD hF hB1 hB2
    exact Or.inl ⟨⟨⟨r, _, ho, ⟨u, hp, rfl⟩, e1, e2⟩, e3⟩, L, hL1, fun q hq => fr_A2 _ (hL2 q hq)⟩
  · obtain ⟨e1, e2, e3⟩ := fr_outR qP qD hF hB1 hB2
    exact Or.inr ⟨q, ho, E, ce, L, ⟨_, trivial, ⟨⟨u, hx, rfl⟩, e1, e2⟩, e3⟩, c1, c2, c3, c4, c5, fun z hz => fr_A2 _ (c6 z hz)⟩
theorem ctL_frR {l : Launch} {D : va_G} {tys : List (ClassId × FieldType)} {y : MethodName} {wy : List Cond} {rm : Room} {as : List Value} {a9 b9 : va_W} {post : Int64 → va_W → Prop} (M : CtL l D tys y wy rm as b9 post) : CtL l D tys y wy rm as (a9 ++ b9) (fun r w => ∃ w0, post r w0 ∧ w = a9 ++ w0) := by
  intro sz p e h1 h2 h3 s m args below hf ha hP hK
  obtain ⟨q0, q1, qP, qK, qD, qN⟩ := hP
  subst q1
  obtain ⟨n, o, b1, b2, b3, ⟨⟨⟨r, u, ho, hp, hB1, hB2⟩, hF⟩, L, hL1, hL2⟩⟩ := M s.heap.size p e h1 h2 h3 s m args below hf ha ⟨q0, rfl, fr_P2 qP, qK, fr_D2 qD, qN⟩ trivial
  obtain ⟨e1, e2, e3⟩ := fr_outR qP qD hF hB1 hB2
  exact ⟨n, o, b1, b2, b3, ⟨⟨⟨r, _, ho, ⟨u, hp, rfl⟩, e1, e2⟩, e3⟩, L, hL1, fun q hq => fr_A2 _ (hL2 q hq)⟩⟩
theorem cxL_frR {l : Launch} {D : va_G} {tys : List (ClassId × FieldType)} {y : MethodName} {wy : List Cond} {rm : Room} {as : List Value} {a9 b9 : va_W} {post : Int64 → va_W → Prop} {xp : String → va_W → Prop} {mc ms : Nat} (M : CxL l D tys y wy rm as b9 post xp mc ms) : CxL l D tys y wy rm as (a9 ++ b9) (fun r w => ∃ w0, post r w0 ∧ w = a9 ++ w0) (fun E w => ∃ w0, xp E w0 ∧ w = a9 ++ w0) mc ms := by
  intro sz p e h1 h2 h3 s m args below hf ha hP hK
  obtain ⟨q0, q1, qP, qK, qD, qN, qT, qZ⟩ := hP
  subst q1
  obtain ⟨n, o, b1, b2, b3, hq⟩ := M s.heap.size p e h1 h2 h3 s m args below hf ha ⟨q0, rfl, fr_P2 qP, qK, fr_D2 qD, qN, qT, qZ.narrow fr_A2⟩ trivial
  refine ⟨n, o, b1, b2, b3, ?_⟩
  rcases hq with ⟨⟨⟨r, u, ho, hp, hB1, hB2⟩, hF⟩, L, hL1, hL2⟩ | ⟨q, ho, E, ce, L, ⟨u, _, ⟨hx, hB1, hB2⟩, hF⟩, c1, c2, c3, c4, c5, c6⟩
  · obtain ⟨e1, e2, e3⟩ := fr_outR qP qD hF hB1 hB2
    exact Or.inl ⟨⟨⟨r, _, ho, ⟨u, hp, rfl⟩, e1, e2⟩, e3⟩, L, hL1, fun q hq => fr_A2 _ (hL2 q hq)⟩
  · obtain ⟨e1, e2, e3⟩ := fr_outR qP qD hF hB1 hB2
    exact Or.inr ⟨q, ho, E, ce, L, ⟨_, trivial, ⟨⟨u, hx, rfl⟩, e1, e2⟩, e3⟩, c1, c2, c3, c4, c5, fun z hz => fr_A2 _ (c6 z hz)⟩
theorem ctD_frR {l : Launch} {D : va_G} {tys : List (ClassId × FieldType)} {y : MethodName} {wy : List Cond} {rm : Room} {as : List Value} {a9 b9 : va_W} {post : UInt64 → va_W → Prop} (M : CtD l D tys y wy rm as b9 post) : CtD l D tys y wy rm as (a9 ++ b9) (fun r w => ∃ w0, post r w0 ∧ w = a9 ++ w0) := by
  intro sz p e h1 h2 h3 s m args below hf ha hP hK
  obtain ⟨q0, q1, qP, qK, qD, qN⟩ := hP
  subst q1
  obtain ⟨n, o, b1, b2, b3, ⟨⟨⟨r, u, ho, hp, hB1, hB2⟩, hF⟩, L, hL1, hL2⟩⟩ := M s.heap.size p e h1 h2 h3 s m args below hf ha ⟨q0, rfl, fr_P2 qP, qK, fr_D2 qD, qN⟩ trivial
  obtain ⟨e1, e2, e3⟩ := fr_outR qP qD hF hB1 hB2
  exact ⟨n, o, b1, b2, b3, ⟨⟨⟨r, _, ho, ⟨u, hp, rfl⟩, e1, e2⟩, e3⟩, L, hL1, fun q hq => fr_A2 _ (hL2 q hq)⟩⟩
theorem cxD_frR {l : Launch} {D : va_G} {tys : List (ClassId × FieldType)} {y : MethodName} {wy : List Cond} {rm : Room} {as : List Value} {a9 b9 : va_W} {post : UInt64 → va_W → Prop} {xp : String → va_W → Prop} {mc ms : Nat} (M : CxD l D tys y wy rm as b9 post xp mc ms) : CxD l D tys y wy rm as (a9 ++ b9) (fun r w => ∃ w0, post r w0 ∧ w = a9 ++ w0) (fun E w => ∃ w0, xp E w0 ∧ w = a9 ++ w0) mc ms := by
  intro sz p e h1 h2 h3 s m args below hf ha hP hK
  obtain ⟨q0, q1, qP, qK, qD, qN, qT, qZ⟩ := hP
  subst q1
  obtain ⟨n, o, b1, b2, b3, hq⟩ := M s.heap.size p e h1 h2 h3 s m args below hf ha ⟨q0, rfl, fr_P2 qP, qK, fr_D2 qD, qN, qT, qZ.narrow fr_A2⟩ trivial
  refine ⟨n, o, b1, b2, b3, ?_⟩
  rcases hq with ⟨⟨⟨r, u, ho, hp, hB1, hB2⟩, hF⟩, L, hL1, hL2⟩ | ⟨q, ho, E, ce, L, ⟨u, _, ⟨hx, hB1, hB2⟩, hF⟩, c1, c2, c3, c4, c5, c6⟩
  · obtain ⟨e1, e2, e3⟩ := fr_outR qP qD hF hB1 hB2
    exact Or.inl ⟨⟨⟨r, _, ho, ⟨u, hp, rfl⟩, e1, e2⟩, e3⟩, L, hL1, fun q hq => fr_A2 _ (hL2 q hq)⟩
  · obtain ⟨e1, e2, e3⟩ := fr_outR qP qD hF hB1 hB2
    exact Or.inr ⟨q, ho, E, ce, L, ⟨_, trivial, ⟨⟨u, hx, rfl⟩, e1, e2⟩, e3⟩, c1, c2, c3, c4, c5, fun z hz => fr_A2 _ (c6 z hz)⟩
theorem ctV_frR {l : Launch} {D : va_G} {tys : List (ClassId × FieldType)} {y : MethodName} {wy : List Cond} {rm : Room} {as : List Value} {a9 b9 : va_W} {post : va_W → Prop} (M : CtV l D tys y wy rm as b9 post) : CtV l D tys y wy rm as (a9 ++ b9) (fun w => ∃ w0, post w0 ∧ w = a9 ++ w0) := by
  intro sz p e h1 h2 h3 s m args below hf ha hP hK
  obtain ⟨q0, q1, qP, qK, qD, qN⟩ := hP
  subst q1
  obtain ⟨n, o, b1, b2, b3, ⟨⟨⟨u, ho, hp, hB1, hB2⟩, hF⟩, L, hL1, hL2⟩⟩ := M s.heap.size p e h1 h2 h3 s m args below hf ha ⟨q0, rfl, fr_P2 qP, qK, fr_D2 qD, qN⟩ trivial
  obtain ⟨e1, e2, e3⟩ := fr_outR qP qD hF hB1 hB2
  exact ⟨n, o, b1, b2, b3, ⟨⟨⟨_, ho, ⟨u, hp, rfl⟩, e1, e2⟩, e3⟩, L, hL1, fun q hq => fr_A2 _ (hL2 q hq)⟩⟩
theorem cxV_frR {l : Launch} {D : va_G} {tys : List (ClassId × FieldType)} {y : MethodName} {wy : List Cond} {rm : Room} {as : List Value} {a9 b9 : va_W} {post : va_W → Prop} {xp : String → va_W → Prop} {mc ms : Nat} (M : CxV l D tys y wy rm as b9 post xp mc ms) : CxV l D tys y wy rm as (a9 ++ b9) (fun w => ∃ w0, post w0 ∧ w = a9 ++ w0) (fun E w => ∃ w0, xp E w0 ∧ w = a9 ++ w0) mc ms := by
  intro sz p e h1 h2 h3 s m args below hf ha hP hK
  obtain ⟨q0, q1, qP, qK, qD, qN, qT, qZ⟩ := hP
  subst q1
  obtain ⟨n, o, b1, b2, b3, hq⟩ := M s.heap.size p e h1 h2 h3 s m args below hf ha ⟨q0, rfl, fr_P2 qP, qK, fr_D2 qD, qN, qT, qZ.narrow fr_A2⟩ trivial
  refine ⟨n, o, b1, b2, b3, ?_⟩
  rcases hq with ⟨⟨⟨u, ho, hp, hB1, hB2⟩, hF⟩, L, hL1, hL2⟩ | ⟨q, ho, E, ce, L, ⟨u, _, ⟨hx, hB1, hB2⟩, hF⟩, c1, c2, c3, c4, c5, c6⟩
  · obtain ⟨e1, e2, e3⟩ := fr_outR qP qD hF hB1 hB2
    exact Or.inl ⟨⟨⟨_, ho, ⟨u, hp, rfl⟩, e1, e2⟩, e3⟩, L, hL1, fun q hq => fr_A2 _ (hL2 q hq)⟩
  · obtain ⟨e1, e2, e3⟩ := fr_outR qP qD hF hB1 hB2
    exact Or.inr ⟨q, ho, E, ce, L, ⟨_, trivial, ⟨⟨u, hx, rfl⟩, e1, e2⟩, e3⟩, c1, c2, c3, c4, c5, fun z hz => fr_A2 _ (c6 z hz)⟩
