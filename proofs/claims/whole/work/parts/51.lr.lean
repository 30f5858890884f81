/-! ===== the law: its script, its switch; what class and reference must agree in ===== -/
section LRows
variable {X : XT} {cc : ByteArray} {own : String} {Ts : List Cond} {rm : Room} {tys : List (ClassId × FieldType)} {nL k n pc : Nat} {ws : va_W} {lv : List (Nat × Value)} {st : List Value}
/-- the script lies outside what this method may write -/
def Sx (X : XT) (b L : Nat) (xs : Nat → Int32) : Prop := va_X b L xs (kxS X) (kxO X) ∧ b < (kxO X).size ∧ ¬ kxF X b ∧ L ≤ 2048
theorem k_sld (C : Cx X cc own Ts rm tys nL) {b L j : Nat} {xs : Nat → Int32} (S : Sx X b L xs) (hj : j < L) (hd : decode cc pc = .ok (.iaload, 1)) (K : Kw X k n ws (pc + 1) lv (.int (xs j) :: st)) : Kw X k n ws pc lv (.int (nI j) :: .ref b :: st) := fun H locs ls hP hD hS hl => va_sld C.hx C.hb S.1 S.2.1 S.2.2.1 hS (vp_in_nI hj (Nat.lt_of_le_of_lt S.2.2.2 (by decide))) hd (by rw [nI_clamp (Nat.lt_of_lt_of_le hj (Nat.le_trans S.2.2.2 (by decide)))]; exact K H locs ls hP hD hS hl)
theorem k_slen (C : Cx X cc own Ts rm tys nL) {b L : Nat} {xs : Nat → Int32} (S : Sx X b L xs) (hd : decode cc pc = .ok (.arraylength, 1)) (K : Kw X k n ws (pc + 1) lv (.int (nI L) :: st)) : Kw X k n ws pc lv (.ref b :: st) := fun H locs ls hP hD hS hl => va_slen C.hx C.hb S.1 S.2.1 S.2.2.1 hS hd (K H locs ls hP hD hS hl)
theorem k_tabIn (C : Cx X cc own Ts rm tys nL) {dflt hi : Int} {offs : Array Int} {len t : Nat} {off : Int} (tgt : Nat) (hd : decode cc pc = .ok (.tableswitch dflt 0 hi offs, len)) (ht2 : t < 2 ^ 31) (h2 : ¬ hi < (t : Int)) (ho : offs[t]? = some off) (ht : (pc : Int) + off = (tgt : Int)) (K : Kw X k n ws tgt lv st) : Kw X k n ws pc lv (.int (nI t) :: st) := fun H locs ls hP hD hS hl => lv_tableIn C.hx C.hb hd (by rw [nI_toInt ht2]; omega) (by rw [nI_toInt ht2]; exact h2) (by rw [nI_toInt ht2, show ((t : Int) - 0).toNat = t by omega]; exact ho) ht (K H locs ls hP hD hS hl)
theorem k_tabOut (C : Cx X cc own Ts rm tys nL) {dflt hi : Int} {offs : Array Int} {len t : Nat} (tgt : Nat) (hd : decode cc pc = .ok (.tableswitch dflt 0 hi offs, len)) (ht2 : t < 2 ^ 31) (h2 : hi < (t : Int)) (ht : (pc : Int) + dflt = (tgt : Int)) (K : Kw X k n ws tgt lv st) : Kw X k n ws pc lv (.int (nI t) :: st) := fun H locs ls hP hD hS hl => lv_tableOut C.hx C.hb hd (by rw [nI_toInt ht2]; exact Or.inr h2) ht (K H locs ls hP hD hS hl)
end LRows
theorem and15 (x : Int32) : ∃ t, t < 16 ∧ x &&& 15 = nI t := by
  have h1 : (x &&& 15).toBitVec.toNat < 16 := by
    rw [Int32.toBitVec_and, BitVec.toNat_and]
    have := Nat.and_le_right (n := x.toBitVec.toNat) (m := (15 : Int32).toBitVec.toNat)
    have e : (15 : Int32).toBitVec.toNat = 15 := by decide
    omega
  refine ⟨(x &&& 15).toBitVec.toNat, h1, ?_⟩
  apply Int32.toBitVec_inj.mp
  apply BitVec.eq_of_toNat_eq
  show _ = (nI _).toBitVec.toNat
  rw [show (nI (x &&& 15).toBitVec.toNat) = Int32.ofNat (x &&& 15).toBitVec.toNat from rfl, Int32.toBitVec_ofNat', BitVec.toNat_ofNat]
  omega
theorem lenSub {L i : Nat} (hL : L ≤ 2048) (hi : i ≤ 2048) : nI L - nI 4 < nI i ↔ L < i + 4 := by
  by_cases h : 4 ≤ L
  · rw [pk_sub h, nI_ltI (by omega) (by omega)]
    omega
  · constructor
    · intro _; omega
    · intro _
      rw [Int32.lt_iff_toInt_lt, nI_toInt (show i < 2 ^ 31 by omega)]
      rcases (show L = 0 ∨ L = 1 ∨ L = 2 ∨ L = 3 by omega) with rfl | rfl | rfl | rfl
      · exact Int.lt_of_lt_of_le (by decide : (nI 0 - nI 4).toInt < 0) (by omega)
      · exact Int.lt_of_lt_of_le (by decide : (nI 1 - nI 4).toInt < 0) (by omega)
      · exact Int.lt_of_lt_of_le (by decide : (nI 2 - nI 4).toInt < 0) (by omega)
      · exact Int.lt_of_lt_of_le (by decide : (nI 3 - nI 4).toInt < 0) (by omega)
theorem ge0 {w v : va_W} {x : Nat × va_E} (h : w[0]? = some x) : (w ++ v)[0]? = some x := by
  rw [List.getElem?_append_left (List.getElem?_eq_some_iff.mp h).1]; exact h
theorem wO_at0 (a w : va_W) (oa od : Nat) (cJ cD : ClassId) (ov : Nat → Int64) (dv : Nat → UInt64) : (a ++ (w ++ wO oa od cJ cD ov dv))[a.length + w.length]? = some (oa, .inl (cJ, 1, .inr (.inl ov))) := by
  rw [List.getElem?_append_right (by omega), List.getElem?_append_right (by omega), show a.length + w.length - a.length - w.length = 0 by omega]; rfl
theorem wO_at1 (a w : va_W) (oa od : Nat) (cJ cD : ClassId) (ov : Nat → Int64) (dv : Nat → UInt64) : (a ++ (w ++ wO oa od cJ cD ov dv))[a.length + w.length + 1]? = some (od, .inl (cD, 1, .inr (.inr (.inr (.inl dv))))) := by
  rw [List.getElem?_append_right (by omega), List.getElem?_append_right (by omega), show a.length + w.length + 1 - a.length - w.length = 1 by omega]; rfl
/-- what a call must do on both sides, from related worlds -/
def AgI (Rl : Int32 → va_W → va_W → Prop) (l : Launch) (D : va_G) (cI cJ cF cD : ClassId) (oa od : Nat) (yC : MethodName) (wC : List Cond) (rC : Room) (aC : List Value) (mc ms : Nat) (yM : MethodName) (wM9 : List Cond) (rM : Room) (aM : List Value) : Prop := ∀ (thr : Int32) (wm wb : va_W) (ov : Nat → Int64) (dv : Nat → UInt64), Rl thr wm wb → ∃ (pC : Int32 → va_W → Prop) (pM : Int32 → va_W → Prop), CwI l D (tyG cI cJ cF cD) yC wC rC aC (wb ++ wO oa od cJ cD ov dv) pC mc ms ∧ CtI l D (tyG cI cJ cF cD) yM wM9 rM aM wm pM ∧ ∀ r w v wm', pC r w → pM v wm' → ∃ wb' ov' dv', w = wb' ++ wO oa od cJ cD ov' dv' ∧ Rl r wm' wb' ∧ (r = 0 → ov' 0 = v.toInt64)
/-- what a call must do on both sides, from related worlds -/
def AgL (Rl : Int32 → va_W → va_W → Prop) (l : Launch) (D : va_G) (cI cJ cF cD : ClassId) (oa od : Nat) (yC : MethodName) (wC : List Cond) (rC : Room) (aC : List Value) (mc ms : Nat) (yM : MethodName) (wM9 : List Cond) (rM : Room) (aM : List Value) : Prop := ∀ (thr : Int32) (wm wb : va_W) (ov : Nat → Int64) (dv : Nat → UInt64), Rl thr wm wb → ∃ (pC : Int32 → va_W → Prop) (pM : Int64 → va_W → Prop), CwI l D (tyG cI cJ cF cD) yC wC rC aC (wb ++ wO oa od cJ cD ov dv) pC mc ms ∧ CtL l D (tyG cI cJ cF cD) yM wM9 rM aM wm pM ∧ ∀ r w v wm', pC r w → pM v wm' → ∃ wb' ov' dv', w = wb' ++ wO oa od cJ cD ov' dv' ∧ Rl r wm' wb' ∧ (r = 0 → ov' 0 = v)
/-- what a call must do on both sides, from related worlds -/
def AgD (Rl : Int32 → va_W → va_W → Prop) (l : Launch) (D : va_G) (cI cJ cF cD : ClassId) (oa od : Nat) (yC : MethodName) (wC : List Cond) (rC : Room) (aC : List Value) (mc ms : Nat) (yM : MethodName) (wM9 : List Cond) (rM : Room) (aM : List Value) : Prop := ∀ (thr : Int32) (wm wb : va_W) (ov : Nat → Int64) (dv : Nat → UInt64), Rl thr wm wb → ∃ (pC : Int32 → va_W → Prop) (pM : UInt64 → va_W → Prop), CwI l D (tyG cI cJ cF cD) yC wC rC aC (wb ++ wO oa od cJ cD ov dv) pC mc ms ∧ CtD l D (tyG cI cJ cF cD) yM wM9 rM aM wm pM ∧ ∀ r w v wm', pC r w → pM v wm' → ∃ wb' ov' dv', w = wb' ++ wO oa od cJ cD ov' dv' ∧ Rl r wm' wb' ∧ (r = 0 → dv' 0 = v)
/-- the reference's cell, and its answer to 'thrown' -/
def AgT (Rl : Int32 → va_W → va_W → Prop) (l : Launch) (D : va_G) (cI cJ cF cD : ClassId) (mA : Nat) : Prop := ∀ (thr : Int32) (wm wb : va_W), Rl thr wm wb → (∃ fs, wm[0]? = some (mA, .inr (4, fs))) ∧ CtI l D (tyG cI cJ cF cD) yX4_thrown wsX4_thrown ({ frames := 0, cells := 0, slots := 0, locals := 0 }) [.ref mA] wm (fun r w => r = thr ∧ w = wm)
