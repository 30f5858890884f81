/-! ===== the world of the class ===== -/
theorem pool_get {α : Type} (L : List α) (f : Nat → α) (n i : Nat) (h : i < n) (R : List α) : (L ++ ((List.range n).map f ++ R))[L.length + i]? = some (f i) := by
  rw [List.getElem?_append_right (by omega), show L.length + i - L.length = i by omega, List.getElem?_append_left (by simp; omega)]
  simp [h]
theorem pool_set {α : Type} (L : List α) (f f' : Nat → α) (n i : Nat) (h : i < n) (R : List α) (x : α) (hx : f' i = x) (hf : ∀ j, j ≠ i → f' j = f j) : (L ++ ((List.range n).map f ++ R)).set (L.length + i) x = L ++ ((List.range n).map f' ++ R) := by
  rw [List.set_append_right _ _ (by omega), show L.length + i - L.length = i by omega, List.set_append_left _ _ (by simp; omega)]
  congr 2
  apply List.ext_getElem?
  intro j
  rw [List.getElem?_set]
  by_cases e : i = j
  · subst e
    simp [h, hx]
  · rw [if_neg e]
    by_cases hj : j < n
    · simp [hj, hf j (fun q => e q.symm)]
    · simp [Nat.le_of_not_lt hj]
def updF (rn : Nat → Nat → Nat) (i : Nat) (r : Nat → Nat) : Nat → Nat → Nat := fun j => if j = i then r else rn j
def wBf (ba fa ra : Nat → Nat) (cI cJ cF : ClassId) (hb ps fc co ec asz : Int32) (sx : Int64) (tr : Nat) (pm : Nat → Nat) (xs ys zs ax ay az al : Nat → Int32) (el eh : Nat → Nat) (mo : Nat → Int64) : va_W := [(ba 0, .inr (3, [.ref (ba 1), .ref (ba 5), .int hb])), (ba 1, .inr (2, [.ref (ba 2), .ref (ba 3), .ref (ba 4), .int ps])), (ba 2, .inl (cI, 24, .inl xs)), (ba 3, .inl (cI, 24, .inl ys)), (ba 4, .inl (cI, 24, .inl zs)), (ba 5, .inr (1, [.ref (ba 6), .ref (ba 10), .ref (fa tr), .int fc, .int co, .ref (ba 11), .ref (ba 12), .ref (ba 13), .int ec, .long sx, .ref (ba 14)])), (ba 6, .inr (2, [.ref (ba 7), .ref (ba 8), .ref (ba 9), .int asz])), (ba 7, .inl (cI, 24, .inl ax)), (ba 8, .inl (cI, 24, .inl ay)), (ba 9, .inl (cI, 24, .inl az)), (ba 10, .inl (cF, 44, .inr (.inr (.inr (.inr (fun j => some (fa (pm j)))))))), (ba 11, .inl (cI, 576, .inl al)), (ba 12, .inl (cI, 66, .inl (nA el))), (ba 13, .inl (cI, 66, .inl (nA eh))), (ba 14, .inl (cJ, 3, .inr (.inl mo)))]
def wBo (fa ra : Nat → Nat) (nx ny nz dd : Nat → Int64) (hd : Nat → Int32) (sz : Nat → Nat) : Nat → Nat × va_E := fun i => (fa i, .inr (0, [.long (nx i), .long (ny i), .long (nz i), .long (dd i), .int (hd i), .ref (ra i), .int (nI (sz i))]))
def wBr (ra : Nat → Nat) (cI : ClassId) (rn : Nat → Nat → Nat) : Nat → Nat × va_E := fun i => (ra i, .inl (cI, 24, .inl (nA (rn i))))
def wB (ba fa ra : Nat → Nat) (cI cJ cF : ClassId) (hb ps fc co ec asz : Int32) (sx : Int64) (tr : Nat) (pm : Nat → Nat) (xs ys zs ax ay az al : Nat → Int32) (el eh : Nat → Nat) (mo nx ny nz dd : Nat → Int64) (hd : Nat → Int32) (sz : Nat → Nat) (rn : Nat → Nat → Nat) : va_W := wBf ba fa ra cI cJ cF hb ps fc co ec asz sx tr pm xs ys zs ax ay az al el eh mo ++ ((List.range 45).map (wBo fa ra nx ny nz dd hd sz) ++ ((List.range 45).map (wBr ra cI rn) ++ []))
section WB
variable {ba fa ra : Nat → Nat} {cI cJ cF : ClassId} {hb ps fc co ec asz : Int32} {sx : Int64} {tr : Nat} {pm : Nat → Nat} {xs ys zs ax ay az al : Nat → Int32} {el eh : Nat → Nat} {mo nx ny nz dd : Nat → Int64} {hd : Nat → Int32} {sz : Nat → Nat} {rn : Nat → Nat → Nat}
theorem wB_f {i : Nat} (hi : i < 45) : (wB ba fa ra cI cJ cF hb ps fc co ec asz sx tr pm xs ys zs ax ay az al el eh mo nx ny nz dd hd sz rn)[15 + i]? = some (fa i, .inr (0, [.long (nx i), .long (ny i), .long (nz i), .long (dd i), .int (hd i), .ref (ra i), .int (nI (sz i))])) := pool_get (wBf ba fa ra cI cJ cF hb ps fc co ec asz sx tr pm xs ys zs ax ay az al el eh mo) (wBo fa ra nx ny nz dd hd sz) 45 i hi _
theorem wB_r {i : Nat} (hi : i < 45) : (wB ba fa ra cI cJ cF hb ps fc co ec asz sx tr pm xs ys zs ax ay az al el eh mo nx ny nz dd hd sz rn)[60 + i]? = some (ra i, .inl (cI, 24, .inl (nA (rn i)))) := by
  have h := pool_get (wBf ba fa ra cI cJ cF hb ps fc co ec asz sx tr pm xs ys zs ax ay az al el eh mo ++ (List.range 45).map (wBo fa ra nx ny nz dd hd sz)) (wBr ra cI rn) 45 i hi []
  rw [List.append_assoc] at h
  exact h
theorem wB_snx {i : Nat} (hi : i < 45) (v : Int64) : (wB ba fa ra cI cJ cF hb ps fc co ec asz sx tr pm xs ys zs ax ay az al el eh mo nx ny nz dd hd sz rn).set (15 + i) (fa i, .inr (0, [.long v, .long (ny i), .long (nz i), .long (dd i), .int (hd i), .ref (ra i), .int (nI (sz i))])) = wB ba fa ra cI cJ cF hb ps fc co ec asz sx tr pm xs ys zs ax ay az al el eh mo (vp_updL nx i v) ny nz dd hd sz rn :=
  pool_set (wBf ba fa ra cI cJ cF hb ps fc co ec asz sx tr pm xs ys zs ax ay az al el eh mo) (wBo fa ra nx ny nz dd hd sz) (wBo fa ra (vp_updL nx i v) ny nz dd hd sz) 45 i hi _ _ (by simp [wBo, vp_updL]) (fun j hj => by simp [wBo, vp_updL, hj])
theorem wB_sny {i : Nat} (hi : i < 45) (v : Int64) : (wB ba fa ra cI cJ cF hb ps fc co ec asz sx tr pm xs ys zs ax ay az al el eh mo nx ny nz dd hd sz rn).set (15 + i) (fa i, .inr (0, [.long (nx i), .long v, .long (nz i), .long (dd i), .int (hd i), .ref (ra i), .int (nI (sz i))])) = wB ba fa ra cI cJ cF hb ps fc co ec asz sx tr pm xs ys zs ax ay az al el eh mo nx (vp_updL ny i v) nz dd hd sz rn :=
  pool_set (wBf ba fa ra cI cJ cF hb ps fc co ec asz sx tr pm xs ys zs ax ay az al el eh mo) (wBo fa ra nx ny nz dd hd sz) (wBo fa ra nx (vp_updL ny i v) nz dd hd sz) 45 i hi _ _ (by simp [wBo, vp_updL]) (fun j hj => by simp [wBo, vp_updL, hj])
theorem wB_snz {i : Nat} (hi : i < 45) (v : Int64) : (wB ba fa ra cI cJ cF hb ps fc co ec asz sx tr pm xs ys zs ax ay az al el eh mo nx ny nz dd hd sz rn).set (15 + i) (fa i, .inr (0, [.long (nx i), .long (ny i), .long v, .long (dd i), .int (hd i), .ref (ra i), .int (nI (sz i))])) = wB ba fa ra cI cJ cF hb ps fc co ec asz sx tr pm xs ys zs ax ay az al el eh mo nx ny (vp_updL nz i v) dd hd sz rn :=
  pool_set (wBf ba fa ra cI cJ cF hb ps fc co ec asz sx tr pm xs ys zs ax ay az al el eh mo) (wBo fa ra nx ny nz dd hd sz) (wBo fa ra nx ny (vp_updL nz i v) dd hd sz) 45 i hi _ _ (by simp [wBo, vp_updL]) (fun j hj => by simp [wBo, vp_updL, hj])
theorem wB_sdd {i : Nat} (hi : i < 45) (v : Int64) : (wB ba fa ra cI cJ cF hb ps fc co ec asz sx tr pm xs ys zs ax ay az al el eh mo nx ny nz dd hd sz rn).set (15 + i) (fa i, .inr (0, [.long (nx i), .long (ny i), .long (nz i), .long v, .int (hd i), .ref (ra i), .int (nI (sz i))])) = wB ba fa ra cI cJ cF hb ps fc co ec asz sx tr pm xs ys zs ax ay az al el eh mo nx ny nz (vp_updL dd i v) hd sz rn :=
  pool_set (wBf ba fa ra cI cJ cF hb ps fc co ec asz sx tr pm xs ys zs ax ay az al el eh mo) (wBo fa ra nx ny nz dd hd sz) (wBo fa ra nx ny nz (vp_updL dd i v) hd sz) 45 i hi _ _ (by simp [wBo, vp_updL]) (fun j hj => by simp [wBo, vp_updL, hj])
theorem wB_shd {i : Nat} (hi : i < 45) (v : Int32) : (wB ba fa ra cI cJ cF hb ps fc co ec asz sx tr pm xs ys zs ax ay az al el eh mo nx ny nz dd hd sz rn).set (15 + i) (fa i, .inr (0, [.long (nx i), .long (ny i), .long (nz i), .long (dd i), .int v, .ref (ra i), .int (nI (sz i))])) = wB ba fa ra cI cJ cF hb ps fc co ec asz sx tr pm xs ys zs ax ay az al el eh mo nx ny nz dd (upd hd i v) sz rn :=
  pool_set (wBf ba fa ra cI cJ cF hb ps fc co ec asz sx tr pm xs ys zs ax ay az al el eh mo) (wBo fa ra nx ny nz dd hd sz) (wBo fa ra nx ny nz dd (upd hd i v) sz) 45 i hi _ _ (by simp [wBo, upd]) (fun j hj => by simp [wBo, upd, hj])
theorem wB_ssz {i : Nat} (hi : i < 45) (v : Nat) : (wB ba fa ra cI cJ cF hb ps fc co ec asz sx tr pm xs ys zs ax ay az al el eh mo nx ny nz dd hd sz rn).set (15 + i) (fa i, .inr (0, [.long (nx i), .long (ny i), .long (nz i), .long (dd i), .int (hd i), .ref (ra i), .int (nI v)])) = wB ba fa ra cI cJ cF hb ps fc co ec asz sx tr pm xs ys zs ax ay az al el eh mo nx ny nz dd hd (updN sz i v) rn :=
  pool_set (wBf ba fa ra cI cJ cF hb ps fc co ec asz sx tr pm xs ys zs ax ay az al el eh mo) (wBo fa ra nx ny nz dd hd sz) (wBo fa ra nx ny nz dd hd (updN sz i v)) 45 i hi _ _ (by simp [wBo, updN]) (fun j hj => by simp [wBo, updN, hj])
theorem wB_srn {i : Nat} (hi : i < 45) (r : Nat → Nat) : (wB ba fa ra cI cJ cF hb ps fc co ec asz sx tr pm xs ys zs ax ay az al el eh mo nx ny nz dd hd sz rn).set (60 + i) (ra i, .inl (cI, 24, .inl (nA r))) = wB ba fa ra cI cJ cF hb ps fc co ec asz sx tr pm xs ys zs ax ay az al el eh mo nx ny nz dd hd sz (updF rn i r) := by
  have h := pool_set (wBf ba fa ra cI cJ cF hb ps fc co ec asz sx tr pm xs ys zs ax ay az al el eh mo ++ (List.range 45).map (wBo fa ra nx ny nz dd hd sz)) (wBr ra cI rn) (wBr ra cI (updF rn i r)) 45 i hi [] (ra i, .inl (cI, 24, .inl (nA r))) (by simp [wBr, updF]) (fun j hj => by simp [wBr, updF, hj])
  rw [List.append_assoc, List.append_assoc] at h
  exact h
theorem wB_spm (j i : Nat) : (wB ba fa ra cI cJ cF hb ps fc co ec asz sx tr pm xs ys zs ax ay az al el eh mo nx ny nz dd hd sz rn).set 10 (ba 10, .inl (cF, 44, .inr (.inr (.inr (.inr (va_up (fun j => some (fa (pm j))) j (some (fa i)))))))) = wB ba fa ra cI cJ cF hb ps fc co ec asz sx tr (updN pm j i) xs ys zs ax ay az al el eh mo nx ny nz dd hd sz rn := by
  have e : va_up (fun j => some (fa (pm j))) j (some (fa i)) = (fun k => some (fa (updN pm j i k))) := by
    funext k
    simp only [va_up, updN]
    split <;> rfl
  rw [e]; rfl
end WB
