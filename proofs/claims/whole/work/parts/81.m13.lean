/-! ===== the volume is positive ===== -/
def iS : Nat → (Nat → Int) → Int
  | 0, _ => 0
  | n + 1, f => iS n f + f n
theorem iS_congr {f g : Nat → Int} : ∀ n, (∀ i, i < n → f i = g i) → iS n f = iS n g := by
  intro n
  induction n with
  | zero => intro _; rfl
  | succ n ih => intro h; simp only [iS]; rw [ih (fun i hi => h i (by omega)), h n (by omega)]
theorem iS_add {f g : Nat → Int} : ∀ n, iS n (fun i => f i + g i) = iS n f + iS n g := by
  intro n
  induction n with
  | zero => rfl
  | succ n ih => simp only [iS]; rw [ih]; omega
theorem iS_neg {f : Nat → Int} : ∀ n, iS n (fun i => - f i) = - iS n f := by
  intro n
  induction n with
  | zero => rfl
  | succ n ih => simp only [iS]; rw [ih]; omega
theorem iS_0 {f : Nat → Int} : ∀ n, (∀ i, i < n → f i = 0) → iS n f = 0 := by
  intro n
  induction n with
  | zero => intro _; rfl
  | succ n ih => intro h; simp only [iS]; rw [ih (fun i hi => h i (by omega)), h n (by omega)]; rfl
theorem iS_nn {f : Nat → Int} : ∀ n, (∀ i, i < n → 0 ≤ f i) → 0 ≤ iS n f := by
  intro n
  induction n with
  | zero => intro _; exact Int.le_refl _
  | succ n ih =>
    intro h
    have h1 := ih (fun i hi => h i (by omega))
    have h2 := h n (by omega)
    simp only [iS]; omega
theorem iS_pos {f : Nat → Int} : ∀ n k, k < n → (∀ i, i < n → 0 ≤ f i) → 0 < f k → 0 < iS n f := by
  intro n
  induction n with
  | zero => intro k hk; omega
  | succ n ih =>
    intro k hk h hp
    have h2 := h n (by omega)
    simp only [iS]
    rcases Nat.lt_or_ge k n with h3 | h3
    · have := ih k h3 (fun i hi => h i (by omega)) hp
      omega
    · have e : k = n := by omega
      subst e
      have := iS_nn k (fun i hi => h i (by omega))
      omega
theorem iS_bd {f : Nat → Int} {B : Int} : ∀ n : Nat, (∀ i, i < n → -B ≤ f i ∧ f i ≤ B) → -(n * B) ≤ iS n f ∧ iS n f ≤ n * B := by
  intro n
  induction n with
  | zero => intro _; simp [iS]
  | succ n ih =>
    intro h
    have h1 := ih (fun i hi => h i (by omega))
    have h2 := h n (by omega)
    simp only [iS]
    have : ((n + 1 : Nat) : Int) * B = n * B + B := by rw [Int.natCast_add, Int.add_mul]; simp
    omega
theorem iS_ex {f : Nat → Nat → Int} (m : Nat) : ∀ n, iS n (fun i => iS m (fun j => f i j)) = iS m (fun j => iS n (fun i => f i j)) := by
  intro n
  induction n with
  | zero => simp only [iS]; exact (iS_0 m (fun _ _ => rfl)).symm
  | succ n ih => simp only [iS]; rw [ih, iS_add]
noncomputable def iB (P : Prop) (x : Int) : Int := @ite Int P (Classical.propDecidable P) x 0
theorem iB_t {P : Prop} {x : Int} (h : P) : iB P x = x := by unfold iB; rw [if_pos h]
theorem iB_f {P : Prop} {x : Int} (h : ¬ P) : iB P x = 0 := by unfold iB; rw [if_neg h]
theorem iB_c {P Q : Prop} {x : Int} (h : P ↔ Q) : iB P x = iB Q x := by rw [propext h]
/-- a sum with one place -/
theorem iS_one {g : Nat → Int} {v : Nat} : ∀ n, iS n (fun a => iB (a = v) (g a)) = iB (v < n) (g v) := by
  intro n
  induction n with
  | zero => rw [iB_f (by omega)]; rfl
  | succ n ih =>
    simp only [iS]
    rw [ih]
    by_cases h : n = v
    · subst h; rw [iB_f (by omega), iB_t rfl, iB_t (by omega)]; omega
    · rw [iB_f h, iB_c (show v < n ↔ v < n + 1 by omega)]; omega
theorem iS_img {g : Nat → Int} {r : Nat → Nat} {n : Nat} : ∀ m, (∀ i, i < m → r i < n) → (∀ i j, i < m → j < m → r i = r j → i = j) → iS m (fun i => g (r i)) = iS n (fun a => iB (∃ i, i < m ∧ r i = a) (g a)) := by
  intro m
  induction m with
  | zero =>
    intro _ _
    exact (iS_0 n (fun a _ => iB_f (fun ⟨i, hi, _⟩ => by omega))).symm
  | succ m ih =>
    intro h1 h2
    simp only [iS]
    rw [ih (fun i hi => h1 i (by omega)) (fun i j hi hj => h2 i j (by omega) (by omega))]
    have e : g (r m) = iS n (fun a => iB (a = r m) (g a)) := by rw [iS_one, iB_t (h1 m (by omega))]
    rw [e, ← iS_add]
    apply iS_congr
    intro a _
    by_cases q : a = r m
    · rw [iB_t q, iB_f (fun ⟨i, hi, e2⟩ => by have := h2 i m (by omega) (by omega) (by omega); omega), iB_t ⟨m, by omega, q.symm⟩]; omega
    · rw [iB_f q, iB_c (Q := ∃ i, i < m + 1 ∧ r i = a) ⟨fun ⟨i, hi, e2⟩ => ⟨i, by omega, e2⟩, fun ⟨i, hi, e2⟩ => ⟨i, by
        rcases Nat.lt_or_ge i m with h | h
        · exact h
        · exact absurd (by rw [← e2, show i = m by omega]) q, e2⟩⟩]; omega
/-- the sum over a fan is the sum round the ring -/
theorem iS_fan {c : Nat → Nat → Int} (hc : ∀ a b, c a b = - c b a) {r : Nat → Nat} : ∀ m, iS m (fun i => c (r 0) (r (i + 1)) + c (r (i + 1)) (r (i + 2)) + c (r (i + 2)) (r 0)) = iS (m + 1) (fun i => c (r i) (r (i + 1))) + c (r (m + 1)) (r 0) := by
  intro m
  induction m with
  | zero => simp only [iS]; have := hc (r 0) (r 1); simp only [Nat.zero_add] at *; omega
  | succ m ih =>
    rw [iS, ih]
    simp only [iS, show m + 1 + 1 = m + 2 from rfl]
    have := hc (r (m + 1)) (r 0)
    omega
/-- nine products -/
def zDet (X Y Z : Nat → Int) (a b c : Nat) : Int := X a * (Y b * Z c - Z b * Y c) + Y a * (Z b * X c - X b * Z c) + Z a * (X b * Y c - Y b * X c)
section M13a
variable {X Y Z : Nat → Int} {n : Nat} {FA FB FC FD : Nat → Int} {nf : Nat} {A B C D : Int} {a b c d p q u v w f g k : Nat}
theorem zDet_p (p a b c : Nat) : zDet X Y Z a b c = zV X Y Z p a b c + (zDet X Y Z p a b + zDet X Y Z p b c + zDet X Y Z p c a) := by unfold zDet zV zH zN1 zN2 zN3; grind
theorem zDet_s (p a b : Nat) : zDet X Y Z p a b = - zDet X Y Z p b a := by unfold zDet; grind
/-- a term is not negative -/
theorem zV_face (hb : zH X Y Z A B C a b = 0) (hc : zH X Y Z A B C a c = 0) : (A * A + B * B + C * C) * zV X Y Z p a b c = - (zO X Y Z A B C a b c * zH X Y Z A B C a p) := by
  obtain ⟨e1, e2, e3⟩ := zPar (X := X) (Y := Y) (Z := Z) (A := A) (B := B) (C := C) (a := a) (b := b) (c := c) hb hc
  have e : zV X Y Z p a b c = - zV X Y Z a b c p := by unfold zV zH zN1 zN2 zN3; grind
  rw [e]
  unfold zV zO
  have : zH X Y Z (zN1 X Y Z a b c) (zN2 X Y Z a b c) (zN3 X Y Z a b c) a p = zN1 X Y Z a b c * (X p - X a) + zN2 X Y Z a b c * (Y p - Y a) + zN3 X Y Z a b c * (Z p - Z a) := rfl
  rw [this]
  have : zH X Y Z A B C a p = A * (X p - X a) + B * (Y p - Y a) + C * (Z p - Z a) := rfl
  rw [this]
  clear hb hc e
  generalize zN1 X Y Z a b c = N1 at *
  generalize zN2 X Y Z a b c = N2 at *
  generalize zN3 X Y Z a b c = N3 at *
  grind
/-- the ring of a face, seen from a point of the hull -/
theorem zFan (hM : zM X Y Z n) (hD : zD X Y Z n) (hF : zF X Y Z n A B C D) {r : Nat → Nat} {m : Nat} (hi : ∀ i j, i < m → j < m → r i = r j → i = j) (hE : ∀ k, zE X Y Z n A B C D (r k) (r (k + 1))) (hp : p < n) (hk : k + 2 < m) : 0 ≤ zV X Y Z p (r 0) (r (k + 1)) (r (k + 2)) ∧ (¬ zI X Y Z A B C D p → 0 < zV X Y Z p (r 0) (r (k + 1)) (r (k + 2))) := by
  have hN := zF_ne hF
  have hs := sq_pos hN
  have e0 := hE 0
  have e1 := hE (k + 1)
  have i0 := e0.2.2.2.1
  have i1 := e1.2.2.2.1
  have i2 := e1.2.2.2.2.1
  have n1 : r 0 ≠ r (k + 1) := fun h => by have := hi 0 (k + 1) (by omega) (by omega) h; omega
  have n2 : r 0 ≠ r (k + 2) := fun h => by have := hi 0 (k + 2) (by omega) (by omega) h; omega
  have hO : 0 < zO X Y Z A B C (r (k + 1)) (r (k + 2)) (r 0) := by
    rcases e1.2.2.2.2.2 (r 0) e0.1 n1 n2 i0 with h | ⟨h1, h2⟩
    · exact h
    · exact absurd (zX_btw (zE_X1 hM hD e0) e1.1 e1.2.1 n1.symm n2.symm i1 i2 hN h1 h2) id
  rw [← zO_cyc] at hO
  have h1 := zV_face (p := p) (zH_0 i0 i1) (zH_0 i0 i2)
  have h2 := zF_le hF i0 hp
  generalize zO X Y Z A B C (r 0) (r (k + 1)) (r (k + 2)) = o at *
  generalize zV X Y Z p (r 0) (r (k + 1)) (r (k + 2)) = v at *
  constructor
  · apply pm_nn (x := A * A + B * B + C * C) _ hs
    rw [h1, ← Int.mul_neg]
    exact Int.mul_nonneg (by omega) (by omega)
  · intro hni
    have h3 := zF_lt hF i0 hp hni
    apply pm_pos (x := A * A + B * B + C * C) _ hs
    rw [h1, ← Int.mul_neg]
    exact Int.mul_pos (by omega) (by omega)
/-- some face doesn't hold the point -/
theorem zAway (S : zS X Y Z n FA FB FC FD nf) (hM : zM X Y Z n) (hD : zD X Y Z n) (hf : f < nf) (hp : p < n) : ∃ g, g < nf ∧ ¬ zI X Y Z (FA g) (FB g) (FC g) (FD g) p := by
  by_cases ip : zI X Y Z (FA f) (FB f) (FC f) (FD f) p
  · obtain ⟨a, b, c, ha, hb, hc, xa, xb, xc, ab, ac, bc⟩ := zC_get3 (zThree hM hD (S.1 f hf).1)
    have hv : ∃ v, v < n ∧ v ≠ p ∧ zX X Y Z n (FA f) (FB f) (FC f) (FD f) v := by
      by_cases h : a = p
      · exact ⟨b, hb, by omega, xb⟩
      · exact ⟨a, ha, h, xa⟩
    obtain ⟨v, hv, vp, xv⟩ := hv
    obtain ⟨g, k, hg, hk, fg, fk, gk, jg, jk⟩ := zCor1 S hM hD hf xv
    by_cases ig : zI X Y Z (FA g) (FB g) (FC g) (FD g) p
    · by_cases ik : zI X Y Z (FA k) (FB k) (FC k) (FD k) p
      · exact absurd (zT S hD hf hg hk fg fk gk hp hv (Ne.symm vp) ip xv.2.1 ig jg ik jk) id
      · exact ⟨k, hk, ik⟩
    · exact ⟨g, hg, ig⟩
  · exact ⟨f, hf, ip⟩
/-- what is summed over the ways between corners is nothing -/
theorem zClosed (S : zS X Y Z n FA FB FC FD nf) (hM : zM X Y Z n) (hD : zD X Y Z n) {r : Nat → Nat → Nat} {m : Nat → Nat} (hr : ∀ f, f < nf → r f (m f) = r f 0 ∧ (∀ i j, i < m f → j < m f → r f i = r f j → i = j) ∧ (∀ k, zE X Y Z n (FA f) (FB f) (FC f) (FD f) (r f k) (r f (k + 1))) ∧ (∀ p, zX X Y Z n (FA f) (FB f) (FC f) (FD f) p → ∃ k, k < m f ∧ r f k = p)) {c : Nat → Nat → Int} (hc : ∀ a b, c a b = - c b a) : iS nf (fun f => iS (m f) (fun i => c (r f i) (r f (i + 1)))) = 0 := by
  have h1 : ∀ f, f < nf → iS (m f) (fun i => c (r f i) (r f (i + 1))) = iS n (fun a => iS n (fun b => iB (zE X Y Z n (FA f) (FB f) (FC f) (FD f) a b) (c a b))) := by
    intro f hf
    obtain ⟨r1, r2, r3, r4⟩ := hr f hf
    have hs : ∀ i, r f (i + 1) = zNx X Y Z n (FA f) (FB f) (FC f) (FD f) (r f i) := fun i => zE_u1 (r3 i) (zNx_E hD (S.1 f hf).1 (zE_X1 hM hD (r3 i)))
    rw [iS_congr (m f) (g := fun i => (fun a => c a (zNx X Y Z n (FA f) (FB f) (FC f) (FD f) a)) (r f i)) (fun i _ => by rw [hs i])]
    rw [iS_img (n := n) (g := fun a => c a (zNx X Y Z n (FA f) (FB f) (FC f) (FD f) a)) (m f) (fun i _ => (r3 i).1) r2]
    apply iS_congr
    intro a ha
    by_cases hx : zX X Y Z n (FA f) (FB f) (FC f) (FD f) a
    · rw [iB_t (r4 a hx)]
      have hE := zNx_E hD (S.1 f hf).1 hx
      rw [iS_congr n (g := fun b => iB (b = zNx X Y Z n (FA f) (FB f) (FC f) (FD f) a) (c a b)) (fun b _ => iB_c ⟨fun h => zE_u1 h hE, fun h => h ▸ hE⟩)]
      rw [iS_one, iB_t hE.2.1]
    · rw [iB_f (fun ⟨i, hi, e⟩ => hx (e ▸ zE_X1 hM hD (r3 i)))]
      exact (iS_0 n (fun b _ => iB_f (fun h => hx (zE_X1 hM hD h)))).symm
  rw [iS_congr nf h1]
  have h2 : iS nf (fun f => iS n (fun a => iS n (fun b => iB (zE X Y Z n (FA f) (FB f) (FC f) (FD f) a b) (c a b)))) = iS n (fun a => iS n (fun b => iB (zDart X Y Z n FA FB FC FD nf a b) (c a b))) := by
    rw [iS_ex (f := fun f a => iS n (fun b => iB (zE X Y Z n (FA f) (FB f) (FC f) (FD f) a b) (c a b)))]
    apply iS_congr
    intro a _
    rw [iS_ex (f := fun f b => iB (zE X Y Z n (FA f) (FB f) (FC f) (FD f) a b) (c a b))]
    apply iS_congr
    intro b _
    by_cases hd : zDart X Y Z n FA FB FC FD nf a b
    · obtain ⟨f, hf, hE⟩ := hd
      rw [iB_t ⟨f, hf, hE⟩]
      rw [iS_congr nf (g := fun g => iB (g = f) (c a b)) (fun g hg => iB_c ⟨fun h => zOne S hD hg hf h hE, fun h => h ▸ hE⟩)]
      rw [iS_one (g := fun _ => c a b), iB_t hf]
    · rw [iB_f hd]
      exact iS_0 nf (fun f hf => iB_f (fun h => hd ⟨f, hf, h⟩))
  rw [h2]
  have h3 : iS n (fun a => iS n (fun b => iB (zDart X Y Z n FA FB FC FD nf a b) (c a b))) = - iS n (fun a => iS n (fun b => iB (zDart X Y Z n FA FB FC FD nf a b) (c a b))) := by
    rw [← iS_neg]
    rw [iS_ex (f := fun a b => iB (zDart X Y Z n FA FB FC FD nf a b) (c a b))]
    apply iS_congr
    intro b _
    rw [← iS_neg]
    apply iS_congr
    intro a _
    by_cases hd : zDart X Y Z n FA FB FC FD nf a b
    · rw [iB_t hd, iB_t (zDart_sym S hD hd), hc]
    · rw [iB_f hd, iB_f (fun h => hd (zDart_sym S hD h))]; rfl
  omega
theorem zVol (S : zS X Y Z n FA FB FC FD nf) (hM : zM X Y Z n) (hD : zD X Y Z n) (h1 : 1 ≤ nf) {r : Nat → Nat → Nat} {m : Nat → Nat} (hm : ∀ f, f < nf → 3 ≤ m f) (hr : ∀ f, f < nf → r f (m f) = r f 0 ∧ (∀ i j, i < m f → j < m f → r f i = r f j → i = j) ∧ (∀ k, zE X Y Z n (FA f) (FB f) (FC f) (FD f) (r f k) (r f (k + 1))) ∧ (∀ p, zX X Y Z n (FA f) (FB f) (FC f) (FD f) p → ∃ k, k < m f ∧ r f k = p)) : 0 < iS nf (fun f => iS (m f - 2) (fun i => zDet X Y Z (r f 0) (r f (i + 1)) (r f (i + 2)))) := by
  have hp : r 0 0 < n := ((hr 0 h1).2.2.1 0).1
  generalize hq : r 0 0 = p at hp
  have e : iS nf (fun f => iS (m f - 2) (fun i => zDet X Y Z (r f 0) (r f (i + 1)) (r f (i + 2)))) = iS nf (fun f => iS (m f - 2) (fun i => zV X Y Z p (r f 0) (r f (i + 1)) (r f (i + 2)))) := by
    have e1 : ∀ f, f < nf → iS (m f - 2) (fun i => zDet X Y Z (r f 0) (r f (i + 1)) (r f (i + 2))) = iS (m f - 2) (fun i => zV X Y Z p (r f 0) (r f (i + 1)) (r f (i + 2))) + iS (m f) (fun i => zDet X Y Z p (r f i) (r f (i + 1))) := by
      intro f hf
      rw [iS_congr _ (fun i _ => zDet_p (X := X) (Y := Y) (Z := Z) p (r f 0) (r f (i + 1)) (r f (i + 2))), iS_add, iS_fan (c := fun a b => zDet X Y Z p a b) (fun a b => zDet_s p a b)]
      have h3 := hm f hf
      obtain ⟨k, hk⟩ : ∃ k, m f = k + 2 := ⟨m f - 2, by omega⟩
      have r1 := (hr f hf).1
      rw [hk] at r1 ⊢
      simp only [iS, show k + 2 - 2 = k by omega]
      rw [r1]
    rw [iS_congr nf e1, iS_add, zClosed S hM hD hr (c := fun a b => zDet X Y Z p a b) (fun a b => zDet_s p a b)]
    omega
  rw [e]
  obtain ⟨g, hg, hg2⟩ := zAway S hM hD h1 hp
  have hnn : ∀ f, f < nf → ∀ i, i < m f - 2 → 0 ≤ zV X Y Z p (r f 0) (r f (i + 1)) (r f (i + 2)) := fun f hf i hi => (zFan hM hD (S.1 f hf).1 (hr f hf).2.1 (hr f hf).2.2.1 hp (by omega)).1
  apply iS_pos nf g hg (fun f hf => iS_nn _ (hnn f hf))
  have h3 := hm g hg
  exact iS_pos _ 0 (by omega) (hnn g hg) ((zFan hM hD (S.1 g hg).1 (hr g hg).2.1 (hr g hg).2.2.1 hp (by omega)).2 hg2)
end M13a
