/-! ===== the sums as numbers ===== -/
theorem sum2_R {t : Nat → Int64} {T : Nat → Int} {B : Int} (hB : 0 ≤ B) : ∀ k : Nat, (∀ i, 0 < i → i ≤ k → R64 (t i) (T i) B) → k * B < 9223372036854775808 → R64 (sum2 t 0 k) (iS k (fun i => T (i + 1))) (k * B) := by
  intro k
  induction k with
  | zero => intro _ _; exact ⟨rfl, by simp [iS], by simp [iS]⟩
  | succ k ih =>
    intro h hk
    have e : ((k + 1 : Nat) : Int) * B = k * B + B := by rw [Int.natCast_add, Int.add_mul]; simp
    rw [e] at hk ⊢
    simp only [sum2, iS]
    exact (ih (fun i h1 h2 => h i h1 (by omega)) (by omega)).add (h (k + 1) (by omega) (by omega)) hk
theorem sumL_R {g : Nat → Int64} {p : Nat → Nat} {T : Nat → Int} {B : Int} (hB : 0 ≤ B) : ∀ k : Nat, (∀ i, i < k → R64 (g (p i)) (T i) B) → k * B < 9223372036854775808 → R64 (sumL g p k) (iS k T) (k * B) := by
  intro k
  induction k with
  | zero => intro _ _; exact ⟨rfl, by simp [iS], by simp [iS]⟩
  | succ k ih =>
    intro h hk
    have e : ((k + 1 : Nat) : Int) * B = k * B + B := by rw [Int.natCast_add, Int.add_mul]; simp
    rw [e] at hk ⊢
    simp only [sumL, iS]
    exact (ih (fun i h1 => h i (by omega)) (by omega)).add (h k (by omega)) hk
section M14a
variable {xs ys zs : Nat → Int32} {n f : Nat} {hx hy hz : Nat → Int64} {F : FT} {S : CT} {pm sz o z p : Nat → Nat} {rn : Nat → Nat → Nat} {a b c : Nat}
theorem six_R (h : Bd n xs ys zs) (e : Cpy n xs ys zs hx hy hz) (ha : a < n) (hb : b < n) (hc : c < n) : R64 (sixL hx hy hz a b c) (zDet (tI xs) (tI ys) (tI zs) a b c) 805306368 := by
  rw [six_eq e ha hb hc]
  have xa := R64.i32 (h.x ha)
  have ya := R64.i32 (h.y ha)
  have za := R64.i32 (h.z ha)
  have xb := R64.i32 (h.x hb)
  have yb := R64.i32 (h.y hb)
  have zb := R64.i32 (h.z hb)
  have xc := R64.i32 (h.x hc)
  have yc := R64.i32 (h.y hc)
  have zc := R64.i32 (h.z hc)
  exact ((((xa.mul (((yb.mul zc (by decide)).sub (zb.mul yc (by decide)) (by decide))) (by decide)).add (ya.mul (((zb.mul xc (by decide)).sub (xb.mul zc (by decide)) (by decide))) (by decide)) (by decide)).add (za.mul (((xb.mul yc (by decide)).sub (yb.mul xc (by decide)) (by decide))) (by decide)) (by decide))).mono (by decide)
theorem by_R (h : Bd n xs ys zs) (e : Cpy n xs ys zs hx hy hz) (w : Int32) (ha : a < n) (hb : b < n) (hc : c < n) : ∃ T, R64 (byL hx hy hz w a b c) T 1536 := by
  have xa := R64.i32 (h.x ha)
  have ya := R64.i32 (h.y ha)
  have za := R64.i32 (h.z ha)
  have xb := R64.i32 (h.x hb)
  have yb := R64.i32 (h.y hb)
  have zb := R64.i32 (h.z hb)
  have xc := R64.i32 (h.x hc)
  have yc := R64.i32 (h.y hc)
  have zc := R64.i32 (h.z hc)
  unfold byL
  rw [(e a ha).1, (e a ha).2.1, (e a ha).2.2, (e b hb).1, (e b hb).2.1, (e b hb).2.2, (e c hc).1, (e c hc).2.1, (e c hc).2.2]
  split
  · exact ⟨1, rfl, by decide, by decide⟩
  · split
    · exact ⟨_, ((xa.add xb (by decide)).add xc (by decide)).mono (by decide)⟩
    · split
      · exact ⟨_, ((ya.add yb (by decide)).add yc (by decide)).mono (by decide)⟩
      · exact ⟨_, ((za.add zb (by decide)).add zc (by decide)).mono (by decide)⟩
theorem cast_le {k K : Nat} {B : Int} (hB : 0 ≤ B) (h : k ≤ K) : (k : Int) * B ≤ K * B := Int.mul_le_mul_of_nonneg_right (by omega) hB
theorem vol_R (h : Bd n xs ys zs) (hD : zD (tI xs) (tI ys) (tI zs) n) (hn : n ≤ 24) (e : Cpy n xs ys zs hx hy hz) (hM : MI xs ys zs n F) (S0 : zSF xs ys zs n F) (h1 : 1 ≤ F.1) (h44 : F.1 ≤ 44) (B : Blt xs ys zs n F S pm sz rn o z p) : ∃ V : Int, 0 < V ∧ R64 (sum1 o z hx hy hz (-1) F.1) V 779536564224 := by
  refine ⟨iS F.1 (fun f => iS (mlF xs ys zs n F f - 2) (fun i => zDet (tI xs) (tI ys) (tI zs) (rgF xs ys zs n F f 0) (rgF xs ys zs n F f (i + 1)) (rgF xs ys zs n F f (i + 2)))), ?_, ?_⟩
  · exact zVol S0 h hD h1 (fun f hf => (rgF_ok h hD hM hf).1) (fun f hf => ⟨(rgF_ok h hD hM hf).2.2.1, (rgF_ok h hD hM hf).2.2.2.1, (rgF_ok h hD hM hf).2.2.2.2.1, (rgF_ok h hD hM hf).2.2.2.2.2⟩)
  · rw [sum1_S]
    refine (sumL_R (B := 17716740096) (by decide) F.1 (fun f hf => ?_) (by have := cast_le (B := 17716740096) (by decide) h44; omega)).mono (by have := cast_le (B := 17716740096) (by decide) h44; omega)
    have k1 := B.2.2.2.1 f hf
    have k2 := fun i => B.2.2.2.2.1 f i hf
    have k3 := rgF_ok h hD hM hf
    have k4 : mlF xs ys zs n F f - 2 ≤ 22 := by have := k3.2.1; omega
    unfold gS
    rw [k1.1]
    refine (sum2_R (T := fun i => zDet (tI xs) (tI ys) (tI zs) (rgF xs ys zs n F f 0) (rgF xs ys zs n F f i) (rgF xs ys zs n F f (i + 1))) (B := 805306368) (by decide) _ (fun i i1 i2 => ?_) (by have := cast_le (B := 805306368) (by decide) k4; omega)).mono (by have := cast_le (B := 805306368) (by decide) k4; omega)
    have k5 := k3.1
    unfold trmL byL
    have q0 := k2 0 (by omega)
    have qi := k2 i (by omega)
    have qj := k2 (i + 1) (by omega)
    rw [Nat.add_zero] at q0
    rw [if_pos (by decide), Int64.mul_one, Nat.add_assoc, q0.1, qi.1, qj.1]
    exact six_R h e (rg_lt h hD hM hf _) (rg_lt h hD hM hf _) (rg_lt h hD hM hf _)
theorem mom_R (h : Bd n xs ys zs) (hD : zD (tI xs) (tI ys) (tI zs) n) (hn : n ≤ 24) (e : Cpy n xs ys zs hx hy hz) (hM : MI xs ys zs n F) (h44 : F.1 ≤ 44) (B : Blt xs ys zs n F S pm sz rn o z p) (w : Int32) : ∃ V : Int, R64 (sum1 o z hx hy hz w F.1) V 1197368162648064 := by
  have hT : ∀ f, f < F.1 → ∀ i, 0 < i → i ≤ mlF xs ys zs n F f - 2 → ∃ T, R64 (trmL o hx hy hz w f i) T 1236950581248 := by
    intro f hf i i1 i2
    have k2 := fun i => B.2.2.2.2.1 f i hf
    have k5 := (rgF_ok h hD hM hf).1
    unfold trmL
    have q0 := k2 0 (by omega)
    have qi := k2 i (by omega)
    have qj := k2 (i + 1) (by omega)
    rw [Nat.add_zero] at q0
    rw [Nat.add_assoc, q0.1, qi.1, qj.1]
    obtain ⟨T, hT⟩ := by_R h e w (rg_lt h hD hM hf 0) (rg_lt h hD hM hf i) (rg_lt h hD hM hf (i + 1))
    exact ⟨_, ((six_R h e (rg_lt h hD hM hf _) (rg_lt h hD hM hf _) (rg_lt h hD hM hf _)).mul hT (by decide)).mono (by decide)⟩
  have hG : ∀ f, f < F.1 → ∃ G, R64 (gS o z hx hy hz w f) G 27212912787456 := by
    intro f hf
    have k1 := B.2.2.2.1 f hf
    have k4 : mlF xs ys zs n F f - 2 ≤ 22 := by have := (rgF_ok h hD hM hf).2.1; omega
    unfold gS
    rw [k1.1]
    have hT' : ∀ i, ∃ T, 0 < i → i ≤ mlF xs ys zs n F f - 2 → R64 (trmL o hx hy hz w f i) T 1236950581248 := by
      intro i
      by_cases q : 0 < i ∧ i ≤ mlF xs ys zs n F f - 2
      · obtain ⟨T, hT⟩ := hT f hf i q.1 q.2
        exact ⟨T, fun _ _ => hT⟩
      · exact ⟨0, fun a b => absurd ⟨a, b⟩ q⟩
    obtain ⟨T, hT'⟩ := Classical.axiomOfChoice hT'
    exact ⟨_, (sum2_R (T := T) (B := 1236950581248) (by decide) _ hT' (by have := cast_le (B := 1236950581248) (by decide) k4; omega)).mono (by have := cast_le (B := 1236950581248) (by decide) k4; omega)⟩
  have hG' : ∀ f, ∃ G, f < F.1 → R64 (gS o z hx hy hz w f) G 27212912787456 := by
    intro f
    by_cases q : f < F.1
    · obtain ⟨T, hT⟩ := hG f q
      exact ⟨T, fun _ => hT⟩
    · exact ⟨0, fun a => absurd a q⟩
  obtain ⟨G, hG'⟩ := Classical.axiomOfChoice hG'
  rw [sum1_S]
  exact ⟨_, (sumL_R (T := G) (B := 27212912787456) (by decide) F.1 hG' (by have := cast_le (B := 27212912787456) (by decide) h44; omega)).mono (by have := cast_le (B := 27212912787456) (by decide) h44; omega)⟩
end M14a
