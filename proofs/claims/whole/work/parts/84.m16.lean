/-! ===== the edges join all corners ===== -/
section M16a
variable {X Y Z : Nat → Int} {n : Nat} {FA FB FC FD : Nat → Int} {nf : Nat} {a b f g : Nat}
theorem zConn (S : zS X Y Z n FA FB FC FD nf) (hM : zM X Y Z n) (hD : zD X Y Z n) (hn : 2 ≤ n) {P : Nat → Prop} (hP : ∀ g a b, g < nf → zE X Y Z n (FA g) (FB g) (FC g) (FD g) a b → (P a ↔ P b)) (hf : f < nf) (hg : g < nf) (xa : zX X Y Z n (FA f) (FB f) (FC f) (FD f) a) (xb : zX X Y Z n (FA g) (FB g) (FC g) (FD g) b) : P a ↔ P b := by
  obtain ⟨t, _, ht, _, _, htop, _⟩ := zTops hM hD hn
  have key : ∀ m v, zC n (fun q => 0 < zh X Y Z v q) ≤ m → (∃ f, f < nf ∧ zX X Y Z n (FA f) (FB f) (FC f) (FD f) v) → (P v ↔ P t) := by
    intro m
    induction m with
    | zero =>
      rintro v hm ⟨f, hf, xv⟩
      have e : v = t := by
        by_cases e : v = t
        · exact e
        · exfalso
          have h1 := zh_ne hM hD xv.1 ht e
          have h2 := htop v xv.1
          have h3 := zh_neg (X := X) (Y := Y) (Z := Z) (p := v) (q := t)
          have h4 := zC_rm (P := fun q => 0 < zh X Y Z v q) (t := t) n ht (by show 0 < zh X Y Z v t; omega)
          omega
      rw [e]
    | succ m ih =>
      rintro v hm ⟨f, hf, xv⟩
      by_cases hq : ∃ q, q < n ∧ 0 < zh X Y Z v q
      · obtain ⟨k, w, hk, hE, hw⟩ := zUpE S hM hD hf xv hq
        have xw : zX X Y Z n (FA k) (FB k) (FC k) (FD k) w := by
          rcases hE with h | h
          · exact zE_X2 hM hD h
          · exact zE_X1 hM hD h
        have h1 := zC_rm (P := fun q => 0 < zh X Y Z v q) (t := w) n xw.1 hw
        have h2 : zC n (fun q => 0 < zh X Y Z w q) ≤ zC n (fun q => 0 < zh X Y Z v q ∧ q ≠ w) := zC_mono n (fun q _ h => by
          have := zh_tr (X := X) (Y := Y) (Z := Z) (p := v) (q := w) (v := q)
          refine ⟨by omega, ?_⟩
          intro e
          subst e
          rw [zh_self] at h
          omega)
        have h3 := ih w (by omega) ⟨k, hk, xw⟩
        rcases hE with h | h
        · rw [hP k v w hk h]; exact h3
        · rw [← hP k w v hk h]; exact h3
      · have e : v = t := by
          by_cases e : v = t
          · exact e
          · exfalso
            have h1 := zh_ne hM hD xv.1 ht e
            have h2 := htop v xv.1
            have h3 := zh_neg (X := X) (Y := Y) (Z := Z) (p := v) (q := t)
            exact hq ⟨t, ht, by omega⟩
        rw [e]
  rw [key _ a (Nat.le_refl _) ⟨f, hf, xa⟩, key _ b (Nat.le_refl _) ⟨g, hg, xb⟩]
end M16a
section M16b
variable {xs ys zs : Nat → Int32} {n : Nat} {F : FT} {fr : Nat → Nat → Int32} {E : ET} {G : EC} {al : Nat → Int32} {a b : Nat}
theorem eg_adj (hn : n ≤ 24) (V : Egs xs ys zs n F fr E G al) (S0 : zSF xs ys zs n F) (hD : zD (tI xs) (tI ys) (tI zs) n) {f : Nat} (hf : f < F.1) (hE : EdF xs ys zs n F f a b) : AdjE G.2.1 G.2.2 G.1 a b := by
  have key : ∀ a b, a < b → b < n → zDart (tI xs) (tI ys) (tI zs) n (fA F) (fB F) (fC F) (fD F) F.1 a b → AdjE G.2.1 G.2.2 G.1 a b := by
    intro a b hab hb hd
    obtain ⟨k, hk, e⟩ := V.2.2.1 a b hab hb hd
    obtain ⟨a', b', h1, h2, h3, h4, h5, _⟩ := V.2.1.2 k hk
    exact ⟨k, by rw [← V.2.1.1]; exact hk, Or.inl ⟨by omega, by omega⟩⟩
  have hd : zDart (tI xs) (tI ys) (tI zs) n (fA F) (fB F) (fC F) (fD F) F.1 a b := ⟨f, hf, hE⟩
  rcases Nat.lt_trichotomy a b with h | h | h
  · exact key a b h hE.2.1 hd
  · exact absurd h hE.2.2.1
  · exact (key b a h hE.1 (zDart_sym S0 hD hd)).sy
/-- the class's steps are the reference's -/
theorem steps_ok (h : Bd n xs ys zs) (hD : zD (tI xs) (tI ys) (tI zs) n) (hn : n ≤ 24) (hn4 : 4 ≤ n) (S0 : zSF xs ys zs n F) (V : Egs xs ys zs n F fr E G al) (hl : ∀ k, G.2.1 k < 24) (hh : ∀ k, G.2.2 k < 24) (g : Nat → Nat) {fa fb : Nat} (hfa : fa < F.1) (hfb : fb < F.1) (xa : ExF xs ys zs n F fa a) (xb : ExF xs ys zs n F fb b) : wlI G.2.1 G.2.2 G.1 (nI 1 <<< (nI a &&& 31)) b 25 0 = nI (rlxN E.2.1 E.1 (farI g a n) n b) := by
  rw [V.2.1.1]
  refine walk_ok hn hl hh (fun k hk => ?_) xa.1 xb.1 ?_
  · obtain ⟨a', b', h1, h2, h3, h4, h5, _⟩ := V.2.1.2 k (by rw [V.2.1.1]; exact hk)
    omega
  · have := (zConn S0 h hD (by omega) (P := fun v => ∃ j, Lv G.2.1 G.2.2 G.1 a j v) (fun f u v hf hE => by
      have A := eg_adj hn V S0 hD hf hE
      exact ⟨fun ⟨j, hj⟩ => ⟨j + 1, Or.inr ⟨u, hj, A⟩⟩, fun ⟨j, hj⟩ => ⟨j + 1, Or.inr ⟨v, hj, A.sy⟩⟩⟩) hfa hfb xa xb).mp ⟨0, rfl⟩
    exact this
end M16b
