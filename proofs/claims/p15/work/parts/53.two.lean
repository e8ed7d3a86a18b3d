/-! CLASS: A TABLE MADE OF TWO; THE NET ANEW -/
theorem ixu {k x y x' y' : Int} (hx : 0 ≤ x ∧ x < k) (hx' : 0 ≤ x' ∧ x' < k) (h : x + k * y = x' + k * y') : x = x' ∧ y = y' := by
  have hy : y = y' := by
    rcases Int.lt_trichotomy y y' with q | q | q
    · exfalso
      have h1 := Int.mul_le_mul_of_nonneg_left (show y + 1 ≤ y' by omega) (show 0 ≤ k by omega)
      rw [Int.mul_add, Int.mul_one] at h1
      omega
    · exact q
    · exfalso
      have h1 := Int.mul_le_mul_of_nonneg_left (show y' + 1 ≤ y by omega) (show 0 ≤ k by omega)
      rw [Int.mul_add, Int.mul_one] at h1
      omega
  subst hy
  omega
theorem ixb {k m x y : Int} (hx : 0 ≤ x ∧ x < k) (hy : 0 ≤ y ∧ y < m) (hm : k * m ≤ 8) : 0 ≤ k * y ∧ 0 ≤ x + k * y ∧ x + k * y < 8 ∧ x + k * y < k * m := by
  have h1 := Int.mul_le_mul_of_nonneg_left (show y + 1 ≤ m by omega) (show 0 ≤ k by omega)
  rw [Int.mul_add, Int.mul_one] at h1
  have h2 := Int.mul_nonneg (show 0 ≤ k by omega) hy.1
  omega
/-- the turns of a table made of two, told for the rows below y and the cells below x of row y -/
def TW (f g : Int → Int) (k y x : Int) (t : Int → Int) : Prop := ∀ c r, 0 ≤ c → c < k → 0 ≤ r → (r < y ∨ r = y ∧ c < x) → t (c + k * r) = f c + k * g r
theorem TW.s {f g : Int → Int} {k m y x : Int} {M M' : yM} {o : Nat} (hf : ∀ j, 0 ≤ j → j < k → 0 ≤ f j ∧ f j < k) (hg : ∀ j, 0 ≤ j → j < m → 0 ≤ g j ∧ g j < m) (hm : k * m ≤ 8) (hx : 0 ≤ x ∧ x < k) (hy : 0 ≤ y ∧ y < m) (h : TW f g k y x (ld M o)) (e : M' = put M o (x + k * y) (f x + k * g y)) : TW f g k y (x + 1) (ld M' o) := fun c r h1 h2 h3 h4 => by
  have b := ixb (hf x hx.1 hx.2) (hg y hy.1 hy.2) hm
  subst e
  rw [ld_put (by omega)]
  split
  · next q =>
    obtain ⟨e1, e2⟩ := ixu ⟨h1, h2⟩ hx q.2
    rw [e1, e2]
  · next q =>
    refine h c r h1 h2 h3 ?_
    rcases h4 with h4 | h4
    · exact Or.inl h4
    · refine Or.inr ⟨h4.1, ?_⟩
      have : c ≠ x := fun e => q ⟨rfl, by rw [e, h4.1]⟩
      omega
theorem TW.row {f g : Int → Int} {k y x : Int} {t : Int → Int} (h : TW f g k y x t) (hx : x ≥ k) : TW f g k (y + 1) 0 t := fun c r h1 h2 h3 h4 => h c r h1 h2 h3 (by omega)
def TB (M : yM) (f g : Int → Int) (k m y x : Int) : Prop := TW f g k y x (ld M 2) ∧ ld M 1 0 = k * m ∧ T8 M 2
theorem TB.fr {W : Nat → Int → Prop} {M M' : yM} {f g : Int → Int} {k m y x : Int} (h : TB M f g k m y x) (fM : fr W M M') (h2 : ∀ j, ¬ W 2 j) (h1 : ¬ W 1 0) : TB M' f g k m y x :=
  ⟨fun c r a1 a2 a3 a4 => by rw [fM.ld (h2 _)]; exact h.1 c r a1 a2 a3 a4, by rw [fM.ld h1]; exact h.2.1, h.2.2.fr fM (fun j _ _ => h2 j)⟩
theorem TB.put3 {M M' : yM} {f g : Int → Int} {k m y x j v : Int} (h : TB M f g k m y x) (e : M' = put M 3 j v) : TB M' f g k m y x :=
  h.fr (W := fun o _ => o = 3) (fr.put fr.rf e rfl) (fun _ => by omega) (by omega)
theorem TB.s {f g : Int → Int} {k m y x : Int} {M M' : yM} (h : TB M f g k m y x) (hf : ∀ j, 0 ≤ j → j < k → 0 ≤ f j ∧ f j < k) (hg : ∀ j, 0 ≤ j → j < m → 0 ≤ g j ∧ g j < m) (hm : k * m ≤ 8) (hx : 0 ≤ x ∧ x < k) (hy : 0 ≤ y ∧ y < m) (e : M' = put M 2 (x + k * y) (f x + k * g y)) : TB M' f g k m y (x + 1) := by
  have b := ixb (hf x hx.1 hx.2) (hg y hy.1 hy.2) hm
  exact ⟨h.1.s hf hg hm hx hy e, by rw [e, ld_putne (Or.inl (by omega))]; exact h.2.1, h.2.2.pt e (fun _ => by omega)⟩
theorem TB.row {f g : Int → Int} {k m y x : Int} {M : yM} (h : TB M f g k m y x) (hx : x ≥ k) : TB M f g k m (y + 1) 0 := ⟨h.1.row hx, h.2⟩
/-- the triangles of a table made of two, told so far -/
def T2 (T S : Int → Int) (k m y x v u : Int) (U : Int → Int) : Prop := ∀ p s q t : Int, 0 ≤ p → p < k → 0 ≤ s → s < m → 0 ≤ q → q < k → 0 ≤ t → t < m → (s < y ∨ s = y ∧ p < x ∨ s = y ∧ p = x ∧ t < v ∨ s = y ∧ p = x ∧ t = v ∧ q < u) → U (8 * (p + k * s) + (q + k * t)) = pO (T (8 * p + q)) (S (8 * s + t)) k 8
theorem T2.up {T S U : Int → Int} {k m y x v u y' x' v' u' : Int} (h : T2 T S k m y x v u U) (hc : ∀ p s q t : Int, 0 ≤ p ∧ 0 ≤ s ∧ 0 ≤ q ∧ 0 ≤ t → p < k → s < m → q < k → t < m → (s < y' ∨ s = y' ∧ p < x' ∨ s = y' ∧ p = x' ∧ t < v' ∨ s = y' ∧ p = x' ∧ t = v' ∧ q < u') → (s < y ∨ s = y ∧ p < x ∨ s = y ∧ p = x ∧ t < v ∨ s = y ∧ p = x ∧ t = v ∧ q < u)) : T2 T S k m y' x' v' u' U := fun p s q t p1 p2 s1 s2 q1 q2 t1 t2 w => h p s q t p1 p2 s1 s2 q1 q2 t1 t2 (hc p s q t ⟨p1, s1, q1, t1⟩ p2 s2 q2 t2 w)
theorem T2.s {T S : Int → Int} {M M' : yM} {k m y x v u j0 w : Int} (h : T2 T S k m y x v u (ld M 3)) (hk : 1 ≤ k) (hm : k * m ≤ 8) (hx : 0 ≤ x ∧ x < k) (hy : 0 ≤ y ∧ y < m) (hu : 0 ≤ u ∧ u < k) (hv : 0 ≤ v ∧ v < m) (e : M' = put M 3 j0 w) (ej : j0 = 8 * (x + k * y) + (u + k * v)) (ew : w = pO (T (8 * x + u)) (S (8 * y + v)) k 8) : T2 T S k m y x v (u + 1) (ld M' 3) := fun p s q t p1 p2 s1 s2 q1 q2 t1 t2 h9 => by
  have hw : yR w := by rw [ew]; exact pO_rng _ _ _ _
  have b1 := ixb (k := k) (m := m) (x := p) (y := s) ⟨p1, p2⟩ ⟨s1, s2⟩ hm
  have b2 := ixb (k := k) (m := m) (x := q) (y := t) ⟨q1, q2⟩ ⟨t1, t2⟩ hm
  have b3 := ixb (k := k) (m := m) (x := x) (y := y) hx hy hm
  have b4 := ixb (k := k) (m := m) (x := u) (y := v) hu hv hm
  rw [e, ld_put hw]
  split
  · next c =>
    have c2 := c.2
    have d1 : p + k * s = x + k * y := by omega
    have d2 : q + k * t = u + k * v := by omega
    obtain ⟨e1, e2⟩ := ixu ⟨p1, p2⟩ hx d1
    obtain ⟨e3, e4⟩ := ixu ⟨q1, q2⟩ hu d2
    rw [ew, e1, e2, e3, e4]
  · next c =>
    refine h p s q t p1 p2 s1 s2 q1 q2 t1 t2 ?_
    have c2 : ¬ (s = y ∧ p = x ∧ t = v ∧ q = u) := fun d => c ⟨rfl, by rw [d.1, d.2.1, d.2.2.1, d.2.2.2, ej]⟩
    omega
theorem T2.cg {T S T' S' U : Int → Int} {k m y x v u : Int} (h : T2 T S k m y x v u U) (eT : ∀ p q : Int, 0 ≤ p → p < k → 0 ≤ q → q < k → T' (8 * p + q) = T (8 * p + q)) (eS : ∀ p q : Int, 0 ≤ p → p < m → 0 ≤ q → q < m → S' (8 * p + q) = S (8 * p + q)) : T2 T' S' k m y x v u U := fun p s q t p1 p2 s1 s2 q1 q2 t1 t2 w => by
  rw [eT p q p1 p2 q1 q2, eS s t s1 s2 t1 t2]
  exact h p s q t p1 p2 s1 s2 q1 q2 t1 t2 w
theorem T2.two {T S U : Int → Int} {k m : Int} (hk : 1 ≤ k ∧ k ≤ 8) (hm : 1 ≤ m ∧ m ≤ 8) (hkm : k * m ≤ 8) (hT : TBd T k) (hS : TBd S m) (h : T2 T S k m m 0 0 0 U) : TWO T S k m U := fun p s q t p1 p2 s1 s2 q1 q2 t1 t2 u => by
  rw [h p s q t p1 p2 s1 s2 q1 q2 t1 t2 (Or.inl s2)]
  exact pO_P2 hk hm hkm hT hS p1 p2 s1 s2 q1 q2 t1 t2 u
theorem c9_becomeMadeOfTwo {d : Nat} {Q : yM → Prop} {M : yM}   (hk13 : 1 ≤ ld M 13 0 ∧ ld M 13 0 ≤ 8) (hk7 : 1 ≤ ld M 7 0 ∧ ld M 7 0 ≤ 8) (hpm : ld M 13 0 * ld M 7 0 ≤ 8) (hf : ∀ j, 0 ≤ j → j < ld M 13 0 → 0 ≤ ld M 14 j ∧ ld M 14 j < ld M 13 0) (hg : ∀ j, 0 ≤ j → j < ld M 7 0 → 0 ≤ ld M 8 j ∧ ld M 8 j < ld M 7 0) (hT8 : T8 M 2) (h04 : ld M 4 0 = 0) (k : ∀ (M' : yM), fr (wTab) M M' → (ld M' 1 0 = ld M 13 0 * ld M 7 0) → (TW (ld M 14) (ld M 8) (ld M 13 0) (ld M 7 0) 0 (ld M' 2)) → (T8 M' 2) → (ld M' 4 0 = 0) → (TSl M' 1 (al (ld M' 1 0) + 1)) → (HJA M' 1) → (T2 (ld M 15) (ld M 9) (ld M 13 0) (ld M 7 0) (ld M 7 0) 0 0 0 (ld M' 3)) → Q M') : XCv (d + 4) 78 [.inr (.inr 1), .inr (.inr 13), .inr (.inr 7)] M Q := by
  refine eX9_becomeMadeOfTwo ?_
  have fM : fr (wTab) M M := fr.rf
  have a1 := tabSh1.2.1
  have a2 := tabSh1.2.2.1
  have a3 := tabSh1.2.2.2.1
  have a4 := tabSh1.2.2.2.2.1
  have a5 := tabSh1.2.2.2.2.2
  have b0 := ixb (k := ld M 13 0) (m := ld M 7 0) (x := 0) (y := 0) (by omega) (by omega) hpm
  have go : ∀ N : Nat, (∀ (x3 : Int) (x4 : Int) (wx5 : Option yV) (wx6 : Option yV) (wx7 : Option yV) (M9 : yM), fr (wTab) M M9 → (x3 = ld M 13 0) → (0 ≤ x4 ∧ x4 ≤ ld M 7 0) → (TB M9 (ld M 14) (ld M 8) (ld M 13 0) (ld M 7 0) x4 0) → (T2 (ld M 15) (ld M 9) (ld M 13 0) (ld M 7 0) x4 0 0 0 (ld M9 3)) → (ld M9 4 0 = 0) → ((8 - x4) * 1000000 + 500000 < (N : Int)) → XW kX9_becomeMadeOfTwo (d + 4) none (wQv Q) 26 [some (.inr (.inr 1)), some (.inr (.inr 13)), some (.inr (.inr 7)), some (.inl x3), some (.inl x4), wx5, wx6, wx7] [] M9) ∧ (∀ (x3 : Int) (x4 : Int) (x5 : Int) (wx6 : Option yV) (wx7 : Option yV) (M9 : yM), fr (wTab) M M9 → (x3 = ld M 13 0) → (0 ≤ x4 ∧ x4 < ld M 7 0) → (0 ≤ x5 ∧ x5 ≤ ld M 13 0) → (TB M9 (ld M 14) (ld M 8) (ld M 13 0) (ld M 7 0) x4 x5) → (T2 (ld M 15) (ld M 9) (ld M 13 0) (ld M 7 0) x4 x5 0 0 (ld M9 3)) → (ld M9 4 0 = 0) → ((8 - x4) * 1000000 + (8 - x5) * 10000 + 5000 < (N : Int)) → XW kX9_becomeMadeOfTwo (d + 4) none (wQv Q) 38 [some (.inr (.inr 1)), some (.inr (.inr 13)), some (.inr (.inr 7)), some (.inl x3), some (.inl x4), some (.inl x5), wx6, wx7] [] M9) ∧ (∀ (x3 : Int) (x4 : Int) (x5 : Int) (x6 : Int) (wx7 : Option yV) (M9 : yM), fr (wTab) M M9 → (x3 = ld M 13 0) → (0 ≤ x4 ∧ x4 < ld M 7 0) → (0 ≤ x5 ∧ x5 < ld M 13 0) → (TB M9 (ld M 14) (ld M 8) (ld M 13 0) (ld M 7 0) x4 (x5 + 1)) → (0 ≤ x6 ∧ x6 ≤ ld M 7 0) → (T2 (ld M 15) (ld M 9) (ld M 13 0) (ld M 7 0) x4 x5 x6 0 (ld M9 3)) → (ld M9 4 0 = 0) → ((8 - x4) * 1000000 + (8 - x5) * 10000 + (8 - x6) * 100 + 50 < (N : Int)) → XW kX9_becomeMadeOfTwo (d + 4) none (wQv Q) 76 [some (.inr (.inr 1)), some (.inr (.inr 13)), some (.inr (.inr 7)), some (.inl x3), some (.inl x4), some (.inl x5), some (.inl x6), wx7] [] M9) ∧ (∀ (x3 : Int) (x4 : Int) (x5 : Int) (x6 : Int) (x7 : Int) (M9 : yM), fr (wTab) M M9 → (x3 = ld M 13 0) → (0 ≤ x4 ∧ x4 < ld M 7 0) → (0 ≤ x5 ∧ x5 < ld M 13 0) → (TB M9 (ld M 14) (ld M 8) (ld M 13 0) (ld M 7 0) x4 (x5 + 1)) → (0 ≤ x6 ∧ x6 < ld M 7 0) → (0 ≤ x7 ∧ x7 ≤ ld M 13 0) → (T2 (ld M 15) (ld M 9) (ld M 13 0) (ld M 7 0) x4 x5 x6 x7 (ld M9 3)) → (ld M9 4 0 = 0) → ((8 - x4) * 1000000 + (8 - x5) * 10000 + (8 - x6) * 100 + 8 - x7 < (N : Int)) → XW kX9_becomeMadeOfTwo (d + 4) none (wQv Q) 88 [some (.inr (.inr 1)), some (.inr (.inr 13)), some (.inr (.inr 7)), some (.inl x3), some (.inl x4), some (.inl x5), some (.inl x6), some (.inl x7)] [] M9) := by
    intro N
    induction N with
    | zero => refine ⟨?_, ?_, ?_, ?_⟩ <;> (intros; exfalso; omega)
    | succ N ih =>
      obtain ⟨ih0, ih1, ih2, ih3⟩ := ih
      refine ⟨?_, ?_, ?_, ?_⟩
      · skip
        clear fM h04
        intro x3 x4 wx5 wx6 wx7 M1 fM i0 i1 i2 i3 h04 hm
        have k13_0 := fM.ld (o := 13) (j := 0) (by intro hw; first | omega | (dsimp only [wSub, wRun, wNar, wFil, wCan, wLst, wCar, wDr, wFl, wMq, wRd, wRx, wCr, wTab, wTr] at hw; omega) | (simp [wSub, wRun, wNar, wFil, wCan, wLst, wCar, wDr, wFl, wMq, wRd, wRx, wCr, wTab, wTr] at hw; done) | (simp [wSub, wRun, wNar, wFil, wCan, wLst, wCar, wDr, wFl, wMq, wRd, wRx, wCr, wTab, wTr] at hw; omega))
        have k7_0 := fM.ld (o := 7) (j := 0) (by intro hw; first | omega | (dsimp only [wSub, wRun, wNar, wFil, wCan, wLst, wCar, wDr, wFl, wMq, wRd, wRx, wCr, wTab, wTr] at hw; omega) | (simp [wSub, wRun, wNar, wFil, wCan, wLst, wCar, wDr, wFl, wMq, wRd, wRx, wCr, wTab, wTr] at hw; done) | (simp [wSub, wRun, wNar, wFil, wCan, wLst, wCar, wDr, wFl, wMq, wRd, wRx, wCr, wTab, wTr] at hw; omega))
        refine uX9_becomeMadeOfTwo_26 (by first | omega | assumption | with_reducible exact rng_ld _ _ _ | with_reducible exact rng_yand _ _ | with_reducible exact rng_yor _ _ | with_reducible exact rng_zcmp _ _ | with_reducible exact yand7 _ | with_reducible exact rng_toInt _ | with_reducible exact yarr23 (by omega) | with_reducible exact yarr57 (by omega) | with_reducible exact Or.inl rfl | with_reducible exact Or.inr rfl) (fun hc => ?_) (fun hc => ?_)
        · skip
          have c171 := i2.2.1
          have hx4 : x4 = ld M 7 0 := by omega
          rw [hx4] at i2
          rw [hx4] at i3
          refine uX9_becomeMadeOfTwo_171 ?_
          refine XC.deep (c9_prepare  (d := 0) (by first | assumption | exact tabSh1 | exact tabSh7 | exact tabSh13 | with_reducible exact yterm83 (by omega)) (by first | omega | assumption | with_reducible exact rng_ld _ _ _ | with_reducible exact rng_yand _ _ | with_reducible exact rng_yor _ _ | with_reducible exact rng_zcmp _ _ | with_reducible exact yand7 _ | with_reducible exact rng_toInt _ | with_reducible exact yarr23 (by omega) | with_reducible exact yarr57 (by omega) | with_reducible exact Or.inl rfl | with_reducible exact Or.inr rfl) h04 i2.2.2 (fun M2 fM2 p2a p2b p2c => ?_)) (by omega)
          replace fM := fM.tr fM2 (by intro o j hw; first | omega | exact hw | (dsimp only [wSub, wRun, wNar, wFil, wCan, wLst, wCar, wDr, wFl, wMq, wRd, wRx, wCr, wTab, wTr] at hw; dsimp only [wSub, wRun, wNar, wFil, wCan, wLst, wCar, wDr, wFl, wMq, wRd, wRx, wCr, wTab, wTr]; omega) | (dsimp only [wSub, wRun, wNar, wFil, wCan, wLst, wCar, wDr, wFl, wMq, wRd, wRx, wCr, wTab, wTr]; omega) | (dsimp only [wSub, wRun, wNar, wFil, wCan, wLst, wCar, wDr, wFl, wMq, wRd, wRx, wCr, wTab, wTr] at hw; omega) | (simp [wSub, wRun, wNar, wFil, wCan, wLst, wCar, wDr, wFl, wMq, wRd, wRx, wCr, wTab, wTr] at hw; simp [wSub, wRun, wNar, wFil, wCan, wLst, wCar, wDr, wFl, wMq, wRd, wRx, wCr, wTab, wTr]; omega))
          have k13_0 := fM.ld (o := 13) (j := 0) (by intro hw; first | omega | (dsimp only [wSub, wRun, wNar, wFil, wCan, wLst, wCar, wDr, wFl, wMq, wRd, wRx, wCr, wTab, wTr] at hw; omega) | (simp [wSub, wRun, wNar, wFil, wCan, wLst, wCar, wDr, wFl, wMq, wRd, wRx, wCr, wTab, wTr] at hw; done) | (simp [wSub, wRun, wNar, wFil, wCan, wLst, wCar, wDr, wFl, wMq, wRd, wRx, wCr, wTab, wTr] at hw; omega))
          have k7_0 := fM.ld (o := 7) (j := 0) (by intro hw; first | omega | (dsimp only [wSub, wRun, wNar, wFil, wCan, wLst, wCar, wDr, wFl, wMq, wRd, wRx, wCr, wTab, wTr] at hw; omega) | (simp [wSub, wRun, wNar, wFil, wCan, wLst, wCar, wDr, wFl, wMq, wRd, wRx, wCr, wTab, wTr] at hw; done) | (simp [wSub, wRun, wNar, wFil, wCan, wLst, wCar, wDr, wFl, wMq, wRd, wRx, wCr, wTab, wTr] at hw; omega))
          replace h04 : ld M2 4 0 = 0 := by first | assumption | (rw [fM2.ld (o := 4) (j := 0) (by intro hw; first | omega | (dsimp only [wSub, wRun, wNar, wFil, wCan, wLst, wCar, wDr, wFl, wMq, wRd, wRx, wCr, wTab, wTr] at hw; omega) | (simp [wSub, wRun, wNar, wFil, wCan, wLst, wCar, wDr, wFl, wMq, wRd, wRx, wCr, wTab, wTr] at hw; done) | (simp [wSub, wRun, wNar, wFil, wCan, wLst, wCar, wDr, wFl, wMq, wRd, wRx, wCr, wTab, wTr] at hw; omega))]; exact h04) | omega | exact p2a | exact p2b | exact p2c
          have t171 := i2.fr fM2 (fun _ => by omega) (by omega)
          have z1 := p2b
          have z2 := p2c
          have z3 : T2 (ld M 15) (ld M 9) (ld M 13 0) (ld M 7 0) (ld M 7 0) 0 0 0 (ld M2 3) := by
            rw [show ld M2 3 = ld M1 3 from funext fun j => fM2.ld (by omega)]
            exact i3
          refine uX9_becomeMadeOfTwo_175 ?_
          exact k _ fM t171.2.1 t171.1 t171.2.2 h04 z1 z2 z3
        · skip
          refine uX9_becomeMadeOfTwo_35 ?_
          exact ih1 _ _ _ _ _ M1 fM (by first | omega | assumption | with_reducible exact rng_ld _ _ _ | with_reducible exact rng_yand _ _ | with_reducible exact rng_yor _ _ | with_reducible exact rng_zcmp _ _ | with_reducible exact yand7 _ | with_reducible exact rng_toInt _ | with_reducible exact yarr23 (by omega) | with_reducible exact yarr57 (by omega) | with_reducible exact Or.inl rfl | with_reducible exact Or.inr rfl) (by first | omega | assumption | with_reducible exact rng_ld _ _ _ | with_reducible exact rng_yand _ _ | with_reducible exact rng_yor _ _ | with_reducible exact rng_zcmp _ _ | with_reducible exact yand7 _ | with_reducible exact rng_toInt _ | with_reducible exact yarr23 (by omega) | with_reducible exact yarr57 (by omega) | with_reducible exact Or.inl rfl | with_reducible exact Or.inr rfl) (by first | omega | assumption | with_reducible exact rng_ld _ _ _ | with_reducible exact rng_yand _ _ | with_reducible exact rng_yor _ _ | with_reducible exact rng_zcmp _ _ | with_reducible exact yand7 _ | with_reducible exact rng_toInt _ | with_reducible exact yarr23 (by omega) | with_reducible exact yarr57 (by omega) | with_reducible exact Or.inl rfl | with_reducible exact Or.inr rfl) (by first | assumption | exact i2) (by first | exact u159 | exact i3) h04 (by omega)
      · skip
        clear fM h04
        intro x3 x4 x5 wx6 wx7 M3 fM i0 i1 i2 i3 i4 h04 hm
        have k13_0 := fM.ld (o := 13) (j := 0) (by intro hw; first | omega | (dsimp only [wSub, wRun, wNar, wFil, wCan, wLst, wCar, wDr, wFl, wMq, wRd, wRx, wCr, wTab, wTr] at hw; omega) | (simp [wSub, wRun, wNar, wFil, wCan, wLst, wCar, wDr, wFl, wMq, wRd, wRx, wCr, wTab, wTr] at hw; done) | (simp [wSub, wRun, wNar, wFil, wCan, wLst, wCar, wDr, wFl, wMq, wRd, wRx, wCr, wTab, wTr] at hw; omega))
        have k7_0 := fM.ld (o := 7) (j := 0) (by intro hw; first | omega | (dsimp only [wSub, wRun, wNar, wFil, wCan, wLst, wCar, wDr, wFl, wMq, wRd, wRx, wCr, wTab, wTr] at hw; omega) | (simp [wSub, wRun, wNar, wFil, wCan, wLst, wCar, wDr, wFl, wMq, wRd, wRx, wCr, wTab, wTr] at hw; done) | (simp [wSub, wRun, wNar, wFil, wCan, wLst, wCar, wDr, wFl, wMq, wRd, wRx, wCr, wTab, wTr] at hw; omega))
        refine uX9_becomeMadeOfTwo_38 (by first | omega | assumption | with_reducible exact rng_ld _ _ _ | with_reducible exact rng_yand _ _ | with_reducible exact rng_yor _ _ | with_reducible exact rng_zcmp _ _ | with_reducible exact yand7 _ | with_reducible exact rng_toInt _ | with_reducible exact yarr23 (by omega) | with_reducible exact yarr57 (by omega) | with_reducible exact Or.inl rfl | with_reducible exact Or.inr rfl) (by first | omega | assumption | with_reducible exact rng_ld _ _ _ | with_reducible exact rng_yand _ _ | with_reducible exact rng_yor _ _ | with_reducible exact rng_zcmp _ _ | with_reducible exact yand7 _ | with_reducible exact rng_toInt _ | with_reducible exact yarr23 (by omega) | with_reducible exact yarr57 (by omega) | with_reducible exact Or.inl rfl | with_reducible exact Or.inr rfl) (fun hc => ?_) (fun hc => ?_)
        · skip
          have t165 := i3.row (by omega)
          have u165 : T2 (ld M 15) (ld M 9) (ld M 13 0) (ld M 7 0) (x4 + 1) 0 0 0 (ld M3 3) := i4.up (fun p s q t a0 a2 a4 a6 a8 a9 => by omega)
          refine uX9_becomeMadeOfTwo_165 ?_
          exact ih0 _ _ _ _ _ M3 fM (by first | omega | assumption | with_reducible exact rng_ld _ _ _ | with_reducible exact rng_yand _ _ | with_reducible exact rng_yor _ _ | with_reducible exact rng_zcmp _ _ | with_reducible exact yand7 _ | with_reducible exact rng_toInt _ | with_reducible exact yarr23 (by omega) | with_reducible exact yarr57 (by omega) | with_reducible exact Or.inl rfl | with_reducible exact Or.inr rfl) (by first | omega | assumption | with_reducible exact rng_ld _ _ _ | with_reducible exact rng_yand _ _ | with_reducible exact rng_yor _ _ | with_reducible exact rng_zcmp _ _ | with_reducible exact yand7 _ | with_reducible exact rng_toInt _ | with_reducible exact yarr23 (by omega) | with_reducible exact yarr57 (by omega) | with_reducible exact Or.inl rfl | with_reducible exact Or.inr rfl) (by first | exact t23 | exact t165) (by first | exact u165 | exact (fun p s q t a1 a2 a3 a4 a5 a6 a7 a8 a9 => absurd a9 (by omega))) h04 (by omega)
        · skip
          subst i0
          have w5 : ld M3 14 x5 = ld M 14 x5 := fM.ld (by dsimp only [wTab]; omega)
          have w4 : ld M3 8 x4 = ld M 8 x4 := fM.ld (by dsimp only [wTab]; omega)
          have b5 := ixb (k := ld M 13 0) (m := ld M 7 0) (x := x5) (y := x4) (by omega) (by omega) hpm
          refine uX9_becomeMadeOfTwo_44 (by first | omega | assumption | with_reducible exact rng_ld _ _ _ | with_reducible exact rng_yand _ _ | with_reducible exact rng_yor _ _ | with_reducible exact rng_zcmp _ _ | with_reducible exact yand7 _ | with_reducible exact rng_toInt _ | with_reducible exact yarr23 (by omega) | with_reducible exact yarr57 (by omega) | with_reducible exact Or.inl rfl | with_reducible exact Or.inr rfl) (by first | omega | assumption | with_reducible exact rng_ld _ _ _ | with_reducible exact rng_yand _ _ | with_reducible exact rng_yor _ _ | with_reducible exact rng_zcmp _ _ | with_reducible exact yand7 _ | with_reducible exact rng_toInt _ | with_reducible exact yarr23 (by omega) | with_reducible exact yarr57 (by omega) | with_reducible exact Or.inl rfl | with_reducible exact Or.inr rfl) (by first | omega | assumption | with_reducible exact rng_ld _ _ _ | with_reducible exact rng_yand _ _ | with_reducible exact rng_yor _ _ | with_reducible exact rng_zcmp _ _ | with_reducible exact yand7 _ | with_reducible exact rng_toInt _ | with_reducible exact yarr23 (by omega) | with_reducible exact yarr57 (by omega) | with_reducible exact Or.inl rfl | with_reducible exact Or.inr rfl) ?_
          intro M4 hM4
          replace fM := fr.put fM hM4 (by first | omega | (dsimp only [wSub, wRun, wNar, wFil, wCan, wLst, wCar, wDr, wFl, wMq, wRd, wRx, wCr, wTab, wTr]; done) | (dsimp only [wSub, wRun, wNar, wFil, wCan, wLst, wCar, wDr, wFl, wMq, wRd, wRx, wCr, wTab, wTr]; omega) | (simp [wSub, wRun, wNar, wFil, wCan, wLst, wCar, wDr, wFl, wMq, wRd, wRx, wCr, wTab, wTr]; done) | (simp [wSub, wRun, wNar, wFil, wCan, wLst, wCar, wDr, wFl, wMq, wRd, wRx, wCr, wTab, wTr]; omega))
          have k13_0 := fM.ld (o := 13) (j := 0) (by intro hw; first | omega | (dsimp only [wSub, wRun, wNar, wFil, wCan, wLst, wCar, wDr, wFl, wMq, wRd, wRx, wCr, wTab, wTr] at hw; omega) | (simp [wSub, wRun, wNar, wFil, wCan, wLst, wCar, wDr, wFl, wMq, wRd, wRx, wCr, wTab, wTr] at hw; done) | (simp [wSub, wRun, wNar, wFil, wCan, wLst, wCar, wDr, wFl, wMq, wRd, wRx, wCr, wTab, wTr] at hw; omega))
          have k7_0 := fM.ld (o := 7) (j := 0) (by intro hw; first | omega | (dsimp only [wSub, wRun, wNar, wFil, wCan, wLst, wCar, wDr, wFl, wMq, wRd, wRx, wCr, wTab, wTr] at hw; omega) | (simp [wSub, wRun, wNar, wFil, wCan, wLst, wCar, wDr, wFl, wMq, wRd, wRx, wCr, wTab, wTr] at hw; done) | (simp [wSub, wRun, wNar, wFil, wCan, wLst, wCar, wDr, wFl, wMq, wRd, wRx, wCr, wTab, wTr] at hw; omega))
          replace h04 : ld M4 4 0 = 0 := by first | (rw [hM4, ld_putne (by omega)]; exact h04) | (rw [hM4, ld_same (by omega)]; omega) | (rw [hM4, ld_cpyne (by omega)]; exact h04) | (rw [hM4, ld_putL]; exact h04)
          rw [w5, w4] at hM4
          have t44 := i3.s hf hg hpm (by omega) (by omega) hM4
          have u44 : T2 (ld M 15) (ld M 9) (ld M 13 0) (ld M 7 0) x4 x5 0 0 (ld M4 3) := by
            rw [show ld M4 3 = ld M3 3 from funext fun j => by rw [hM4, ld_putne (Or.inl (by omega))]]
            exact i4
          refine uX9_becomeMadeOfTwo_73 ?_
          exact ih2 _ _ _ _ _ M4 fM (by first | omega | assumption | with_reducible exact rng_ld _ _ _ | with_reducible exact rng_yand _ _ | with_reducible exact rng_yor _ _ | with_reducible exact rng_zcmp _ _ | with_reducible exact yand7 _ | with_reducible exact rng_toInt _ | with_reducible exact yarr23 (by omega) | with_reducible exact yarr57 (by omega) | with_reducible exact Or.inl rfl | with_reducible exact Or.inr rfl) (by first | omega | assumption | with_reducible exact rng_ld _ _ _ | with_reducible exact rng_yand _ _ | with_reducible exact rng_yor _ _ | with_reducible exact rng_zcmp _ _ | with_reducible exact yand7 _ | with_reducible exact rng_toInt _ | with_reducible exact yarr23 (by omega) | with_reducible exact yarr57 (by omega) | with_reducible exact Or.inl rfl | with_reducible exact Or.inr rfl) (by first | omega | assumption | with_reducible exact rng_ld _ _ _ | with_reducible exact rng_yand _ _ | with_reducible exact rng_yor _ _ | with_reducible exact rng_zcmp _ _ | with_reducible exact yand7 _ | with_reducible exact rng_toInt _ | with_reducible exact yarr23 (by omega) | with_reducible exact yarr57 (by omega) | with_reducible exact Or.inl rfl | with_reducible exact Or.inr rfl) (by first | exact t44 | assumption) (by first | omega | assumption | with_reducible exact rng_ld _ _ _ | with_reducible exact rng_yand _ _ | with_reducible exact rng_yor _ _ | with_reducible exact rng_zcmp _ _ | with_reducible exact yand7 _ | with_reducible exact rng_toInt _ | with_reducible exact yarr23 (by omega) | with_reducible exact yarr57 (by omega) | with_reducible exact Or.inl rfl | with_reducible exact Or.inr rfl) (by first | exact u153 | exact u44) h04 (by omega)
      · skip
        clear fM h04
        intro x3 x4 x5 x6 wx7 M5 fM i0 i1 i2 i3 i4 i5 h04 hm
        have k13_0 := fM.ld (o := 13) (j := 0) (by intro hw; first | omega | (dsimp only [wSub, wRun, wNar, wFil, wCan, wLst, wCar, wDr, wFl, wMq, wRd, wRx, wCr, wTab, wTr] at hw; omega) | (simp [wSub, wRun, wNar, wFil, wCan, wLst, wCar, wDr, wFl, wMq, wRd, wRx, wCr, wTab, wTr] at hw; done) | (simp [wSub, wRun, wNar, wFil, wCan, wLst, wCar, wDr, wFl, wMq, wRd, wRx, wCr, wTab, wTr] at hw; omega))
        have k7_0 := fM.ld (o := 7) (j := 0) (by intro hw; first | omega | (dsimp only [wSub, wRun, wNar, wFil, wCan, wLst, wCar, wDr, wFl, wMq, wRd, wRx, wCr, wTab, wTr] at hw; omega) | (simp [wSub, wRun, wNar, wFil, wCan, wLst, wCar, wDr, wFl, wMq, wRd, wRx, wCr, wTab, wTr] at hw; done) | (simp [wSub, wRun, wNar, wFil, wCan, wLst, wCar, wDr, wFl, wMq, wRd, wRx, wCr, wTab, wTr] at hw; omega))
        refine uX9_becomeMadeOfTwo_76 (by first | omega | assumption | with_reducible exact rng_ld _ _ _ | with_reducible exact rng_yand _ _ | with_reducible exact rng_yor _ _ | with_reducible exact rng_zcmp _ _ | with_reducible exact yand7 _ | with_reducible exact rng_toInt _ | with_reducible exact yarr23 (by omega) | with_reducible exact yarr57 (by omega) | with_reducible exact Or.inl rfl | with_reducible exact Or.inr rfl) (fun hc => ?_) (fun hc => ?_)
        · skip
          have u159 : T2 (ld M 15) (ld M 9) (ld M 13 0) (ld M 7 0) x4 (x5 + 1) 0 0 (ld M5 3) := i5.up (fun p s q t a0 a2 a4 a6 a8 a9 => by omega)
          refine uX9_becomeMadeOfTwo_159 ?_
          exact ih1 _ _ _ _ _ M5 fM (by first | omega | assumption | with_reducible exact rng_ld _ _ _ | with_reducible exact rng_yand _ _ | with_reducible exact rng_yor _ _ | with_reducible exact rng_zcmp _ _ | with_reducible exact yand7 _ | with_reducible exact rng_toInt _ | with_reducible exact yarr23 (by omega) | with_reducible exact yarr57 (by omega) | with_reducible exact Or.inl rfl | with_reducible exact Or.inr rfl) (by first | omega | assumption | with_reducible exact rng_ld _ _ _ | with_reducible exact rng_yand _ _ | with_reducible exact rng_yor _ _ | with_reducible exact rng_zcmp _ _ | with_reducible exact yand7 _ | with_reducible exact rng_toInt _ | with_reducible exact yarr23 (by omega) | with_reducible exact yarr57 (by omega) | with_reducible exact Or.inl rfl | with_reducible exact Or.inr rfl) (by first | omega | assumption | with_reducible exact rng_ld _ _ _ | with_reducible exact rng_yand _ _ | with_reducible exact rng_yor _ _ | with_reducible exact rng_zcmp _ _ | with_reducible exact yand7 _ | with_reducible exact rng_toInt _ | with_reducible exact yarr23 (by omega) | with_reducible exact yarr57 (by omega) | with_reducible exact Or.inl rfl | with_reducible exact Or.inr rfl) (by first | assumption | exact i2) (by first | exact u159 | exact i3) h04 (by omega)
        · skip
          refine uX9_becomeMadeOfTwo_85 ?_
          exact ih3 _ _ _ _ _ M5 fM (by first | omega | assumption | with_reducible exact rng_ld _ _ _ | with_reducible exact rng_yand _ _ | with_reducible exact rng_yor _ _ | with_reducible exact rng_zcmp _ _ | with_reducible exact yand7 _ | with_reducible exact rng_toInt _ | with_reducible exact yarr23 (by omega) | with_reducible exact yarr57 (by omega) | with_reducible exact Or.inl rfl | with_reducible exact Or.inr rfl) (by first | omega | assumption | with_reducible exact rng_ld _ _ _ | with_reducible exact rng_yand _ _ | with_reducible exact rng_yor _ _ | with_reducible exact rng_zcmp _ _ | with_reducible exact yand7 _ | with_reducible exact rng_toInt _ | with_reducible exact yarr23 (by omega) | with_reducible exact yarr57 (by omega) | with_reducible exact Or.inl rfl | with_reducible exact Or.inr rfl) (by first | omega | assumption | with_reducible exact rng_ld _ _ _ | with_reducible exact rng_yand _ _ | with_reducible exact rng_yor _ _ | with_reducible exact rng_zcmp _ _ | with_reducible exact yand7 _ | with_reducible exact rng_toInt _ | with_reducible exact yarr23 (by omega) | with_reducible exact yarr57 (by omega) | with_reducible exact Or.inl rfl | with_reducible exact Or.inr rfl) (by first | exact t146 | assumption) (by first | omega | assumption | with_reducible exact rng_ld _ _ _ | with_reducible exact rng_yand _ _ | with_reducible exact rng_yor _ _ | with_reducible exact rng_zcmp _ _ | with_reducible exact yand7 _ | with_reducible exact rng_toInt _ | with_reducible exact yarr23 (by omega) | with_reducible exact yarr57 (by omega) | with_reducible exact Or.inl rfl | with_reducible exact Or.inr rfl) (by first | omega | assumption | with_reducible exact rng_ld _ _ _ | with_reducible exact rng_yand _ _ | with_reducible exact rng_yor _ _ | with_reducible exact rng_zcmp _ _ | with_reducible exact yand7 _ | with_reducible exact rng_toInt _ | with_reducible exact yarr23 (by omega) | with_reducible exact yarr57 (by omega) | with_reducible exact Or.inl rfl | with_reducible exact Or.inr rfl) (by first | exact u146 | exact i5) h04 (by omega)
      · skip
        clear fM h04
        intro x3 x4 x5 x6 x7 M6 fM i0 i1 i2 i3 i4 i5 i6 h04 hm
        have k13_0 := fM.ld (o := 13) (j := 0) (by intro hw; first | omega | (dsimp only [wSub, wRun, wNar, wFil, wCan, wLst, wCar, wDr, wFl, wMq, wRd, wRx, wCr, wTab, wTr] at hw; omega) | (simp [wSub, wRun, wNar, wFil, wCan, wLst, wCar, wDr, wFl, wMq, wRd, wRx, wCr, wTab, wTr] at hw; done) | (simp [wSub, wRun, wNar, wFil, wCan, wLst, wCar, wDr, wFl, wMq, wRd, wRx, wCr, wTab, wTr] at hw; omega))
        have k7_0 := fM.ld (o := 7) (j := 0) (by intro hw; first | omega | (dsimp only [wSub, wRun, wNar, wFil, wCan, wLst, wCar, wDr, wFl, wMq, wRd, wRx, wCr, wTab, wTr] at hw; omega) | (simp [wSub, wRun, wNar, wFil, wCan, wLst, wCar, wDr, wFl, wMq, wRd, wRx, wCr, wTab, wTr] at hw; done) | (simp [wSub, wRun, wNar, wFil, wCan, wLst, wCar, wDr, wFl, wMq, wRd, wRx, wCr, wTab, wTr] at hw; omega))
        refine uX9_becomeMadeOfTwo_88 (by first | omega | assumption | with_reducible exact rng_ld _ _ _ | with_reducible exact rng_yand _ _ | with_reducible exact rng_yor _ _ | with_reducible exact rng_zcmp _ _ | with_reducible exact yand7 _ | with_reducible exact rng_toInt _ | with_reducible exact yarr23 (by omega) | with_reducible exact yarr57 (by omega) | with_reducible exact Or.inl rfl | with_reducible exact Or.inr rfl) (by first | omega | assumption | with_reducible exact rng_ld _ _ _ | with_reducible exact rng_yand _ _ | with_reducible exact rng_yor _ _ | with_reducible exact rng_zcmp _ _ | with_reducible exact yand7 _ | with_reducible exact rng_toInt _ | with_reducible exact yarr23 (by omega) | with_reducible exact yarr57 (by omega) | with_reducible exact Or.inl rfl | with_reducible exact Or.inr rfl) (fun hc => ?_) (fun hc => ?_)
        · skip
          have u153 : T2 (ld M 15) (ld M 9) (ld M 13 0) (ld M 7 0) x4 x5 (x6 + 1) 0 (ld M6 3) := i6.up (fun p s q t a0 a2 a4 a6 a8 a9 => by omega)
          refine uX9_becomeMadeOfTwo_153 ?_
          exact ih2 _ _ _ _ _ M6 fM (by first | omega | assumption | with_reducible exact rng_ld _ _ _ | with_reducible exact rng_yand _ _ | with_reducible exact rng_yor _ _ | with_reducible exact rng_zcmp _ _ | with_reducible exact yand7 _ | with_reducible exact rng_toInt _ | with_reducible exact yarr23 (by omega) | with_reducible exact yarr57 (by omega) | with_reducible exact Or.inl rfl | with_reducible exact Or.inr rfl) (by first | omega | assumption | with_reducible exact rng_ld _ _ _ | with_reducible exact rng_yand _ _ | with_reducible exact rng_yor _ _ | with_reducible exact rng_zcmp _ _ | with_reducible exact yand7 _ | with_reducible exact rng_toInt _ | with_reducible exact yarr23 (by omega) | with_reducible exact yarr57 (by omega) | with_reducible exact Or.inl rfl | with_reducible exact Or.inr rfl) (by first | omega | assumption | with_reducible exact rng_ld _ _ _ | with_reducible exact rng_yand _ _ | with_reducible exact rng_yor _ _ | with_reducible exact rng_zcmp _ _ | with_reducible exact yand7 _ | with_reducible exact rng_toInt _ | with_reducible exact yarr23 (by omega) | with_reducible exact yarr57 (by omega) | with_reducible exact Or.inl rfl | with_reducible exact Or.inr rfl) (by first | exact t44 | assumption) (by first | omega | assumption | with_reducible exact rng_ld _ _ _ | with_reducible exact rng_yand _ _ | with_reducible exact rng_yor _ _ | with_reducible exact rng_zcmp _ _ | with_reducible exact yand7 _ | with_reducible exact rng_toInt _ | with_reducible exact yarr23 (by omega) | with_reducible exact yarr57 (by omega) | with_reducible exact Or.inl rfl | with_reducible exact Or.inr rfl) (by first | exact u153 | exact u44) h04 (by omega)
        · skip
          subst i0
          have b5 := ixb (k := ld M 13 0) (m := ld M 7 0) (x := x5) (y := x4) (by omega) (by omega) hpm
          have b7 := ixb (k := ld M 13 0) (m := ld M 7 0) (x := x7) (y := x6) (by omega) (by omega) hpm
          have w15 : ld M6 15 (8 * x5 + x7) = ld M 15 (8 * x5 + x7) := fM.ld (by dsimp only [wTab]; omega)
          have w9 : ld M6 9 (8 * x4 + x6) = ld M 9 (8 * x4 + x6) := fM.ld (by dsimp only [wTab]; omega)
          refine uX9_becomeMadeOfTwo_94 (by first | omega | assumption | with_reducible exact rng_ld _ _ _ | with_reducible exact rng_yand _ _ | with_reducible exact rng_yor _ _ | with_reducible exact rng_zcmp _ _ | with_reducible exact yand7 _ | with_reducible exact rng_toInt _ | with_reducible exact yarr23 (by omega) | with_reducible exact yarr57 (by omega) | with_reducible exact Or.inl rfl | with_reducible exact Or.inr rfl) (by first | omega | assumption | with_reducible exact rng_ld _ _ _ | with_reducible exact rng_yand _ _ | with_reducible exact rng_yor _ _ | with_reducible exact rng_zcmp _ _ | with_reducible exact yand7 _ | with_reducible exact rng_toInt _ | with_reducible exact yarr23 (by omega) | with_reducible exact yarr57 (by omega) | with_reducible exact Or.inl rfl | with_reducible exact Or.inr rfl) ?_
          refine c9_paired   (fun v94 p7a => ?_)
          have r94 := p7a
          rw [w15, w9] at r94
          refine uX9_becomeMadeOfTwo_146 (by first | omega | assumption | with_reducible exact rng_ld _ _ _ | with_reducible exact rng_yand _ _ | with_reducible exact rng_yor _ _ | with_reducible exact rng_zcmp _ _ | with_reducible exact yand7 _ | with_reducible exact rng_toInt _ | with_reducible exact yarr23 (by omega) | with_reducible exact yarr57 (by omega) | with_reducible exact Or.inl rfl | with_reducible exact Or.inr rfl) ?_
          intro M8 hM8
          replace fM := fr.put fM hM8 (by first | omega | (dsimp only [wSub, wRun, wNar, wFil, wCan, wLst, wCar, wDr, wFl, wMq, wRd, wRx, wCr, wTab, wTr]; done) | (dsimp only [wSub, wRun, wNar, wFil, wCan, wLst, wCar, wDr, wFl, wMq, wRd, wRx, wCr, wTab, wTr]; omega) | (simp [wSub, wRun, wNar, wFil, wCan, wLst, wCar, wDr, wFl, wMq, wRd, wRx, wCr, wTab, wTr]; done) | (simp [wSub, wRun, wNar, wFil, wCan, wLst, wCar, wDr, wFl, wMq, wRd, wRx, wCr, wTab, wTr]; omega))
          have k13_0 := fM.ld (o := 13) (j := 0) (by intro hw; first | omega | (dsimp only [wSub, wRun, wNar, wFil, wCan, wLst, wCar, wDr, wFl, wMq, wRd, wRx, wCr, wTab, wTr] at hw; omega) | (simp [wSub, wRun, wNar, wFil, wCan, wLst, wCar, wDr, wFl, wMq, wRd, wRx, wCr, wTab, wTr] at hw; done) | (simp [wSub, wRun, wNar, wFil, wCan, wLst, wCar, wDr, wFl, wMq, wRd, wRx, wCr, wTab, wTr] at hw; omega))
          have k7_0 := fM.ld (o := 7) (j := 0) (by intro hw; first | omega | (dsimp only [wSub, wRun, wNar, wFil, wCan, wLst, wCar, wDr, wFl, wMq, wRd, wRx, wCr, wTab, wTr] at hw; omega) | (simp [wSub, wRun, wNar, wFil, wCan, wLst, wCar, wDr, wFl, wMq, wRd, wRx, wCr, wTab, wTr] at hw; done) | (simp [wSub, wRun, wNar, wFil, wCan, wLst, wCar, wDr, wFl, wMq, wRd, wRx, wCr, wTab, wTr] at hw; omega))
          replace h04 : ld M8 4 0 = 0 := by first | (rw [hM8, ld_putne (by omega)]; exact h04) | (rw [hM8, ld_same (by omega)]; omega) | (rw [hM8, ld_cpyne (by omega)]; exact h04) | (rw [hM8, ld_putL]; exact h04)
          have t146 := i3.put3 hM8
          have u146 := i6.s (by omega) hpm (by omega) (by omega) (by omega) (by omega) hM8 (by omega) r94
          refine uX9_becomeMadeOfTwo_147 ?_
          exact ih3 _ _ _ _ _ M8 fM (by first | omega | assumption | with_reducible exact rng_ld _ _ _ | with_reducible exact rng_yand _ _ | with_reducible exact rng_yor _ _ | with_reducible exact rng_zcmp _ _ | with_reducible exact yand7 _ | with_reducible exact rng_toInt _ | with_reducible exact yarr23 (by omega) | with_reducible exact yarr57 (by omega) | with_reducible exact Or.inl rfl | with_reducible exact Or.inr rfl) (by first | omega | assumption | with_reducible exact rng_ld _ _ _ | with_reducible exact rng_yand _ _ | with_reducible exact rng_yor _ _ | with_reducible exact rng_zcmp _ _ | with_reducible exact yand7 _ | with_reducible exact rng_toInt _ | with_reducible exact yarr23 (by omega) | with_reducible exact yarr57 (by omega) | with_reducible exact Or.inl rfl | with_reducible exact Or.inr rfl) (by first | omega | assumption | with_reducible exact rng_ld _ _ _ | with_reducible exact rng_yand _ _ | with_reducible exact rng_yor _ _ | with_reducible exact rng_zcmp _ _ | with_reducible exact yand7 _ | with_reducible exact rng_toInt _ | with_reducible exact yarr23 (by omega) | with_reducible exact yarr57 (by omega) | with_reducible exact Or.inl rfl | with_reducible exact Or.inr rfl) (by first | exact t146 | assumption) (by first | omega | assumption | with_reducible exact rng_ld _ _ _ | with_reducible exact rng_yand _ _ | with_reducible exact rng_yor _ _ | with_reducible exact rng_zcmp _ _ | with_reducible exact yand7 _ | with_reducible exact rng_toInt _ | with_reducible exact yarr23 (by omega) | with_reducible exact yarr57 (by omega) | with_reducible exact Or.inl rfl | with_reducible exact Or.inr rfl) (by first | omega | assumption | with_reducible exact rng_ld _ _ _ | with_reducible exact rng_yand _ _ | with_reducible exact rng_yor _ _ | with_reducible exact rng_zcmp _ _ | with_reducible exact yand7 _ | with_reducible exact rng_toInt _ | with_reducible exact yarr23 (by omega) | with_reducible exact yarr57 (by omega) | with_reducible exact Or.inl rfl | with_reducible exact Or.inr rfl) (by first | exact u146 | exact i5) h04 (by omega)
  refine uX9_becomeMadeOfTwo_0 ?_
  intro M9 hM9
  replace fM := fr.put fM hM9 (by first | omega | (dsimp only [wSub, wRun, wNar, wFil, wCan, wLst, wCar, wDr, wFl, wMq, wRd, wRx, wCr, wTab, wTr]; done) | (dsimp only [wSub, wRun, wNar, wFil, wCan, wLst, wCar, wDr, wFl, wMq, wRd, wRx, wCr, wTab, wTr]; omega) | (simp [wSub, wRun, wNar, wFil, wCan, wLst, wCar, wDr, wFl, wMq, wRd, wRx, wCr, wTab, wTr]; done) | (simp [wSub, wRun, wNar, wFil, wCan, wLst, wCar, wDr, wFl, wMq, wRd, wRx, wCr, wTab, wTr]; omega))
  have k13_0 := fM.ld (o := 13) (j := 0) (by intro hw; first | omega | (dsimp only [wSub, wRun, wNar, wFil, wCan, wLst, wCar, wDr, wFl, wMq, wRd, wRx, wCr, wTab, wTr] at hw; omega) | (simp [wSub, wRun, wNar, wFil, wCan, wLst, wCar, wDr, wFl, wMq, wRd, wRx, wCr, wTab, wTr] at hw; done) | (simp [wSub, wRun, wNar, wFil, wCan, wLst, wCar, wDr, wFl, wMq, wRd, wRx, wCr, wTab, wTr] at hw; omega))
  have k7_0 := fM.ld (o := 7) (j := 0) (by intro hw; first | omega | (dsimp only [wSub, wRun, wNar, wFil, wCan, wLst, wCar, wDr, wFl, wMq, wRd, wRx, wCr, wTab, wTr] at hw; omega) | (simp [wSub, wRun, wNar, wFil, wCan, wLst, wCar, wDr, wFl, wMq, wRd, wRx, wCr, wTab, wTr] at hw; done) | (simp [wSub, wRun, wNar, wFil, wCan, wLst, wCar, wDr, wFl, wMq, wRd, wRx, wCr, wTab, wTr] at hw; omega))
  replace h04 : ld M9 4 0 = 0 := by first | (rw [hM9, ld_putne (by omega)]; exact h04) | (rw [hM9, ld_same (by omega)]; omega) | (rw [hM9, ld_cpyne (by omega)]; exact h04) | (rw [hM9, ld_putL]; exact h04)
  have t0 : ld M9 1 0 = ld M 13 0 * ld M 7 0 := by rw [hM9, ld_same (by omega)]
  have t01 := hT8.pt hM9 (fun q => absurd q (by omega))
  refine uX9_becomeMadeOfTwo_15 ?_
  refine cJ7_fillv  (by first | assumption | exact ⟨rfl, Nat.le_of_ble_eq_true rfl⟩ | with_reducible exact yarr23 (by omega) | with_reducible exact yarr57 (by omega)) (by first | omega | assumption | with_reducible exact rng_ld _ _ _ | with_reducible exact rng_yand _ _ | with_reducible exact rng_yor _ _ | with_reducible exact rng_zcmp _ _ | with_reducible exact yand7 _ | with_reducible exact rng_toInt _ | with_reducible exact yarr23 (by omega) | with_reducible exact yarr57 (by omega) | with_reducible exact Or.inl rfl | with_reducible exact Or.inr rfl) (fun M10 fM10 p10a => ?_)
  replace fM := fM.tr fM10 (by intro o j hw; first | omega | exact hw | (dsimp only [wSub, wRun, wNar, wFil, wCan, wLst, wCar, wDr, wFl, wMq, wRd, wRx, wCr, wTab, wTr] at hw; dsimp only [wSub, wRun, wNar, wFil, wCan, wLst, wCar, wDr, wFl, wMq, wRd, wRx, wCr, wTab, wTr]; omega) | (dsimp only [wSub, wRun, wNar, wFil, wCan, wLst, wCar, wDr, wFl, wMq, wRd, wRx, wCr, wTab, wTr]; omega) | (dsimp only [wSub, wRun, wNar, wFil, wCan, wLst, wCar, wDr, wFl, wMq, wRd, wRx, wCr, wTab, wTr] at hw; omega) | (simp [wSub, wRun, wNar, wFil, wCan, wLst, wCar, wDr, wFl, wMq, wRd, wRx, wCr, wTab, wTr] at hw; simp [wSub, wRun, wNar, wFil, wCan, wLst, wCar, wDr, wFl, wMq, wRd, wRx, wCr, wTab, wTr]; omega))
  have k13_0 := fM.ld (o := 13) (j := 0) (by intro hw; first | omega | (dsimp only [wSub, wRun, wNar, wFil, wCan, wLst, wCar, wDr, wFl, wMq, wRd, wRx, wCr, wTab, wTr] at hw; omega) | (simp [wSub, wRun, wNar, wFil, wCan, wLst, wCar, wDr, wFl, wMq, wRd, wRx, wCr, wTab, wTr] at hw; done) | (simp [wSub, wRun, wNar, wFil, wCan, wLst, wCar, wDr, wFl, wMq, wRd, wRx, wCr, wTab, wTr] at hw; omega))
  have k7_0 := fM.ld (o := 7) (j := 0) (by intro hw; first | omega | (dsimp only [wSub, wRun, wNar, wFil, wCan, wLst, wCar, wDr, wFl, wMq, wRd, wRx, wCr, wTab, wTr] at hw; omega) | (simp [wSub, wRun, wNar, wFil, wCan, wLst, wCar, wDr, wFl, wMq, wRd, wRx, wCr, wTab, wTr] at hw; done) | (simp [wSub, wRun, wNar, wFil, wCan, wLst, wCar, wDr, wFl, wMq, wRd, wRx, wCr, wTab, wTr] at hw; omega))
  replace h04 : ld M10 4 0 = 0 := by first | assumption | (rw [fM10.ld (o := 4) (j := 0) (by intro hw; first | omega | (dsimp only [wSub, wRun, wNar, wFil, wCan, wLst, wCar, wDr, wFl, wMq, wRd, wRx, wCr, wTab, wTr] at hw; omega) | (simp [wSub, wRun, wNar, wFil, wCan, wLst, wCar, wDr, wFl, wMq, wRd, wRx, wCr, wTab, wTr] at hw; done) | (simp [wSub, wRun, wNar, wFil, wCan, wLst, wCar, wDr, wFl, wMq, wRd, wRx, wCr, wTab, wTr] at hw; omega))]; exact h04) | omega | exact p10a
  have t23 : TB M10 (ld M 14) (ld M 8) (ld M 13 0) (ld M 7 0) 0 0 := TB.fr (W := fun o _ => o = 3) ⟨fun c r a1 a2 a3 a4 => absurd a4 (by omega), t0, t01⟩ fM10 (fun _ => by omega) (by omega)
  refine uX9_becomeMadeOfTwo_23 ?_
  exact (go 100000000).1 _ _ _ _ _ M10 fM (by first | omega | assumption | with_reducible exact rng_ld _ _ _ | with_reducible exact rng_yand _ _ | with_reducible exact rng_yor _ _ | with_reducible exact rng_zcmp _ _ | with_reducible exact yand7 _ | with_reducible exact rng_toInt _ | with_reducible exact yarr23 (by omega) | with_reducible exact yarr57 (by omega) | with_reducible exact Or.inl rfl | with_reducible exact Or.inr rfl) (by first | omega | assumption | with_reducible exact rng_ld _ _ _ | with_reducible exact rng_yand _ _ | with_reducible exact rng_yor _ _ | with_reducible exact rng_zcmp _ _ | with_reducible exact yand7 _ | with_reducible exact rng_toInt _ | with_reducible exact yarr23 (by omega) | with_reducible exact yarr57 (by omega) | with_reducible exact Or.inl rfl | with_reducible exact Or.inr rfl) (by first | exact t23 | exact t165) (by first | exact u165 | exact (fun p s q t a1 a2 a3 a4 a5 a6 a7 a8 a9 => absurd a9 (by omega))) h04 (by omega)
theorem c5_free {d : Nat} {Q : yM → Prop} {M : yM} {x1 : Int} {x2 : Int}  (h1 : 1 ≤ x1 ∧ x1 ≤ 8) (hv : yR x2) (k : ∀ (M' : yM), fr (fun o j => o = 19 ∧ j = 0 ∨ o = 20) M M' → (ld M' 19 0 = x1) → (∀ i c, 0 ≤ i → i < 8 → 0 ≤ c → c < 8 → ld M' 20 (8 * i + c) = if i = c then 1 else x2) → Q M') : XCv d 36 [.inr (.inr 19), .inl x1, .inl x2] M Q := by
  refine eX5_free ?_
  have fM : fr (fun o j => o = 19 ∧ j = 0 ∨ o = 20) M M := fr.rf
  have go : ∀ N : Nat, (∀ (x3 : Int) (wx4 : Option yV) (M9 : yM), fr (fun o j => o = 19 ∧ j = 0 ∨ o = 20) M M9 → (0 ≤ x3 ∧ x3 ≤ 8) → (∀ i c, 0 ≤ i → i < x3 → 0 ≤ c → c < 8 → ld M9 20 (8 * i + c) = if i = c then 1 else x2) → (ld M9 19 0 = x1) → ((8 - x3) * 40 + 20 < (N : Int)) → XW kX5_free d none (wQv Q) 7 [some (.inr (.inr 19)), some (.inl x1), some (.inl x2), some (.inl x3), wx4] [] M9) ∧ (∀ (x3 : Int) (x4 : Int) (M9 : yM), fr (fun o j => o = 19 ∧ j = 0 ∨ o = 20) M M9 → (0 ≤ x3 ∧ x3 < 8) → (0 ≤ x4 ∧ x4 ≤ 8) → (∀ i c, 0 ≤ i → 0 ≤ c → c < 8 → (i < x3 ∨ i = x3 ∧ c < x4) → ld M9 20 (8 * i + c) = if i = c then 1 else x2) → (ld M9 19 0 = x1) → ((8 - x3) * 40 + 8 - x4 < (N : Int)) → XW kX5_free d none (wQv Q) 16 [some (.inr (.inr 19)), some (.inl x1), some (.inl x2), some (.inl x3), some (.inl x4)] [] M9) := by
    intro N
    induction N with
    | zero => refine ⟨?_, ?_⟩ <;> (intros; exfalso; omega)
    | succ N ih =>
      obtain ⟨ih0, ih1⟩ := ih
      refine ⟨?_, ?_⟩
      · skip
        clear fM
        intro x3 wx4 M1 fM i0 i1 t1 hm
        refine uX5_free_7 (by first | omega | assumption | with_reducible exact rng_ld _ _ _ | with_reducible exact rng_yand _ _ | with_reducible exact rng_yor _ _ | with_reducible exact rng_zcmp _ _ | with_reducible exact yand7 _ | with_reducible exact rng_toInt _ | with_reducible exact yarr23 (by omega) | with_reducible exact yarr57 (by omega) | with_reducible exact Or.inl rfl | with_reducible exact Or.inr rfl) (fun hc => ?_) (fun hc => ?_)
        · skip
          refine uX5_free_58 ?_
          exact k _ fM (by first | omega | assumption | with_reducible exact rng_ld _ _ _ | with_reducible exact rng_yand _ _ | with_reducible exact rng_yor _ _ | with_reducible exact rng_zcmp _ _ | with_reducible exact yand7 _ | with_reducible exact rng_toInt _ | with_reducible exact yarr23 (by omega) | with_reducible exact yarr57 (by omega) | with_reducible exact Or.inl rfl | with_reducible exact Or.inr rfl) (fun i c h1 h2 h3 h4 => i1 i c h1 (by omega) h3 h4)
        · skip
          refine uX5_free_13 ?_
          exact ih1 _ _ M1 fM (by first | omega | assumption | with_reducible exact rng_ld _ _ _ | with_reducible exact rng_yand _ _ | with_reducible exact rng_yor _ _ | with_reducible exact rng_zcmp _ _ | with_reducible exact yand7 _ | with_reducible exact rng_toInt _ | with_reducible exact yarr23 (by omega) | with_reducible exact yarr57 (by omega) | with_reducible exact Or.inl rfl | with_reducible exact Or.inr rfl) (by first | omega | assumption | with_reducible exact rng_ld _ _ _ | with_reducible exact rng_yand _ _ | with_reducible exact rng_yor _ _ | with_reducible exact rng_zcmp _ _ | with_reducible exact yand7 _ | with_reducible exact rng_toInt _ | with_reducible exact yarr23 (by omega) | with_reducible exact yarr57 (by omega) | with_reducible exact Or.inl rfl | with_reducible exact Or.inr rfl) (by first | exact t45 | exact (fun i c h1 h3 h4 h5 => i1 i c h1 (by omega) h3 h4)) t1 (by omega)
      · skip
        clear fM
        intro x3 x4 M2 fM i0 i1 i2 t1 hm
        refine uX5_free_16 (by first | omega | assumption | with_reducible exact rng_ld _ _ _ | with_reducible exact rng_yand _ _ | with_reducible exact rng_yor _ _ | with_reducible exact rng_zcmp _ _ | with_reducible exact yand7 _ | with_reducible exact rng_toInt _ | with_reducible exact yarr23 (by omega) | with_reducible exact yarr57 (by omega) | with_reducible exact Or.inl rfl | with_reducible exact Or.inr rfl) (fun hc => ?_) (fun hc => ?_)
        · skip
          refine uX5_free_52 ?_
          exact ih0 _ _ M2 fM (by first | omega | assumption | with_reducible exact rng_ld _ _ _ | with_reducible exact rng_yand _ _ | with_reducible exact rng_yor _ _ | with_reducible exact rng_zcmp _ _ | with_reducible exact yand7 _ | with_reducible exact rng_toInt _ | with_reducible exact yarr23 (by omega) | with_reducible exact yarr57 (by omega) | with_reducible exact Or.inl rfl | with_reducible exact Or.inr rfl) (by first | exact (fun i c h1 h2 h3 h4 => absurd h2 (by omega)) | exact (fun i c h1 h2 h3 h4 => i2 i c h1 h3 h4 (by omega))) t1 (by omega)
        · skip
          refine uX5_free_23 (by first | omega | assumption | with_reducible exact rng_ld _ _ _ | with_reducible exact rng_yand _ _ | with_reducible exact rng_yor _ _ | with_reducible exact rng_zcmp _ _ | with_reducible exact yand7 _ | with_reducible exact rng_toInt _ | with_reducible exact yarr23 (by omega) | with_reducible exact yarr57 (by omega) | with_reducible exact Or.inl rfl | with_reducible exact Or.inr rfl) (by first | omega | assumption | with_reducible exact rng_ld _ _ _ | with_reducible exact rng_yand _ _ | with_reducible exact rng_yor _ _ | with_reducible exact rng_zcmp _ _ | with_reducible exact yand7 _ | with_reducible exact rng_toInt _ | with_reducible exact yarr23 (by omega) | with_reducible exact yarr57 (by omega) | with_reducible exact Or.inl rfl | with_reducible exact Or.inr rfl) (fun hc => ?_) (fun hc => ?_)
          · skip
            refine uX5_free_44 ?_
            refine uX5_free_45 (by first | omega | assumption | with_reducible exact rng_ld _ _ _ | with_reducible exact rng_yand _ _ | with_reducible exact rng_yor _ _ | with_reducible exact rng_zcmp _ _ | with_reducible exact yand7 _ | with_reducible exact rng_toInt _ | with_reducible exact yarr23 (by omega) | with_reducible exact yarr57 (by omega) | with_reducible exact Or.inl rfl | with_reducible exact Or.inr rfl) ?_
            intro M3 hM3
            replace fM := fr.put fM hM3 (by first | omega | (dsimp only [wSub, wRun, wNar, wFil, wCan, wLst, wCar, wDr, wFl, wMq, wRd, wRx, wCr, wTab, wTr]; done) | (dsimp only [wSub, wRun, wNar, wFil, wCan, wLst, wCar, wDr, wFl, wMq, wRd, wRx, wCr, wTab, wTr]; omega) | (simp [wSub, wRun, wNar, wFil, wCan, wLst, wCar, wDr, wFl, wMq, wRd, wRx, wCr, wTab, wTr]; done) | (simp [wSub, wRun, wNar, wFil, wCan, wLst, wCar, wDr, wFl, wMq, wRd, wRx, wCr, wTab, wTr]; omega))
            replace t1 : ld M3 19 0 = x1 := by first | (rw [hM3, ld_putne (by omega)]; exact t1) | (rw [hM3, ld_same (by omega)]; omega) | (rw [hM3, ld_cpyne (by omega)]; exact t1) | (rw [hM3, ld_putL]; exact t1)
            have t45 : ∀ i c, 0 ≤ i → 0 ≤ c → c < 8 → (i < x3 ∨ i = x3 ∧ c < x4 + 1) → ld M3 20 (8 * i + c) = if i = c then 1 else x2 := fun i c h1 h3 h4 h5 => by
              rw [hM3, ld_put (by first | omega | assumption)]
              split
              · next q =>
                have e1 : i = x3 := by omega
                have e2 : c = x4 := by omega
                rw [e1, e2]
                first | rw [if_pos (by omega)] | rw [if_neg (by omega)]
              · next q => exact i2 i c h1 h3 h4 (by omega)
            refine uX5_free_46 ?_
            exact ih1 _ _ M3 fM (by first | omega | assumption | with_reducible exact rng_ld _ _ _ | with_reducible exact rng_yand _ _ | with_reducible exact rng_yor _ _ | with_reducible exact rng_zcmp _ _ | with_reducible exact yand7 _ | with_reducible exact rng_toInt _ | with_reducible exact yarr23 (by omega) | with_reducible exact yarr57 (by omega) | with_reducible exact Or.inl rfl | with_reducible exact Or.inr rfl) (by first | omega | assumption | with_reducible exact rng_ld _ _ _ | with_reducible exact rng_yand _ _ | with_reducible exact rng_yor _ _ | with_reducible exact rng_zcmp _ _ | with_reducible exact yand7 _ | with_reducible exact rng_toInt _ | with_reducible exact yarr23 (by omega) | with_reducible exact yarr57 (by omega) | with_reducible exact Or.inl rfl | with_reducible exact Or.inr rfl) (by first | exact t45 | exact (fun i c h1 h3 h4 h5 => i1 i c h1 (by omega) h3 h4)) t1 (by omega)
          · skip
            refine uX5_free_40 ?_
            refine uX5_free_45 (by first | omega | assumption | with_reducible exact rng_ld _ _ _ | with_reducible exact rng_yand _ _ | with_reducible exact rng_yor _ _ | with_reducible exact rng_zcmp _ _ | with_reducible exact yand7 _ | with_reducible exact rng_toInt _ | with_reducible exact yarr23 (by omega) | with_reducible exact yarr57 (by omega) | with_reducible exact Or.inl rfl | with_reducible exact Or.inr rfl) ?_
            intro M4 hM4
            replace fM := fr.put fM hM4 (by first | omega | (dsimp only [wSub, wRun, wNar, wFil, wCan, wLst, wCar, wDr, wFl, wMq, wRd, wRx, wCr, wTab, wTr]; done) | (dsimp only [wSub, wRun, wNar, wFil, wCan, wLst, wCar, wDr, wFl, wMq, wRd, wRx, wCr, wTab, wTr]; omega) | (simp [wSub, wRun, wNar, wFil, wCan, wLst, wCar, wDr, wFl, wMq, wRd, wRx, wCr, wTab, wTr]; done) | (simp [wSub, wRun, wNar, wFil, wCan, wLst, wCar, wDr, wFl, wMq, wRd, wRx, wCr, wTab, wTr]; omega))
            replace t1 : ld M4 19 0 = x1 := by first | (rw [hM4, ld_putne (by omega)]; exact t1) | (rw [hM4, ld_same (by omega)]; omega) | (rw [hM4, ld_cpyne (by omega)]; exact t1) | (rw [hM4, ld_putL]; exact t1)
            have t45 : ∀ i c, 0 ≤ i → 0 ≤ c → c < 8 → (i < x3 ∨ i = x3 ∧ c < x4 + 1) → ld M4 20 (8 * i + c) = if i = c then 1 else x2 := fun i c h1 h3 h4 h5 => by
              rw [hM4, ld_put (by first | omega | assumption)]
              split
              · next q =>
                have e1 : i = x3 := by omega
                have e2 : c = x4 := by omega
                rw [e1, e2]
                first | rw [if_pos (by omega)] | rw [if_neg (by omega)]
              · next q => exact i2 i c h1 h3 h4 (by omega)
            refine uX5_free_46 ?_
            exact ih1 _ _ M4 fM (by first | omega | assumption | with_reducible exact rng_ld _ _ _ | with_reducible exact rng_yand _ _ | with_reducible exact rng_yor _ _ | with_reducible exact rng_zcmp _ _ | with_reducible exact yand7 _ | with_reducible exact rng_toInt _ | with_reducible exact yarr23 (by omega) | with_reducible exact yarr57 (by omega) | with_reducible exact Or.inl rfl | with_reducible exact Or.inr rfl) (by first | omega | assumption | with_reducible exact rng_ld _ _ _ | with_reducible exact rng_yand _ _ | with_reducible exact rng_yor _ _ | with_reducible exact rng_zcmp _ _ | with_reducible exact yand7 _ | with_reducible exact rng_toInt _ | with_reducible exact yarr23 (by omega) | with_reducible exact yarr57 (by omega) | with_reducible exact Or.inl rfl | with_reducible exact Or.inr rfl) (by first | exact t45 | exact (fun i c h1 h3 h4 h5 => i1 i c h1 (by omega) h3 h4)) t1 (by omega)
  refine uX5_free_0 ?_
  intro M5 hM5
  replace fM := fr.put fM hM5 (by first | omega | (dsimp only [wSub, wRun, wNar, wFil, wCan, wLst, wCar, wDr, wFl, wMq, wRd, wRx, wCr, wTab, wTr]; done) | (dsimp only [wSub, wRun, wNar, wFil, wCan, wLst, wCar, wDr, wFl, wMq, wRd, wRx, wCr, wTab, wTr]; omega) | (simp [wSub, wRun, wNar, wFil, wCan, wLst, wCar, wDr, wFl, wMq, wRd, wRx, wCr, wTab, wTr]; done) | (simp [wSub, wRun, wNar, wFil, wCan, wLst, wCar, wDr, wFl, wMq, wRd, wRx, wCr, wTab, wTr]; omega))
  have t1 : ld M5 19 0 = x1 := by (rw [hM5, ld_same (by omega)]) <;> omega
  refine uX5_free_5 ?_
  exact (go 1000000).1 _ _ M5 fM (by first | omega | assumption | with_reducible exact rng_ld _ _ _ | with_reducible exact rng_yand _ _ | with_reducible exact rng_yor _ _ | with_reducible exact rng_zcmp _ _ | with_reducible exact yand7 _ | with_reducible exact rng_toInt _ | with_reducible exact yarr23 (by omega) | with_reducible exact yarr57 (by omega) | with_reducible exact Or.inl rfl | with_reducible exact Or.inr rfl) (by first | exact (fun i c h1 h2 h3 h4 => absurd h2 (by omega)) | exact (fun i c h1 h2 h3 h4 => i2 i c h1 h3 h4 (by omega))) t1 (by omega)
