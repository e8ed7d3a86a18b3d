/-! MODEL: THE TABLE -/
abbrev T0 (M M' : yM) : Prop := fr (fun o j => o = 92 ∧ j = 0) M M'
def NFm (M : yM) : Prop := ∀ i c, 0 ≤ i → i < 8 → 0 ≤ c → c < 8 → ld M 100 (8 * i + c) = if i = c then 1 else al (ld M 92 2)
theorem NFm.fr {W : Nat → Int → Prop} {M M' : yM} (h : NFm M) (f : fr W M M') (h1 : ¬ W 92 2) (h2 : ∀ j, 0 ≤ j → j < 64 → ¬ W 100 j) : NFm M' := fun i c a1 a2 a3 a4 => by
  rw [f.ld (h2 _ (by omega) (by omega)), f.ld h1]
  exact h i c a1 a2 a3 a4
theorem WFt_one {M : yM} {i : Int} (h1 : ld M 108 i = 1) (h2 : ld M 107 (60 * i) = 48) : WFt M i := by
  have e0 : ld M 107 (60 * i + ((0 : Nat) : Int)) = 48 := by
    rw [show 60 * i + ((0 : Nat) : Int) = 60 * i by omega]
    exact h2
  have e1 : hgt (fun p => ld M 107 (60 * i + p)) 1 = 1 := by
    simp only [hgt, stepH, e0]
    decide
  refine ⟨by omega, by omega, ?_, ?_⟩
  · rw [h1]
    intro p hp
    have : p = 0 := by omega
    subst this
    simp only [binC, unC, e0]
    omega
  · unfold th
    rw [h1]
    exact Int.le_of_eq e1.symm
theorem c12_mayBeX {d : Nat} {Q : Int → yM → Prop} {M : yM} {x1 : Int} {x2 : Int} {x3 : Int}  (h8 : 0 ≤ 8 * x1 + x2 ∧ 8 * x1 + x2 < 64) (k : ∀ (v : Int), (v = 1 ∧ yand (yshr (ld M 94 (8 * x1 + x2)) x3) 1 = 1 ∨ v = 0 ∧ yand (yshr (ld M 94 (8 * x1 + x2)) x3) 1 ≠ 1) → Q v M) : XCi d 125 [.inr (.inr 92), .inl x1, .inl x2, .inl x3] M Q := by
  refine eX12_mayBe ?_
  refine uX12_mayBe_0 (by first | omega | assumption | with_reducible exact rng_ld _ _ _ | with_reducible exact rng_yand _ _ | with_reducible exact rng_yor _ _ | with_reducible exact rng_zcmp _ _ | with_reducible exact yand7 _ | with_reducible exact rng_toInt _ | with_reducible exact yarr23 (by omega) | with_reducible exact yarr57 (by omega) | with_reducible exact Or.inl rfl | with_reducible exact Or.inr rfl) (fun hc => ?_) (fun hc => ?_)
  · skip
    refine uX12_mayBe_23 ?_
    refine uX12_mayBe_24 (by first | omega | assumption | with_reducible exact rng_ld _ _ _ | with_reducible exact rng_yand _ _ | with_reducible exact rng_yor _ _ | with_reducible exact rng_zcmp _ _ | with_reducible exact yand7 _ | with_reducible exact rng_toInt _ | with_reducible exact yarr23 (by omega) | with_reducible exact yarr57 (by omega) | with_reducible exact Or.inl rfl | with_reducible exact Or.inr rfl) ?_
    exact k _ (by first | omega | assumption | with_reducible exact rng_ld _ _ _ | with_reducible exact rng_yand _ _ | with_reducible exact rng_yor _ _ | with_reducible exact rng_zcmp _ _ | with_reducible exact yand7 _ | with_reducible exact rng_toInt _ | with_reducible exact yarr23 (by omega) | with_reducible exact yarr57 (by omega) | with_reducible exact Or.inl rfl | with_reducible exact Or.inr rfl)
  · skip
    refine uX12_mayBe_19 ?_
    refine uX12_mayBe_24 (by first | omega | assumption | with_reducible exact rng_ld _ _ _ | with_reducible exact rng_yand _ _ | with_reducible exact rng_yor _ _ | with_reducible exact rng_zcmp _ _ | with_reducible exact yand7 _ | with_reducible exact rng_toInt _ | with_reducible exact yarr23 (by omega) | with_reducible exact yarr57 (by omega) | with_reducible exact Or.inl rfl | with_reducible exact Or.inr rfl) ?_
    exact k _ (by first | omega | assumption | with_reducible exact rng_ld _ _ _ | with_reducible exact rng_yand _ _ | with_reducible exact rng_yor _ _ | with_reducible exact rng_zcmp _ _ | with_reducible exact yand7 _ | with_reducible exact rng_toInt _ | with_reducible exact yarr23 (by omega) | with_reducible exact yarr57 (by omega) | with_reducible exact Or.inl rfl | with_reducible exact Or.inr rfl)
theorem c12_joinOfX {d : Nat} {Q : Int → yM → Prop} {M : yM} {x1 : Int} {x2 : Int}  (hmk : 1 ≤ ld M 92 2 ∧ ld M 92 2 ≤ 8) (k : ∀ (v : Int), (v = jO (ld M 94) x1 x2 (ld M 92 2).toNat (ld M 92 2).toNat) → Q v M) : XCi d 134 [.inr (.inr 92), .inl x1, .inl x2] M Q := by
  refine eX12_joinOf ?_
  have go : ∀ N : Nat, (∀ (x3 : Int) (x4 : Int) (wx5 : Option yV), (0 ≤ x4 ∧ x4 ≤ ld M 92 2) → (x3 = jO (ld M 94) x1 x2 (ld M 92 2).toNat x4.toNat) → ((8 - x4) * 40 + 20 < (N : Int)) → XW kX12_joinOf d (some .int) (wQi Q) 5 [some (.inr (.inr 92)), some (.inl x1), some (.inl x2), some (.inl x3), some (.inl x4), wx5] [] M) ∧ (∀ (x3 : Int) (x4 : Int) (x5 : Int), (0 ≤ x4 ∧ x4 < ld M 92 2) → (0 ≤ x5 ∧ x5 ≤ ld M 92 2) → (x3 = jI (ld M 94) x2 x4 (jO (ld M 94) x1 x2 (ld M 92 2).toNat x4.toNat) x5.toNat) → (x5 = 0 ∨ yand (yshr x1 x4) 1 = 1) → ((8 - x4) * 40 + 8 - x5 < (N : Int)) → XW kX12_joinOf d (some .int) (wQi Q) 17 [some (.inr (.inr 92)), some (.inl x1), some (.inl x2), some (.inl x3), some (.inl x4), some (.inl x5)] [] M) := by
    intro N
    induction N with
    | zero => refine ⟨?_, ?_⟩ <;> (intros; exfalso; omega)
    | succ N ih =>
      obtain ⟨ih0, ih1⟩ := ih
      refine ⟨?_, ?_⟩
      · skip
        skip
        intro x3 x4 wx5 i0 i1 hm
        refine uX12_joinOf_5 (by first | omega | assumption | with_reducible exact rng_ld _ _ _ | with_reducible exact rng_yand _ _ | with_reducible exact rng_yor _ _ | with_reducible exact rng_zcmp _ _ | with_reducible exact yand7 _ | with_reducible exact rng_toInt _ | with_reducible exact yarr23 (by omega) | with_reducible exact yarr57 (by omega) | with_reducible exact Or.inl rfl | with_reducible exact Or.inr rfl) (fun hc => ?_) (fun hc => ?_)
        · skip
          refine uX12_joinOf_78 ?_
          exact k _ (by rw [show (ld M 92 2).toNat = x4.toNat by omega] at *; exact i1)
        · skip
          refine uX12_joinOf_14 ?_
          exact ih1 _ _ _  (by first | omega | assumption | with_reducible exact rng_ld _ _ _ | with_reducible exact rng_yand _ _ | with_reducible exact rng_yor _ _ | with_reducible exact rng_zcmp _ _ | with_reducible exact yand7 _ | with_reducible exact rng_toInt _ | with_reducible exact yarr23 (by omega) | with_reducible exact yarr57 (by omega) | with_reducible exact Or.inl rfl | with_reducible exact Or.inr rfl) (by first | omega | assumption | with_reducible exact rng_ld _ _ _ | with_reducible exact rng_yand _ _ | with_reducible exact rng_yor _ _ | with_reducible exact rng_zcmp _ _ | with_reducible exact yand7 _ | with_reducible exact rng_toInt _ | with_reducible exact yarr23 (by omega) | with_reducible exact yarr57 (by omega) | with_reducible exact Or.inl rfl | with_reducible exact Or.inr rfl) (by first | with_reducible exact jI_1 (by omega) i2 (by assumption) | with_reducible exact jI_0 (by omega) i2 (by assumption) | exact i1) (by first | exact Or.inl rfl | exact Or.inr (by assumption)) (by omega)
      · skip
        skip
        intro x3 x4 x5 i0 i1 i2 i3 hm
        refine uX12_joinOf_17 (by first | omega | assumption | with_reducible exact rng_ld _ _ _ | with_reducible exact rng_yand _ _ | with_reducible exact rng_yor _ _ | with_reducible exact rng_zcmp _ _ | with_reducible exact yand7 _ | with_reducible exact rng_toInt _ | with_reducible exact yarr23 (by omega) | with_reducible exact yarr57 (by omega) | with_reducible exact Or.inl rfl | with_reducible exact Or.inr rfl) (fun hc => ?_) (fun hc => ?_)
        · skip
          refine uX12_joinOf_72 ?_
          exact ih0 _ _ _  (by first | omega | assumption | with_reducible exact rng_ld _ _ _ | with_reducible exact rng_yand _ _ | with_reducible exact rng_yor _ _ | with_reducible exact rng_zcmp _ _ | with_reducible exact yand7 _ | with_reducible exact rng_toInt _ | with_reducible exact yarr23 (by omega) | with_reducible exact yarr57 (by omega) | with_reducible exact Or.inl rfl | with_reducible exact Or.inr rfl) (by first | exact jO_q (by omega) i2 (by assumption) (by assumption) | exact jO_p (by omega) i2 (by omega) (by omega) | rfl) (by omega)
        · skip
          refine uX12_joinOf_26 (fun hc => ?_) (fun hc => ?_)
          · skip
            refine uX12_joinOf_72 ?_
            exact ih0 _ _ _  (by first | omega | assumption | with_reducible exact rng_ld _ _ _ | with_reducible exact rng_yand _ _ | with_reducible exact rng_yor _ _ | with_reducible exact rng_zcmp _ _ | with_reducible exact yand7 _ | with_reducible exact rng_toInt _ | with_reducible exact yarr23 (by omega) | with_reducible exact yarr57 (by omega) | with_reducible exact Or.inl rfl | with_reducible exact Or.inr rfl) (by first | exact jO_q (by omega) i2 (by assumption) (by assumption) | exact jO_p (by omega) i2 (by omega) (by omega) | rfl) (by omega)
          · skip
            refine uX12_joinOf_36 (fun hc => ?_) (fun hc => ?_)
            · skip
              refine uX12_joinOf_63 ?_
              refine uX12_joinOf_64 ?_
              exact ih1 _ _ _  (by first | omega | assumption | with_reducible exact rng_ld _ _ _ | with_reducible exact rng_yand _ _ | with_reducible exact rng_yor _ _ | with_reducible exact rng_zcmp _ _ | with_reducible exact yand7 _ | with_reducible exact rng_toInt _ | with_reducible exact yarr23 (by omega) | with_reducible exact yarr57 (by omega) | with_reducible exact Or.inl rfl | with_reducible exact Or.inr rfl) (by first | omega | assumption | with_reducible exact rng_ld _ _ _ | with_reducible exact rng_yand _ _ | with_reducible exact rng_yor _ _ | with_reducible exact rng_zcmp _ _ | with_reducible exact yand7 _ | with_reducible exact rng_toInt _ | with_reducible exact yarr23 (by omega) | with_reducible exact yarr57 (by omega) | with_reducible exact Or.inl rfl | with_reducible exact Or.inr rfl) (by first | with_reducible exact jI_1 (by omega) i2 (by assumption) | with_reducible exact jI_0 (by omega) i2 (by assumption) | exact i1) (by first | exact Or.inl rfl | exact Or.inr (by assumption)) (by omega)
            · skip
              refine uX12_joinOf_47 (by first | omega | assumption | with_reducible exact rng_ld _ _ _ | with_reducible exact rng_yand _ _ | with_reducible exact rng_yor _ _ | with_reducible exact rng_zcmp _ _ | with_reducible exact yand7 _ | with_reducible exact rng_toInt _ | with_reducible exact yarr23 (by omega) | with_reducible exact yarr57 (by omega) | with_reducible exact Or.inl rfl | with_reducible exact Or.inr rfl) ?_
              refine uX12_joinOf_64 ?_
              exact ih1 _ _ _  (by first | omega | assumption | with_reducible exact rng_ld _ _ _ | with_reducible exact rng_yand _ _ | with_reducible exact rng_yor _ _ | with_reducible exact rng_zcmp _ _ | with_reducible exact yand7 _ | with_reducible exact rng_toInt _ | with_reducible exact yarr23 (by omega) | with_reducible exact yarr57 (by omega) | with_reducible exact Or.inl rfl | with_reducible exact Or.inr rfl) (by first | omega | assumption | with_reducible exact rng_ld _ _ _ | with_reducible exact rng_yand _ _ | with_reducible exact rng_yor _ _ | with_reducible exact rng_zcmp _ _ | with_reducible exact yand7 _ | with_reducible exact rng_toInt _ | with_reducible exact yarr23 (by omega) | with_reducible exact yarr57 (by omega) | with_reducible exact Or.inl rfl | with_reducible exact Or.inr rfl) (by first | with_reducible exact jI_1 (by omega) i2 (by assumption) | with_reducible exact jI_0 (by omega) i2 (by assumption) | exact i1) (by first | exact Or.inl rfl | exact Or.inr (by assumption)) (by omega)
  refine uX12_joinOf_0 ?_
  exact (go 1000000).1 _ _ _  (by first | omega | assumption | with_reducible exact rng_ld _ _ _ | with_reducible exact rng_yand _ _ | with_reducible exact rng_yor _ _ | with_reducible exact rng_zcmp _ _ | with_reducible exact yand7 _ | with_reducible exact rng_toInt _ | with_reducible exact yarr23 (by omega) | with_reducible exact yarr57 (by omega) | with_reducible exact Or.inl rfl | with_reducible exact Or.inr rfl) (by first | exact jO_q (by omega) i2 (by assumption) (by assumption) | exact jO_p (by omega) i2 (by omega) (by omega) | rfl) (by omega)
theorem tvm {f : Int → Int} {k i j s w : Int} (h0 : f 0 = 0) (hz : i ≠ 0 → f i ≠ 0) (hs : s = if i = 0 then yshl 1 j else if j = 0 then yshl 1 i else yand (al k) (-2)) (hw : w = if j = f i then 1 else 0) : yor s w = tv f k i j := by
  unfold tv
  rw [hs, hw]
  by_cases qi : i = 0
  · rw [if_pos qi, if_pos qi, qi, h0]
    split
    · next q => rw [q]; decide
    · exact yor_0 (rng_yshl _ _)
  · rw [if_neg qi, if_neg qi]
    by_cases qj : j = 0
    · rw [if_pos qj, if_pos qj, if_neg (fun q => hz qi (by rw [← q, qj]))]
      exact yor_0 (rng_yshl _ _)
    · rw [if_neg qj, if_neg qj]
      split
      · rfl
      · exact yor_0 (rng_yand _ _)
def OPNm (M : yM) : Prop := ∀ a b : Int, 0 ≤ a → a < ld M 92 2 → 0 ≤ b → b < ld M 92 2 → ld M 94 (8 * a + b) = tv (ld M 93) (ld M 92 2) a b
theorem OPNm.fr {W : Nat → Int → Prop} {M M' : yM} (h : OPNm M) (f : fr W M M') (h1 : ¬ W 92 2) (h2 : ∀ j, ¬ W 93 j) (h3 : ∀ j, ¬ W 94 j) : OPNm M' := fun a b a1 a2 b1 b2 => by
  have e2 : ld M' 93 = ld M 93 := funext fun j => f.ld (h2 j)
  have e1 : ld M' 92 2 = ld M 92 2 := f.ld h1
  rw [e1] at a2 b2
  rw [e1, e2, f.ld (h3 _)]
  exact h a b a1 a2 b1 b2
theorem c12_opens {d : Nat} {Q : yM → Prop} {M : yM}   (hmk : 1 ≤ ld M 92 2 ∧ ld M 92 2 ≤ 8) (hI : IV (ld M 93) (ld M 92 2)) (h0 : ld M 93 0 = 0) (k : ∀ (M' : yM), fr (fun o _ => o = 94) M M' → (OPNm M') → Q M') : XCv (d + 1) 126 [.inr (.inr 92)] M Q := by
  refine eX12_opens ?_
  have fM : fr (fun o _ => o = 94) M M := fr.rf
  have hzz : ∀ a : Int, 0 ≤ a → a < ld M 92 2 → a ≠ 0 → ld M 93 a ≠ 0 := fun a a1 a2 a3 q => by
    have w := (hI a a1 a2).2
    rw [q, h0] at w
    omega
  have go : ∀ N : Nat, (∀ (x1 : Int) (wx2 : Option yV) (wx3 : Option yV) (M9 : yM), fr (fun o _ => o = 94) M M9 → (0 ≤ x1 ∧ x1 ≤ ld M 92 2) → (∀ a b : Int, 0 ≤ a → a < ld M 92 2 → 0 ≤ b → b < ld M 92 2 → (a < x1) → ld M9 94 (8 * a + b) = tv (ld M 93) (ld M 92 2) a b) → ((8 - x1) * 40 + 20 < (N : Int)) → XW kX12_opens (d + 1) none (wQv Q) 2 [some (.inr (.inr 92)), some (.inl x1), wx2, wx3] [] M9) ∧ (∀ (x1 : Int) (x2 : Int) (wx3 : Option yV) (M9 : yM), fr (fun o _ => o = 94) M M9 → (0 ≤ x1 ∧ x1 < ld M 92 2) → (0 ≤ x2 ∧ x2 ≤ ld M 92 2) → (∀ a b : Int, 0 ≤ a → a < ld M 92 2 → 0 ≤ b → b < ld M 92 2 → (a < x1 ∨ a = x1 ∧ b < x2) → ld M9 94 (8 * a + b) = tv (ld M 93) (ld M 92 2) a b) → ((8 - x1) * 40 + 8 - x2 < (N : Int)) → XW kX12_opens (d + 1) none (wQv Q) 12 [some (.inr (.inr 92)), some (.inl x1), some (.inl x2), wx3] [] M9) := by
    intro N
    induction N with
    | zero => refine ⟨?_, ?_⟩ <;> (intros; exfalso; omega)
    | succ N ih =>
      obtain ⟨ih0, ih1⟩ := ih
      refine ⟨?_, ?_⟩
      · skip
        clear fM
        intro x1 wx2 wx3 M1 fM i0 i1 hm
        have k92_2 := fM.ld (o := 92) (j := 2) (by intro hw; first | omega | (dsimp only [wSub, wRun, wNar, wFil, wCan, wLst, wCar, wDr, wFl, wMq, wRd, wRx, wCr, wTab, wTr, wNew, wKi, wKn, wTn, wOb, wPt, wTl, wOq] at hw; omega) | (simp [wSub, wRun, wNar, wFil, wCan, wLst, wCar, wDr, wFl, wMq, wRd, wRx, wCr, wTab, wTr, wNew, wKi, wKn, wTn, wOb, wPt, wTl, wOq] at hw; done) | (simp [wSub, wRun, wNar, wFil, wCan, wLst, wCar, wDr, wFl, wMq, wRd, wRx, wCr, wTab, wTr, wNew, wKi, wKn, wTn, wOb, wPt, wTl, wOq] at hw; omega))
        refine uX12_opens_2 (by first | omega | assumption | with_reducible exact rng_ld _ _ _ | with_reducible exact rng_yand _ _ | with_reducible exact rng_yor _ _ | with_reducible exact rng_zcmp _ _ | with_reducible exact yand7 _ | with_reducible exact rng_toInt _ | with_reducible exact yarr23 (by omega) | with_reducible exact yarr57 (by omega) | with_reducible exact Or.inl rfl | with_reducible exact Or.inr rfl) (fun hc => ?_) (fun hc => ?_)
        · skip
          have e2 : ld M1 93 = ld M 93 := funext fun j => fM.ld (by omega)
          have z88 : OPNm M1 := fun a b a1 a2 b1 b2 => by
            rw [k92_2] at a2 b2
            rw [k92_2, e2]
            exact i1 a b a1 a2 b1 b2 (by omega)
          refine uX12_opens_88 ?_
          exact k _ fM z88
        · skip
          refine uX12_opens_10 ?_
          exact ih1 _ _ _ M1 fM (by first | omega | assumption | with_reducible exact rng_ld _ _ _ | with_reducible exact rng_yand _ _ | with_reducible exact rng_yor _ _ | with_reducible exact rng_zcmp _ _ | with_reducible exact yand7 _ | with_reducible exact rng_toInt _ | with_reducible exact yarr23 (by omega) | with_reducible exact yarr57 (by omega) | with_reducible exact Or.inl rfl | with_reducible exact Or.inr rfl) (by first | omega | assumption | with_reducible exact rng_ld _ _ _ | with_reducible exact rng_yand _ _ | with_reducible exact rng_yor _ _ | with_reducible exact rng_zcmp _ _ | with_reducible exact yand7 _ | with_reducible exact rng_toInt _ | with_reducible exact yarr23 (by omega) | with_reducible exact yarr57 (by omega) | with_reducible exact Or.inl rfl | with_reducible exact Or.inr rfl) (by first | exact t74 | exact (fun a b a1 a2 b1 b2 q => i1 a b a1 a2 b1 b2 (by omega))) (by omega)
      · skip
        clear fM
        intro x1 x2 wx3 M2 fM i0 i1 i2 hm
        have k92_2 := fM.ld (o := 92) (j := 2) (by intro hw; first | omega | (dsimp only [wSub, wRun, wNar, wFil, wCan, wLst, wCar, wDr, wFl, wMq, wRd, wRx, wCr, wTab, wTr, wNew, wKi, wKn, wTn, wOb, wPt, wTl, wOq] at hw; omega) | (simp [wSub, wRun, wNar, wFil, wCan, wLst, wCar, wDr, wFl, wMq, wRd, wRx, wCr, wTab, wTr, wNew, wKi, wKn, wTn, wOb, wPt, wTl, wOq] at hw; done) | (simp [wSub, wRun, wNar, wFil, wCan, wLst, wCar, wDr, wFl, wMq, wRd, wRx, wCr, wTab, wTr, wNew, wKi, wKn, wTn, wOb, wPt, wTl, wOq] at hw; omega))
        refine uX12_opens_12 (by first | omega | assumption | with_reducible exact rng_ld _ _ _ | with_reducible exact rng_yand _ _ | with_reducible exact rng_yor _ _ | with_reducible exact rng_zcmp _ _ | with_reducible exact yand7 _ | with_reducible exact rng_toInt _ | with_reducible exact yarr23 (by omega) | with_reducible exact yarr57 (by omega) | with_reducible exact Or.inl rfl | with_reducible exact Or.inr rfl) (fun hc => ?_) (fun hc => ?_)
        · skip
          refine uX12_opens_82 ?_
          exact ih0 _ _ _ M2 fM (by first | omega | assumption | with_reducible exact rng_ld _ _ _ | with_reducible exact rng_yand _ _ | with_reducible exact rng_yor _ _ | with_reducible exact rng_zcmp _ _ | with_reducible exact yand7 _ | with_reducible exact rng_toInt _ | with_reducible exact yarr23 (by omega) | with_reducible exact yarr57 (by omega) | with_reducible exact Or.inl rfl | with_reducible exact Or.inr rfl) (by first | exact (fun a b a1 a2 b1 b2 q => i2 a b a1 a2 b1 b2 (by omega)) | exact (fun a b a1 a2 b1 b2 q => absurd q (by omega))) (by omega)
        · skip
          refine uX12_opens_20 (by first | omega | assumption | with_reducible exact rng_ld _ _ _ | with_reducible exact rng_yand _ _ | with_reducible exact rng_yor _ _ | with_reducible exact rng_zcmp _ _ | with_reducible exact yand7 _ | with_reducible exact rng_toInt _ | with_reducible exact yarr23 (by omega) | with_reducible exact yarr57 (by omega) | with_reducible exact Or.inl rfl | with_reducible exact Or.inr rfl) (fun hc => ?_) (fun hc => ?_)
          · skip
            refine uX12_opens_30 (by first | omega | assumption | with_reducible exact rng_ld _ _ _ | with_reducible exact rng_yand _ _ | with_reducible exact rng_yor _ _ | with_reducible exact rng_zcmp _ _ | with_reducible exact yand7 _ | with_reducible exact rng_toInt _ | with_reducible exact yarr23 (by omega) | with_reducible exact yarr57 (by omega) | with_reducible exact Or.inl rfl | with_reducible exact Or.inr rfl) (fun hc => ?_) (fun hc => ?_)
            · skip
              refine uX12_opens_40 ?_
              refine c12_all  (by first | omega | assumption | with_reducible exact rng_ld _ _ _ | with_reducible exact rng_yand _ _ | with_reducible exact rng_yor _ _ | with_reducible exact rng_zcmp _ _ | with_reducible exact yand7 _ | with_reducible exact rng_toInt _ | with_reducible exact yarr23 (by omega) | with_reducible exact yarr57 (by omega) | with_reducible exact Or.inl rfl | with_reducible exact Or.inr rfl) ?_
              refine uX12_opens_44 ?_
              have w93 : ld M2 93 x1 = ld M 93 x1 := fM.ld (by omega)
              have kk2 : ld M2 92 2 = ld M 92 2 := k92_2
              refine uX12_opens_47 (by first | omega | assumption | with_reducible exact rng_ld _ _ _ | with_reducible exact rng_yand _ _ | with_reducible exact rng_yor _ _ | with_reducible exact rng_zcmp _ _ | with_reducible exact yand7 _ | with_reducible exact rng_toInt _ | with_reducible exact yarr23 (by omega) | with_reducible exact yarr57 (by omega) | with_reducible exact Or.inl rfl | with_reducible exact Or.inr rfl) (by first | omega | assumption | with_reducible exact rng_ld _ _ _ | with_reducible exact rng_yand _ _ | with_reducible exact rng_yor _ _ | with_reducible exact rng_zcmp _ _ | with_reducible exact yand7 _ | with_reducible exact rng_toInt _ | with_reducible exact yarr23 (by omega) | with_reducible exact yarr57 (by omega) | with_reducible exact Or.inl rfl | with_reducible exact Or.inr rfl) (fun hc => ?_) (fun hc => ?_)
              · skip
                refine uX12_opens_73 ?_
                refine uX12_opens_74 (by first | omega | assumption | with_reducible exact rng_ld _ _ _ | with_reducible exact rng_yand _ _ | with_reducible exact rng_yor _ _ | with_reducible exact rng_zcmp _ _ | with_reducible exact yand7 _ | with_reducible exact rng_toInt _ | with_reducible exact yarr23 (by omega) | with_reducible exact yarr57 (by omega) | with_reducible exact Or.inl rfl | with_reducible exact Or.inr rfl) ?_
                intro M4 hM4
                replace fM := fr.put fM hM4 (by first | omega | (dsimp only [wSub, wRun, wNar, wFil, wCan, wLst, wCar, wDr, wFl, wMq, wRd, wRx, wCr, wTab, wTr, wNew, wKi, wKn, wTn, wOb, wPt, wTl, wOq]; done) | (dsimp only [wSub, wRun, wNar, wFil, wCan, wLst, wCar, wDr, wFl, wMq, wRd, wRx, wCr, wTab, wTr, wNew, wKi, wKn, wTn, wOb, wPt, wTl, wOq]; omega) | (simp [wSub, wRun, wNar, wFil, wCan, wLst, wCar, wDr, wFl, wMq, wRd, wRx, wCr, wTab, wTr, wNew, wKi, wKn, wTn, wOb, wPt, wTl, wOq]; done) | (simp [wSub, wRun, wNar, wFil, wCan, wLst, wCar, wDr, wFl, wMq, wRd, wRx, wCr, wTab, wTr, wNew, wKi, wKn, wTn, wOb, wPt, wTl, wOq]; omega))
                have k92_2 := fM.ld (o := 92) (j := 2) (by intro hw; first | omega | (dsimp only [wSub, wRun, wNar, wFil, wCan, wLst, wCar, wDr, wFl, wMq, wRd, wRx, wCr, wTab, wTr, wNew, wKi, wKn, wTn, wOb, wPt, wTl, wOq] at hw; omega) | (simp [wSub, wRun, wNar, wFil, wCan, wLst, wCar, wDr, wFl, wMq, wRd, wRx, wCr, wTab, wTr, wNew, wKi, wKn, wTn, wOb, wPt, wTl, wOq] at hw; done) | (simp [wSub, wRun, wNar, wFil, wCan, wLst, wCar, wDr, wFl, wMq, wRd, wRx, wCr, wTab, wTr, wNew, wKi, wKn, wTn, wOb, wPt, wTl, wOq] at hw; omega))
                try rw [kk2] at hM4
                have t74 : ∀ a b : Int, 0 ≤ a → a < ld M 92 2 → 0 ≤ b → b < ld M 92 2 → (a < x1 ∨ a = x1 ∧ b < x2 + 1) → ld M4 94 (8 * a + b) = tv (ld M 93) (ld M 92 2) a b := fun a b a1 a2 b1 b2 q5 => by
                  rw [hM4, ld_put (rng_yor _ _)]
                  by_cases q : a = x1 ∧ b = x2
                  · rw [if_pos ⟨rfl, by omega⟩, q.1, q.2]
                    exact tvm h0 (hzz x1 (by omega) (by omega)) (by first | rw [if_pos (by omega)] | rw [if_neg (by omega), if_pos (by omega)] | rw [if_neg (by omega), if_neg (by omega)]) (by first | rw [if_pos (by omega)] | rw [if_neg (by omega)])
                  · rw [if_neg (fun w => q (by omega))]
                    exact i2 a b a1 a2 b1 b2 (by omega)
                refine uX12_opens_76 ?_
                exact ih1 _ _ _ M4 fM (by first | omega | assumption | with_reducible exact rng_ld _ _ _ | with_reducible exact rng_yand _ _ | with_reducible exact rng_yor _ _ | with_reducible exact rng_zcmp _ _ | with_reducible exact yand7 _ | with_reducible exact rng_toInt _ | with_reducible exact yarr23 (by omega) | with_reducible exact yarr57 (by omega) | with_reducible exact Or.inl rfl | with_reducible exact Or.inr rfl) (by first | omega | assumption | with_reducible exact rng_ld _ _ _ | with_reducible exact rng_yand _ _ | with_reducible exact rng_yor _ _ | with_reducible exact rng_zcmp _ _ | with_reducible exact yand7 _ | with_reducible exact rng_toInt _ | with_reducible exact yarr23 (by omega) | with_reducible exact yarr57 (by omega) | with_reducible exact Or.inl rfl | with_reducible exact Or.inr rfl) (by first | exact t74 | exact (fun a b a1 a2 b1 b2 q => i1 a b a1 a2 b1 b2 (by omega))) (by omega)
              · skip
                refine uX12_opens_69 ?_
                refine uX12_opens_74 (by first | omega | assumption | with_reducible exact rng_ld _ _ _ | with_reducible exact rng_yand _ _ | with_reducible exact rng_yor _ _ | with_reducible exact rng_zcmp _ _ | with_reducible exact yand7 _ | with_reducible exact rng_toInt _ | with_reducible exact yarr23 (by omega) | with_reducible exact yarr57 (by omega) | with_reducible exact Or.inl rfl | with_reducible exact Or.inr rfl) ?_
                intro M5 hM5
                replace fM := fr.put fM hM5 (by first | omega | (dsimp only [wSub, wRun, wNar, wFil, wCan, wLst, wCar, wDr, wFl, wMq, wRd, wRx, wCr, wTab, wTr, wNew, wKi, wKn, wTn, wOb, wPt, wTl, wOq]; done) | (dsimp only [wSub, wRun, wNar, wFil, wCan, wLst, wCar, wDr, wFl, wMq, wRd, wRx, wCr, wTab, wTr, wNew, wKi, wKn, wTn, wOb, wPt, wTl, wOq]; omega) | (simp [wSub, wRun, wNar, wFil, wCan, wLst, wCar, wDr, wFl, wMq, wRd, wRx, wCr, wTab, wTr, wNew, wKi, wKn, wTn, wOb, wPt, wTl, wOq]; done) | (simp [wSub, wRun, wNar, wFil, wCan, wLst, wCar, wDr, wFl, wMq, wRd, wRx, wCr, wTab, wTr, wNew, wKi, wKn, wTn, wOb, wPt, wTl, wOq]; omega))
                have k92_2 := fM.ld (o := 92) (j := 2) (by intro hw; first | omega | (dsimp only [wSub, wRun, wNar, wFil, wCan, wLst, wCar, wDr, wFl, wMq, wRd, wRx, wCr, wTab, wTr, wNew, wKi, wKn, wTn, wOb, wPt, wTl, wOq] at hw; omega) | (simp [wSub, wRun, wNar, wFil, wCan, wLst, wCar, wDr, wFl, wMq, wRd, wRx, wCr, wTab, wTr, wNew, wKi, wKn, wTn, wOb, wPt, wTl, wOq] at hw; done) | (simp [wSub, wRun, wNar, wFil, wCan, wLst, wCar, wDr, wFl, wMq, wRd, wRx, wCr, wTab, wTr, wNew, wKi, wKn, wTn, wOb, wPt, wTl, wOq] at hw; omega))
                try rw [kk2] at hM5
                have t74 : ∀ a b : Int, 0 ≤ a → a < ld M 92 2 → 0 ≤ b → b < ld M 92 2 → (a < x1 ∨ a = x1 ∧ b < x2 + 1) → ld M5 94 (8 * a + b) = tv (ld M 93) (ld M 92 2) a b := fun a b a1 a2 b1 b2 q5 => by
                  rw [hM5, ld_put (rng_yor _ _)]
                  by_cases q : a = x1 ∧ b = x2
                  · rw [if_pos ⟨rfl, by omega⟩, q.1, q.2]
                    exact tvm h0 (hzz x1 (by omega) (by omega)) (by first | rw [if_pos (by omega)] | rw [if_neg (by omega), if_pos (by omega)] | rw [if_neg (by omega), if_neg (by omega)]) (by first | rw [if_pos (by omega)] | rw [if_neg (by omega)])
                  · rw [if_neg (fun w => q (by omega))]
                    exact i2 a b a1 a2 b1 b2 (by omega)
                refine uX12_opens_76 ?_
                exact ih1 _ _ _ M5 fM (by first | omega | assumption | with_reducible exact rng_ld _ _ _ | with_reducible exact rng_yand _ _ | with_reducible exact rng_yor _ _ | with_reducible exact rng_zcmp _ _ | with_reducible exact yand7 _ | with_reducible exact rng_toInt _ | with_reducible exact yarr23 (by omega) | with_reducible exact yarr57 (by omega) | with_reducible exact Or.inl rfl | with_reducible exact Or.inr rfl) (by first | omega | assumption | with_reducible exact rng_ld _ _ _ | with_reducible exact rng_yand _ _ | with_reducible exact rng_yor _ _ | with_reducible exact rng_zcmp _ _ | with_reducible exact yand7 _ | with_reducible exact rng_toInt _ | with_reducible exact yarr23 (by omega) | with_reducible exact yarr57 (by omega) | with_reducible exact Or.inl rfl | with_reducible exact Or.inr rfl) (by first | exact t74 | exact (fun a b a1 a2 b1 b2 q => i1 a b a1 a2 b1 b2 (by omega))) (by omega)
            · skip
              refine uX12_opens_34 ?_
              have w93 : ld M2 93 x1 = ld M 93 x1 := fM.ld (by omega)
              have kk2 : ld M2 92 2 = ld M 92 2 := k92_2
              refine uX12_opens_47 (by first | omega | assumption | with_reducible exact rng_ld _ _ _ | with_reducible exact rng_yand _ _ | with_reducible exact rng_yor _ _ | with_reducible exact rng_zcmp _ _ | with_reducible exact yand7 _ | with_reducible exact rng_toInt _ | with_reducible exact yarr23 (by omega) | with_reducible exact yarr57 (by omega) | with_reducible exact Or.inl rfl | with_reducible exact Or.inr rfl) (by first | omega | assumption | with_reducible exact rng_ld _ _ _ | with_reducible exact rng_yand _ _ | with_reducible exact rng_yor _ _ | with_reducible exact rng_zcmp _ _ | with_reducible exact yand7 _ | with_reducible exact rng_toInt _ | with_reducible exact yarr23 (by omega) | with_reducible exact yarr57 (by omega) | with_reducible exact Or.inl rfl | with_reducible exact Or.inr rfl) (fun hc => ?_) (fun hc => ?_)
              · skip
                refine uX12_opens_73 ?_
                refine uX12_opens_74 (by first | omega | assumption | with_reducible exact rng_ld _ _ _ | with_reducible exact rng_yand _ _ | with_reducible exact rng_yor _ _ | with_reducible exact rng_zcmp _ _ | with_reducible exact yand7 _ | with_reducible exact rng_toInt _ | with_reducible exact yarr23 (by omega) | with_reducible exact yarr57 (by omega) | with_reducible exact Or.inl rfl | with_reducible exact Or.inr rfl) ?_
                intro M6 hM6
                replace fM := fr.put fM hM6 (by first | omega | (dsimp only [wSub, wRun, wNar, wFil, wCan, wLst, wCar, wDr, wFl, wMq, wRd, wRx, wCr, wTab, wTr, wNew, wKi, wKn, wTn, wOb, wPt, wTl, wOq]; done) | (dsimp only [wSub, wRun, wNar, wFil, wCan, wLst, wCar, wDr, wFl, wMq, wRd, wRx, wCr, wTab, wTr, wNew, wKi, wKn, wTn, wOb, wPt, wTl, wOq]; omega) | (simp [wSub, wRun, wNar, wFil, wCan, wLst, wCar, wDr, wFl, wMq, wRd, wRx, wCr, wTab, wTr, wNew, wKi, wKn, wTn, wOb, wPt, wTl, wOq]; done) | (simp [wSub, wRun, wNar, wFil, wCan, wLst, wCar, wDr, wFl, wMq, wRd, wRx, wCr, wTab, wTr, wNew, wKi, wKn, wTn, wOb, wPt, wTl, wOq]; omega))
                have k92_2 := fM.ld (o := 92) (j := 2) (by intro hw; first | omega | (dsimp only [wSub, wRun, wNar, wFil, wCan, wLst, wCar, wDr, wFl, wMq, wRd, wRx, wCr, wTab, wTr, wNew, wKi, wKn, wTn, wOb, wPt, wTl, wOq] at hw; omega) | (simp [wSub, wRun, wNar, wFil, wCan, wLst, wCar, wDr, wFl, wMq, wRd, wRx, wCr, wTab, wTr, wNew, wKi, wKn, wTn, wOb, wPt, wTl, wOq] at hw; done) | (simp [wSub, wRun, wNar, wFil, wCan, wLst, wCar, wDr, wFl, wMq, wRd, wRx, wCr, wTab, wTr, wNew, wKi, wKn, wTn, wOb, wPt, wTl, wOq] at hw; omega))
                try rw [kk2] at hM6
                have t74 : ∀ a b : Int, 0 ≤ a → a < ld M 92 2 → 0 ≤ b → b < ld M 92 2 → (a < x1 ∨ a = x1 ∧ b < x2 + 1) → ld M6 94 (8 * a + b) = tv (ld M 93) (ld M 92 2) a b := fun a b a1 a2 b1 b2 q5 => by
                  rw [hM6, ld_put (rng_yor _ _)]
                  by_cases q : a = x1 ∧ b = x2
                  · rw [if_pos ⟨rfl, by omega⟩, q.1, q.2]
                    exact tvm h0 (hzz x1 (by omega) (by omega)) (by first | rw [if_pos (by omega)] | rw [if_neg (by omega), if_pos (by omega)] | rw [if_neg (by omega), if_neg (by omega)]) (by first | rw [if_pos (by omega)] | rw [if_neg (by omega)])
                  · rw [if_neg (fun w => q (by omega))]
                    exact i2 a b a1 a2 b1 b2 (by omega)
                refine uX12_opens_76 ?_
                exact ih1 _ _ _ M6 fM (by first | omega | assumption | with_reducible exact rng_ld _ _ _ | with_reducible exact rng_yand _ _ | with_reducible exact rng_yor _ _ | with_reducible exact rng_zcmp _ _ | with_reducible exact yand7 _ | with_reducible exact rng_toInt _ | with_reducible exact yarr23 (by omega) | with_reducible exact yarr57 (by omega) | with_reducible exact Or.inl rfl | with_reducible exact Or.inr rfl) (by first | omega | assumption | with_reducible exact rng_ld _ _ _ | with_reducible exact rng_yand _ _ | with_reducible exact rng_yor _ _ | with_reducible exact rng_zcmp _ _ | with_reducible exact yand7 _ | with_reducible exact rng_toInt _ | with_reducible exact yarr23 (by omega) | with_reducible exact yarr57 (by omega) | with_reducible exact Or.inl rfl | with_reducible exact Or.inr rfl) (by first | exact t74 | exact (fun a b a1 a2 b1 b2 q => i1 a b a1 a2 b1 b2 (by omega))) (by omega)
              · skip
                refine uX12_opens_69 ?_
                refine uX12_opens_74 (by first | omega | assumption | with_reducible exact rng_ld _ _ _ | with_reducible exact rng_yand _ _ | with_reducible exact rng_yor _ _ | with_reducible exact rng_zcmp _ _ | with_reducible exact yand7 _ | with_reducible exact rng_toInt _ | with_reducible exact yarr23 (by omega) | with_reducible exact yarr57 (by omega) | with_reducible exact Or.inl rfl | with_reducible exact Or.inr rfl) ?_
                intro M7 hM7
                replace fM := fr.put fM hM7 (by first | omega | (dsimp only [wSub, wRun, wNar, wFil, wCan, wLst, wCar, wDr, wFl, wMq, wRd, wRx, wCr, wTab, wTr, wNew, wKi, wKn, wTn, wOb, wPt, wTl, wOq]; done) | (dsimp only [wSub, wRun, wNar, wFil, wCan, wLst, wCar, wDr, wFl, wMq, wRd, wRx, wCr, wTab, wTr, wNew, wKi, wKn, wTn, wOb, wPt, wTl, wOq]; omega) | (simp [wSub, wRun, wNar, wFil, wCan, wLst, wCar, wDr, wFl, wMq, wRd, wRx, wCr, wTab, wTr, wNew, wKi, wKn, wTn, wOb, wPt, wTl, wOq]; done) | (simp [wSub, wRun, wNar, wFil, wCan, wLst, wCar, wDr, wFl, wMq, wRd, wRx, wCr, wTab, wTr, wNew, wKi, wKn, wTn, wOb, wPt, wTl, wOq]; omega))
                have k92_2 := fM.ld (o := 92) (j := 2) (by intro hw; first | omega | (dsimp only [wSub, wRun, wNar, wFil, wCan, wLst, wCar, wDr, wFl, wMq, wRd, wRx, wCr, wTab, wTr, wNew, wKi, wKn, wTn, wOb, wPt, wTl, wOq] at hw; omega) | (simp [wSub, wRun, wNar, wFil, wCan, wLst, wCar, wDr, wFl, wMq, wRd, wRx, wCr, wTab, wTr, wNew, wKi, wKn, wTn, wOb, wPt, wTl, wOq] at hw; done) | (simp [wSub, wRun, wNar, wFil, wCan, wLst, wCar, wDr, wFl, wMq, wRd, wRx, wCr, wTab, wTr, wNew, wKi, wKn, wTn, wOb, wPt, wTl, wOq] at hw; omega))
                try rw [kk2] at hM7
                have t74 : ∀ a b : Int, 0 ≤ a → a < ld M 92 2 → 0 ≤ b → b < ld M 92 2 → (a < x1 ∨ a = x1 ∧ b < x2 + 1) → ld M7 94 (8 * a + b) = tv (ld M 93) (ld M 92 2) a b := fun a b a1 a2 b1 b2 q5 => by
                  rw [hM7, ld_put (rng_yor _ _)]
                  by_cases q : a = x1 ∧ b = x2
                  · rw [if_pos ⟨rfl, by omega⟩, q.1, q.2]
                    exact tvm h0 (hzz x1 (by omega) (by omega)) (by first | rw [if_pos (by omega)] | rw [if_neg (by omega), if_pos (by omega)] | rw [if_neg (by omega), if_neg (by omega)]) (by first | rw [if_pos (by omega)] | rw [if_neg (by omega)])
                  · rw [if_neg (fun w => q (by omega))]
                    exact i2 a b a1 a2 b1 b2 (by omega)
                refine uX12_opens_76 ?_
                exact ih1 _ _ _ M7 fM (by first | omega | assumption | with_reducible exact rng_ld _ _ _ | with_reducible exact rng_yand _ _ | with_reducible exact rng_yor _ _ | with_reducible exact rng_zcmp _ _ | with_reducible exact yand7 _ | with_reducible exact rng_toInt _ | with_reducible exact yarr23 (by omega) | with_reducible exact yarr57 (by omega) | with_reducible exact Or.inl rfl | with_reducible exact Or.inr rfl) (by first | omega | assumption | with_reducible exact rng_ld _ _ _ | with_reducible exact rng_yand _ _ | with_reducible exact rng_yor _ _ | with_reducible exact rng_zcmp _ _ | with_reducible exact yand7 _ | with_reducible exact rng_toInt _ | with_reducible exact yarr23 (by omega) | with_reducible exact yarr57 (by omega) | with_reducible exact Or.inl rfl | with_reducible exact Or.inr rfl) (by first | exact t74 | exact (fun a b a1 a2 b1 b2 q => i1 a b a1 a2 b1 b2 (by omega))) (by omega)
          · skip
            refine uX12_opens_24 ?_
            have w93 : ld M2 93 x1 = ld M 93 x1 := fM.ld (by omega)
            have kk2 : ld M2 92 2 = ld M 92 2 := k92_2
            refine uX12_opens_47 (by first | omega | assumption | with_reducible exact rng_ld _ _ _ | with_reducible exact rng_yand _ _ | with_reducible exact rng_yor _ _ | with_reducible exact rng_zcmp _ _ | with_reducible exact yand7 _ | with_reducible exact rng_toInt _ | with_reducible exact yarr23 (by omega) | with_reducible exact yarr57 (by omega) | with_reducible exact Or.inl rfl | with_reducible exact Or.inr rfl) (by first | omega | assumption | with_reducible exact rng_ld _ _ _ | with_reducible exact rng_yand _ _ | with_reducible exact rng_yor _ _ | with_reducible exact rng_zcmp _ _ | with_reducible exact yand7 _ | with_reducible exact rng_toInt _ | with_reducible exact yarr23 (by omega) | with_reducible exact yarr57 (by omega) | with_reducible exact Or.inl rfl | with_reducible exact Or.inr rfl) (fun hc => ?_) (fun hc => ?_)
            · skip
              refine uX12_opens_73 ?_
              refine uX12_opens_74 (by first | omega | assumption | with_reducible exact rng_ld _ _ _ | with_reducible exact rng_yand _ _ | with_reducible exact rng_yor _ _ | with_reducible exact rng_zcmp _ _ | with_reducible exact yand7 _ | with_reducible exact rng_toInt _ | with_reducible exact yarr23 (by omega) | with_reducible exact yarr57 (by omega) | with_reducible exact Or.inl rfl | with_reducible exact Or.inr rfl) ?_
              intro M8 hM8
              replace fM := fr.put fM hM8 (by first | omega | (dsimp only [wSub, wRun, wNar, wFil, wCan, wLst, wCar, wDr, wFl, wMq, wRd, wRx, wCr, wTab, wTr, wNew, wKi, wKn, wTn, wOb, wPt, wTl, wOq]; done) | (dsimp only [wSub, wRun, wNar, wFil, wCan, wLst, wCar, wDr, wFl, wMq, wRd, wRx, wCr, wTab, wTr, wNew, wKi, wKn, wTn, wOb, wPt, wTl, wOq]; omega) | (simp [wSub, wRun, wNar, wFil, wCan, wLst, wCar, wDr, wFl, wMq, wRd, wRx, wCr, wTab, wTr, wNew, wKi, wKn, wTn, wOb, wPt, wTl, wOq]; done) | (simp [wSub, wRun, wNar, wFil, wCan, wLst, wCar, wDr, wFl, wMq, wRd, wRx, wCr, wTab, wTr, wNew, wKi, wKn, wTn, wOb, wPt, wTl, wOq]; omega))
              have k92_2 := fM.ld (o := 92) (j := 2) (by intro hw; first | omega | (dsimp only [wSub, wRun, wNar, wFil, wCan, wLst, wCar, wDr, wFl, wMq, wRd, wRx, wCr, wTab, wTr, wNew, wKi, wKn, wTn, wOb, wPt, wTl, wOq] at hw; omega) | (simp [wSub, wRun, wNar, wFil, wCan, wLst, wCar, wDr, wFl, wMq, wRd, wRx, wCr, wTab, wTr, wNew, wKi, wKn, wTn, wOb, wPt, wTl, wOq] at hw; done) | (simp [wSub, wRun, wNar, wFil, wCan, wLst, wCar, wDr, wFl, wMq, wRd, wRx, wCr, wTab, wTr, wNew, wKi, wKn, wTn, wOb, wPt, wTl, wOq] at hw; omega))
              try rw [kk2] at hM8
              have t74 : ∀ a b : Int, 0 ≤ a → a < ld M 92 2 → 0 ≤ b → b < ld M 92 2 → (a < x1 ∨ a = x1 ∧ b < x2 + 1) → ld M8 94 (8 * a + b) = tv (ld M 93) (ld M 92 2) a b := fun a b a1 a2 b1 b2 q5 => by
                rw [hM8, ld_put (rng_yor _ _)]
                by_cases q : a = x1 ∧ b = x2
                · rw [if_pos ⟨rfl, by omega⟩, q.1, q.2]
                  exact tvm h0 (hzz x1 (by omega) (by omega)) (by first | rw [if_pos (by omega)] | rw [if_neg (by omega), if_pos (by omega)] | rw [if_neg (by omega), if_neg (by omega)]) (by first | rw [if_pos (by omega)] | rw [if_neg (by omega)])
                · rw [if_neg (fun w => q (by omega))]
                  exact i2 a b a1 a2 b1 b2 (by omega)
              refine uX12_opens_76 ?_
              exact ih1 _ _ _ M8 fM (by first | omega | assumption | with_reducible exact rng_ld _ _ _ | with_reducible exact rng_yand _ _ | with_reducible exact rng_yor _ _ | with_reducible exact rng_zcmp _ _ | with_reducible exact yand7 _ | with_reducible exact rng_toInt _ | with_reducible exact yarr23 (by omega) | with_reducible exact yarr57 (by omega) | with_reducible exact Or.inl rfl | with_reducible exact Or.inr rfl) (by first | omega | assumption | with_reducible exact rng_ld _ _ _ | with_reducible exact rng_yand _ _ | with_reducible exact rng_yor _ _ | with_reducible exact rng_zcmp _ _ | with_reducible exact yand7 _ | with_reducible exact rng_toInt _ | with_reducible exact yarr23 (by omega) | with_reducible exact yarr57 (by omega) | with_reducible exact Or.inl rfl | with_reducible exact Or.inr rfl) (by first | exact t74 | exact (fun a b a1 a2 b1 b2 q => i1 a b a1 a2 b1 b2 (by omega))) (by omega)
            · skip
              refine uX12_opens_69 ?_
              refine uX12_opens_74 (by first | omega | assumption | with_reducible exact rng_ld _ _ _ | with_reducible exact rng_yand _ _ | with_reducible exact rng_yor _ _ | with_reducible exact rng_zcmp _ _ | with_reducible exact yand7 _ | with_reducible exact rng_toInt _ | with_reducible exact yarr23 (by omega) | with_reducible exact yarr57 (by omega) | with_reducible exact Or.inl rfl | with_reducible exact Or.inr rfl) ?_
              intro M9 hM9
              replace fM := fr.put fM hM9 (by first | omega | (dsimp only [wSub, wRun, wNar, wFil, wCan, wLst, wCar, wDr, wFl, wMq, wRd, wRx, wCr, wTab, wTr, wNew, wKi, wKn, wTn, wOb, wPt, wTl, wOq]; done) | (dsimp only [wSub, wRun, wNar, wFil, wCan, wLst, wCar, wDr, wFl, wMq, wRd, wRx, wCr, wTab, wTr, wNew, wKi, wKn, wTn, wOb, wPt, wTl, wOq]; omega) | (simp [wSub, wRun, wNar, wFil, wCan, wLst, wCar, wDr, wFl, wMq, wRd, wRx, wCr, wTab, wTr, wNew, wKi, wKn, wTn, wOb, wPt, wTl, wOq]; done) | (simp [wSub, wRun, wNar, wFil, wCan, wLst, wCar, wDr, wFl, wMq, wRd, wRx, wCr, wTab, wTr, wNew, wKi, wKn, wTn, wOb, wPt, wTl, wOq]; omega))
              have k92_2 := fM.ld (o := 92) (j := 2) (by intro hw; first | omega | (dsimp only [wSub, wRun, wNar, wFil, wCan, wLst, wCar, wDr, wFl, wMq, wRd, wRx, wCr, wTab, wTr, wNew, wKi, wKn, wTn, wOb, wPt, wTl, wOq] at hw; omega) | (simp [wSub, wRun, wNar, wFil, wCan, wLst, wCar, wDr, wFl, wMq, wRd, wRx, wCr, wTab, wTr, wNew, wKi, wKn, wTn, wOb, wPt, wTl, wOq] at hw; done) | (simp [wSub, wRun, wNar, wFil, wCan, wLst, wCar, wDr, wFl, wMq, wRd, wRx, wCr, wTab, wTr, wNew, wKi, wKn, wTn, wOb, wPt, wTl, wOq] at hw; omega))
              try rw [kk2] at hM9
              have t74 : ∀ a b : Int, 0 ≤ a → a < ld M 92 2 → 0 ≤ b → b < ld M 92 2 → (a < x1 ∨ a = x1 ∧ b < x2 + 1) → ld M9 94 (8 * a + b) = tv (ld M 93) (ld M 92 2) a b := fun a b a1 a2 b1 b2 q5 => by
                rw [hM9, ld_put (rng_yor _ _)]
                by_cases q : a = x1 ∧ b = x2
                · rw [if_pos ⟨rfl, by omega⟩, q.1, q.2]
                  exact tvm h0 (hzz x1 (by omega) (by omega)) (by first | rw [if_pos (by omega)] | rw [if_neg (by omega), if_pos (by omega)] | rw [if_neg (by omega), if_neg (by omega)]) (by first | rw [if_pos (by omega)] | rw [if_neg (by omega)])
                · rw [if_neg (fun w => q (by omega))]
                  exact i2 a b a1 a2 b1 b2 (by omega)
              refine uX12_opens_76 ?_
              exact ih1 _ _ _ M9 fM (by first | omega | assumption | with_reducible exact rng_ld _ _ _ | with_reducible exact rng_yand _ _ | with_reducible exact rng_yor _ _ | with_reducible exact rng_zcmp _ _ | with_reducible exact yand7 _ | with_reducible exact rng_toInt _ | with_reducible exact yarr23 (by omega) | with_reducible exact yarr57 (by omega) | with_reducible exact Or.inl rfl | with_reducible exact Or.inr rfl) (by first | omega | assumption | with_reducible exact rng_ld _ _ _ | with_reducible exact rng_yand _ _ | with_reducible exact rng_yor _ _ | with_reducible exact rng_zcmp _ _ | with_reducible exact yand7 _ | with_reducible exact rng_toInt _ | with_reducible exact yarr23 (by omega) | with_reducible exact yarr57 (by omega) | with_reducible exact Or.inl rfl | with_reducible exact Or.inr rfl) (by first | exact t74 | exact (fun a b a1 a2 b1 b2 q => i1 a b a1 a2 b1 b2 (by omega))) (by omega)
  refine uX12_opens_0 ?_
  exact (go 1000000).1 _ _ _ M fM (by first | omega | assumption | with_reducible exact rng_ld _ _ _ | with_reducible exact rng_yand _ _ | with_reducible exact rng_yor _ _ | with_reducible exact rng_zcmp _ _ | with_reducible exact yand7 _ | with_reducible exact rng_toInt _ | with_reducible exact yarr23 (by omega) | with_reducible exact yarr57 (by omega) | with_reducible exact Or.inl rfl | with_reducible exact Or.inr rfl) (by first | exact (fun a b a1 a2 b1 b2 q => i2 a b a1 a2 b1 b2 (by omega)) | exact (fun a b a1 a2 b1 b2 q => absurd q (by omega))) (by omega)
theorem c12_frees {d : Nat} {Q : yM → Prop} {M : yM}   (hmk : 1 ≤ ld M 92 2 ∧ ld M 92 2 ≤ 8) (k : ∀ (M' : yM), fr (fun o j => o = 100 ∧ 0 ≤ j ∧ j < 64) M M' → (NFm M') → Q M') : XCv (d + 1) 127 [.inr (.inr 92)] M Q := by
  refine eX12_frees ?_
  have fM : fr (fun o j => o = 100 ∧ 0 ≤ j ∧ j < 64) M M := fr.rf
  have hal := al_le hmk
  have go : ∀ N : Nat, (∀ (x1 : Int) (wx2 : Option yV) (M9 : yM), fr (fun o j => o = 100 ∧ 0 ≤ j ∧ j < 64) M M9 → (0 ≤ x1 ∧ x1 ≤ 8) → (∀ i c, 0 ≤ i → i < x1 → 0 ≤ c → c < 8 → ld M9 100 (8 * i + c) = if i = c then 1 else al (ld M 92 2)) → ((8 - x1) * 40 + 20 < (N : Int)) → XW kX12_frees (d + 1) none (wQv Q) 2 [some (.inr (.inr 92)), some (.inl x1), wx2] [] M9) ∧ (∀ (x1 : Int) (x2 : Int) (M9 : yM), fr (fun o j => o = 100 ∧ 0 ≤ j ∧ j < 64) M M9 → (0 ≤ x1 ∧ x1 < 8) → (0 ≤ x2 ∧ x2 ≤ 8) → (∀ i c, 0 ≤ i → 0 ≤ c → c < 8 → (i < x1 ∨ i = x1 ∧ c < x2) → ld M9 100 (8 * i + c) = if i = c then 1 else al (ld M 92 2)) → ((8 - x1) * 40 + 8 - x2 < (N : Int)) → XW kX12_frees (d + 1) none (wQv Q) 10 [some (.inr (.inr 92)), some (.inl x1), some (.inl x2)] [] M9) := by
    intro N
    induction N with
    | zero => refine ⟨?_, ?_⟩ <;> (intros; exfalso; omega)
    | succ N ih =>
      obtain ⟨ih0, ih1⟩ := ih
      refine ⟨?_, ?_⟩
      · skip
        clear fM
        intro x1 wx2 M1 fM i0 i1 hm
        have k92_2 := fM.ld (o := 92) (j := 2) (by intro hw; first | omega | (dsimp only [wSub, wRun, wNar, wFil, wCan, wLst, wCar, wDr, wFl, wMq, wRd, wRx, wCr, wTab, wTr, wNew, wKi, wKn, wTn, wOb, wPt, wTl, wOq] at hw; omega) | (simp [wSub, wRun, wNar, wFil, wCan, wLst, wCar, wDr, wFl, wMq, wRd, wRx, wCr, wTab, wTr, wNew, wKi, wKn, wTn, wOb, wPt, wTl, wOq] at hw; done) | (simp [wSub, wRun, wNar, wFil, wCan, wLst, wCar, wDr, wFl, wMq, wRd, wRx, wCr, wTab, wTr, wNew, wKi, wKn, wTn, wOb, wPt, wTl, wOq] at hw; omega))
        refine uX12_frees_2 (by first | omega | assumption | with_reducible exact rng_ld _ _ _ | with_reducible exact rng_yand _ _ | with_reducible exact rng_yor _ _ | with_reducible exact rng_zcmp _ _ | with_reducible exact yand7 _ | with_reducible exact rng_toInt _ | with_reducible exact yarr23 (by omega) | with_reducible exact yarr57 (by omega) | with_reducible exact Or.inl rfl | with_reducible exact Or.inr rfl) (fun hc => ?_) (fun hc => ?_)
        · skip
          refine uX12_frees_52 ?_
          exact k _ fM (fun i c h1 h2 h3 h4 => by rw [k92_2]; exact i1 i c h1 (by omega) h3 h4)
        · skip
          refine uX12_frees_8 ?_
          exact ih1 _ _ M1 fM (by first | omega | assumption | with_reducible exact rng_ld _ _ _ | with_reducible exact rng_yand _ _ | with_reducible exact rng_yor _ _ | with_reducible exact rng_zcmp _ _ | with_reducible exact yand7 _ | with_reducible exact rng_toInt _ | with_reducible exact yarr23 (by omega) | with_reducible exact yarr57 (by omega) | with_reducible exact Or.inl rfl | with_reducible exact Or.inr rfl) (by first | omega | assumption | with_reducible exact rng_ld _ _ _ | with_reducible exact rng_yand _ _ | with_reducible exact rng_yor _ _ | with_reducible exact rng_zcmp _ _ | with_reducible exact yand7 _ | with_reducible exact rng_toInt _ | with_reducible exact yarr23 (by omega) | with_reducible exact yarr57 (by omega) | with_reducible exact Or.inl rfl | with_reducible exact Or.inr rfl) (by first | exact t39 | exact (fun i c h1 h3 h4 h5 => i1 i c h1 (by omega) h3 h4)) (by omega)
      · skip
        clear fM
        intro x1 x2 M2 fM i0 i1 i2 hm
        have k92_2 := fM.ld (o := 92) (j := 2) (by intro hw; first | omega | (dsimp only [wSub, wRun, wNar, wFil, wCan, wLst, wCar, wDr, wFl, wMq, wRd, wRx, wCr, wTab, wTr, wNew, wKi, wKn, wTn, wOb, wPt, wTl, wOq] at hw; omega) | (simp [wSub, wRun, wNar, wFil, wCan, wLst, wCar, wDr, wFl, wMq, wRd, wRx, wCr, wTab, wTr, wNew, wKi, wKn, wTn, wOb, wPt, wTl, wOq] at hw; done) | (simp [wSub, wRun, wNar, wFil, wCan, wLst, wCar, wDr, wFl, wMq, wRd, wRx, wCr, wTab, wTr, wNew, wKi, wKn, wTn, wOb, wPt, wTl, wOq] at hw; omega))
        refine uX12_frees_10 (by first | omega | assumption | with_reducible exact rng_ld _ _ _ | with_reducible exact rng_yand _ _ | with_reducible exact rng_yor _ _ | with_reducible exact rng_zcmp _ _ | with_reducible exact yand7 _ | with_reducible exact rng_toInt _ | with_reducible exact yarr23 (by omega) | with_reducible exact yarr57 (by omega) | with_reducible exact Or.inl rfl | with_reducible exact Or.inr rfl) (fun hc => ?_) (fun hc => ?_)
        · skip
          refine uX12_frees_46 ?_
          exact ih0 _ _ M2 fM (by first | omega | assumption | with_reducible exact rng_ld _ _ _ | with_reducible exact rng_yand _ _ | with_reducible exact rng_yor _ _ | with_reducible exact rng_zcmp _ _ | with_reducible exact yand7 _ | with_reducible exact rng_toInt _ | with_reducible exact yarr23 (by omega) | with_reducible exact yarr57 (by omega) | with_reducible exact Or.inl rfl | with_reducible exact Or.inr rfl) (by first | exact (fun i c h1 h2 h3 h4 => absurd h2 (by omega)) | exact (fun i c h1 h2 h3 h4 => i2 i c h1 h3 h4 (by omega))) (by omega)
        · skip
          refine uX12_frees_16 (by first | omega | assumption | with_reducible exact rng_ld _ _ _ | with_reducible exact rng_yand _ _ | with_reducible exact rng_yor _ _ | with_reducible exact rng_zcmp _ _ | with_reducible exact yand7 _ | with_reducible exact rng_toInt _ | with_reducible exact yarr23 (by omega) | with_reducible exact yarr57 (by omega) | with_reducible exact Or.inl rfl | with_reducible exact Or.inr rfl) (by first | omega | assumption | with_reducible exact rng_ld _ _ _ | with_reducible exact rng_yand _ _ | with_reducible exact rng_yor _ _ | with_reducible exact rng_zcmp _ _ | with_reducible exact yand7 _ | with_reducible exact rng_toInt _ | with_reducible exact yarr23 (by omega) | with_reducible exact yarr57 (by omega) | with_reducible exact Or.inl rfl | with_reducible exact Or.inr rfl) (fun hc => ?_) (fun hc => ?_)
          · skip
            refine uX12_frees_35 ?_
            refine c12_all  (by first | omega | assumption | with_reducible exact rng_ld _ _ _ | with_reducible exact rng_yand _ _ | with_reducible exact rng_yor _ _ | with_reducible exact rng_zcmp _ _ | with_reducible exact yand7 _ | with_reducible exact rng_toInt _ | with_reducible exact yarr23 (by omega) | with_reducible exact yarr57 (by omega) | with_reducible exact Or.inl rfl | with_reducible exact Or.inr rfl) ?_
            have kk : ld M2 92 2 = ld M 92 2 := k92_2
            have kal : 1 ≤ al (ld M2 92 2) ∧ al (ld M2 92 2) ≤ 255 := by rw [kk]; exact hal
            refine uX12_frees_39 (by first | omega | assumption | with_reducible exact rng_ld _ _ _ | with_reducible exact rng_yand _ _ | with_reducible exact rng_yor _ _ | with_reducible exact rng_zcmp _ _ | with_reducible exact yand7 _ | with_reducible exact rng_toInt _ | with_reducible exact yarr23 (by omega) | with_reducible exact yarr57 (by omega) | with_reducible exact Or.inl rfl | with_reducible exact Or.inr rfl) ?_
            intro M4 hM4
            replace fM := fr.put fM hM4 (by first | omega | (dsimp only [wSub, wRun, wNar, wFil, wCan, wLst, wCar, wDr, wFl, wMq, wRd, wRx, wCr, wTab, wTr, wNew, wKi, wKn, wTn, wOb, wPt, wTl, wOq]; done) | (dsimp only [wSub, wRun, wNar, wFil, wCan, wLst, wCar, wDr, wFl, wMq, wRd, wRx, wCr, wTab, wTr, wNew, wKi, wKn, wTn, wOb, wPt, wTl, wOq]; omega) | (simp [wSub, wRun, wNar, wFil, wCan, wLst, wCar, wDr, wFl, wMq, wRd, wRx, wCr, wTab, wTr, wNew, wKi, wKn, wTn, wOb, wPt, wTl, wOq]; done) | (simp [wSub, wRun, wNar, wFil, wCan, wLst, wCar, wDr, wFl, wMq, wRd, wRx, wCr, wTab, wTr, wNew, wKi, wKn, wTn, wOb, wPt, wTl, wOq]; omega))
            have k92_2 := fM.ld (o := 92) (j := 2) (by intro hw; first | omega | (dsimp only [wSub, wRun, wNar, wFil, wCan, wLst, wCar, wDr, wFl, wMq, wRd, wRx, wCr, wTab, wTr, wNew, wKi, wKn, wTn, wOb, wPt, wTl, wOq] at hw; omega) | (simp [wSub, wRun, wNar, wFil, wCan, wLst, wCar, wDr, wFl, wMq, wRd, wRx, wCr, wTab, wTr, wNew, wKi, wKn, wTn, wOb, wPt, wTl, wOq] at hw; done) | (simp [wSub, wRun, wNar, wFil, wCan, wLst, wCar, wDr, wFl, wMq, wRd, wRx, wCr, wTab, wTr, wNew, wKi, wKn, wTn, wOb, wPt, wTl, wOq] at hw; omega))
            have t39 : ∀ i c, 0 ≤ i → 0 ≤ c → c < 8 → (i < x1 ∨ i = x1 ∧ c < x2 + 1) → ld M4 100 (8 * i + c) = if i = c then 1 else al (ld M 92 2) := fun i c h1 h3 h4 h5 => by
              rw [hM4, ld_put (by first | omega | assumption)]
              split
              · next q =>
                have e1 : i = x1 := by omega
                have e2 : c = x2 := by omega
                rw [e1, e2]
                first | rw [if_pos (by omega)] | rw [if_neg (by omega), kk]
              · next q => exact i2 i c h1 h3 h4 (by omega)
            refine uX12_frees_40 ?_
            exact ih1 _ _ M4 fM (by first | omega | assumption | with_reducible exact rng_ld _ _ _ | with_reducible exact rng_yand _ _ | with_reducible exact rng_yor _ _ | with_reducible exact rng_zcmp _ _ | with_reducible exact yand7 _ | with_reducible exact rng_toInt _ | with_reducible exact yarr23 (by omega) | with_reducible exact yarr57 (by omega) | with_reducible exact Or.inl rfl | with_reducible exact Or.inr rfl) (by first | omega | assumption | with_reducible exact rng_ld _ _ _ | with_reducible exact rng_yand _ _ | with_reducible exact rng_yor _ _ | with_reducible exact rng_zcmp _ _ | with_reducible exact yand7 _ | with_reducible exact rng_toInt _ | with_reducible exact yarr23 (by omega) | with_reducible exact yarr57 (by omega) | with_reducible exact Or.inl rfl | with_reducible exact Or.inr rfl) (by first | exact t39 | exact (fun i c h1 h3 h4 h5 => i1 i c h1 (by omega) h3 h4)) (by omega)
          · skip
            refine uX12_frees_31 ?_
            have kk : ld M2 92 2 = ld M 92 2 := k92_2
            have kal : 1 ≤ al (ld M2 92 2) ∧ al (ld M2 92 2) ≤ 255 := by rw [kk]; exact hal
            refine uX12_frees_39 (by first | omega | assumption | with_reducible exact rng_ld _ _ _ | with_reducible exact rng_yand _ _ | with_reducible exact rng_yor _ _ | with_reducible exact rng_zcmp _ _ | with_reducible exact yand7 _ | with_reducible exact rng_toInt _ | with_reducible exact yarr23 (by omega) | with_reducible exact yarr57 (by omega) | with_reducible exact Or.inl rfl | with_reducible exact Or.inr rfl) ?_
            intro M5 hM5
            replace fM := fr.put fM hM5 (by first | omega | (dsimp only [wSub, wRun, wNar, wFil, wCan, wLst, wCar, wDr, wFl, wMq, wRd, wRx, wCr, wTab, wTr, wNew, wKi, wKn, wTn, wOb, wPt, wTl, wOq]; done) | (dsimp only [wSub, wRun, wNar, wFil, wCan, wLst, wCar, wDr, wFl, wMq, wRd, wRx, wCr, wTab, wTr, wNew, wKi, wKn, wTn, wOb, wPt, wTl, wOq]; omega) | (simp [wSub, wRun, wNar, wFil, wCan, wLst, wCar, wDr, wFl, wMq, wRd, wRx, wCr, wTab, wTr, wNew, wKi, wKn, wTn, wOb, wPt, wTl, wOq]; done) | (simp [wSub, wRun, wNar, wFil, wCan, wLst, wCar, wDr, wFl, wMq, wRd, wRx, wCr, wTab, wTr, wNew, wKi, wKn, wTn, wOb, wPt, wTl, wOq]; omega))
            have k92_2 := fM.ld (o := 92) (j := 2) (by intro hw; first | omega | (dsimp only [wSub, wRun, wNar, wFil, wCan, wLst, wCar, wDr, wFl, wMq, wRd, wRx, wCr, wTab, wTr, wNew, wKi, wKn, wTn, wOb, wPt, wTl, wOq] at hw; omega) | (simp [wSub, wRun, wNar, wFil, wCan, wLst, wCar, wDr, wFl, wMq, wRd, wRx, wCr, wTab, wTr, wNew, wKi, wKn, wTn, wOb, wPt, wTl, wOq] at hw; done) | (simp [wSub, wRun, wNar, wFil, wCan, wLst, wCar, wDr, wFl, wMq, wRd, wRx, wCr, wTab, wTr, wNew, wKi, wKn, wTn, wOb, wPt, wTl, wOq] at hw; omega))
            have t39 : ∀ i c, 0 ≤ i → 0 ≤ c → c < 8 → (i < x1 ∨ i = x1 ∧ c < x2 + 1) → ld M5 100 (8 * i + c) = if i = c then 1 else al (ld M 92 2) := fun i c h1 h3 h4 h5 => by
              rw [hM5, ld_put (by first | omega | assumption)]
              split
              · next q =>
                have e1 : i = x1 := by omega
                have e2 : c = x2 := by omega
                rw [e1, e2]
                first | rw [if_pos (by omega)] | rw [if_neg (by omega), kk]
              · next q => exact i2 i c h1 h3 h4 (by omega)
            refine uX12_frees_40 ?_
            exact ih1 _ _ M5 fM (by first | omega | assumption | with_reducible exact rng_ld _ _ _ | with_reducible exact rng_yand _ _ | with_reducible exact rng_yor _ _ | with_reducible exact rng_zcmp _ _ | with_reducible exact yand7 _ | with_reducible exact rng_toInt _ | with_reducible exact yarr23 (by omega) | with_reducible exact yarr57 (by omega) | with_reducible exact Or.inl rfl | with_reducible exact Or.inr rfl) (by first | omega | assumption | with_reducible exact rng_ld _ _ _ | with_reducible exact rng_yand _ _ | with_reducible exact rng_yor _ _ | with_reducible exact rng_zcmp _ _ | with_reducible exact yand7 _ | with_reducible exact rng_toInt _ | with_reducible exact yarr23 (by omega) | with_reducible exact yarr57 (by omega) | with_reducible exact Or.inl rfl | with_reducible exact Or.inr rfl) (by first | exact t39 | exact (fun i c h1 h3 h4 h5 => i1 i c h1 (by omega) h3 h4)) (by omega)
  refine uX12_frees_0 ?_
  exact (go 1000000).1 _ _ M fM (by first | omega | assumption | with_reducible exact rng_ld _ _ _ | with_reducible exact rng_yand _ _ | with_reducible exact rng_yor _ _ | with_reducible exact rng_zcmp _ _ | with_reducible exact yand7 _ | with_reducible exact rng_toInt _ | with_reducible exact yarr23 (by omega) | with_reducible exact yarr57 (by omega) | with_reducible exact Or.inl rfl | with_reducible exact Or.inr rfl) (by first | exact (fun i c h1 h2 h3 h4 => absurd h2 (by omega)) | exact (fun i c h1 h2 h3 h4 => i2 i c h1 h3 h4 (by omega))) (by omega)
theorem c12_empties {d : Nat} {Q : yM → Prop} {M : yM}    (k : ∀ (M' : yM), fr (fun o _ => o = 107 ∨ o = 108) M M' → (∀ i, 0 ≤ i → i < 4 → WFt M' i) → Q M') : XCv d 128 [.inr (.inr 92)] M Q := by
  refine eX12_empties ?_
  have fM : fr (fun o _ => o = 107 ∨ o = 108) M M := fr.rf
  have go : ∀ N : Nat, (∀ (x1 : Int) (M9 : yM), fr (fun o _ => o = 107 ∨ o = 108) M M9 → (0 ≤ x1 ∧ x1 ≤ 4) → (∀ i, 0 ≤ i → i < x1 → ld M9 108 i = 1 ∧ ld M9 107 (60 * i) = 48) → (4 - x1 < (N : Int)) → XW kX12_empties d none (wQv Q) 2 [some (.inr (.inr 92)), some (.inl x1)] [] M9) := by
    intro N
    induction N with
    | zero => intros; exfalso; omega
    | succ N ih =>
      have ih0 := ih
      clear fM
      intro x1 M1 fM i0 i1 hm
      refine uX12_empties_2 (by first | omega | assumption | with_reducible exact rng_ld _ _ _ | with_reducible exact rng_yand _ _ | with_reducible exact rng_yor _ _ | with_reducible exact rng_zcmp _ _ | with_reducible exact yand7 _ | with_reducible exact rng_toInt _ | with_reducible exact yarr23 (by omega) | with_reducible exact yarr57 (by omega) | with_reducible exact Or.inl rfl | with_reducible exact Or.inr rfl) (fun hc => ?_) (fun hc => ?_)
      · skip
        refine uX12_empties_31 ?_
        exact k _ fM (fun i h1 h2 => WFt_one (i1 i h1 (by omega)).1 (i1 i h1 (by omega)).2)
      · skip
        refine uX12_empties_7 (by first | omega | assumption | with_reducible exact rng_ld _ _ _ | with_reducible exact rng_yand _ _ | with_reducible exact rng_yor _ _ | with_reducible exact rng_zcmp _ _ | with_reducible exact yand7 _ | with_reducible exact rng_toInt _ | with_reducible exact yarr23 (by omega) | with_reducible exact yarr57 (by omega) | with_reducible exact Or.inl rfl | with_reducible exact Or.inr rfl) ?_
        intro M2 hM2
        replace fM := fr.put fM hM2 (by first | omega | (dsimp only [wSub, wRun, wNar, wFil, wCan, wLst, wCar, wDr, wFl, wMq, wRd, wRx, wCr, wTab, wTr, wNew, wKi, wKn, wTn, wOb, wPt, wTl, wOq]; done) | (dsimp only [wSub, wRun, wNar, wFil, wCan, wLst, wCar, wDr, wFl, wMq, wRd, wRx, wCr, wTab, wTr, wNew, wKi, wKn, wTn, wOb, wPt, wTl, wOq]; omega) | (simp [wSub, wRun, wNar, wFil, wCan, wLst, wCar, wDr, wFl, wMq, wRd, wRx, wCr, wTab, wTr, wNew, wKi, wKn, wTn, wOb, wPt, wTl, wOq]; done) | (simp [wSub, wRun, wNar, wFil, wCan, wLst, wCar, wDr, wFl, wMq, wRd, wRx, wCr, wTab, wTr, wNew, wKi, wKn, wTn, wOb, wPt, wTl, wOq]; omega))
        have e7 := hM2
        refine uX12_empties_18 (by first | omega | assumption | with_reducible exact rng_ld _ _ _ | with_reducible exact rng_yand _ _ | with_reducible exact rng_yor _ _ | with_reducible exact rng_zcmp _ _ | with_reducible exact yand7 _ | with_reducible exact rng_toInt _ | with_reducible exact yarr23 (by omega) | with_reducible exact yarr57 (by omega) | with_reducible exact Or.inl rfl | with_reducible exact Or.inr rfl) ?_
        intro M3 hM3
        replace fM := fr.put fM hM3 (by first | omega | (dsimp only [wSub, wRun, wNar, wFil, wCan, wLst, wCar, wDr, wFl, wMq, wRd, wRx, wCr, wTab, wTr, wNew, wKi, wKn, wTn, wOb, wPt, wTl, wOq]; done) | (dsimp only [wSub, wRun, wNar, wFil, wCan, wLst, wCar, wDr, wFl, wMq, wRd, wRx, wCr, wTab, wTr, wNew, wKi, wKn, wTn, wOb, wPt, wTl, wOq]; omega) | (simp [wSub, wRun, wNar, wFil, wCan, wLst, wCar, wDr, wFl, wMq, wRd, wRx, wCr, wTab, wTr, wNew, wKi, wKn, wTn, wOb, wPt, wTl, wOq]; done) | (simp [wSub, wRun, wNar, wFil, wCan, wLst, wCar, wDr, wFl, wMq, wRd, wRx, wCr, wTab, wTr, wNew, wKi, wKn, wTn, wOb, wPt, wTl, wOq]; omega))
        have t18 : ∀ i, 0 ≤ i → i < x1 + 1 → ld M3 108 i = 1 ∧ ld M3 107 (60 * i) = 48 := fun i h1 h2 => by
          rw [hM3, ld_put (by omega), ld_putne (Or.inl (by omega)), e7, ld_putne (Or.inl (by omega)), ld_put (by omega)]
          by_cases q : i = x1
          · rw [if_pos ⟨rfl, q⟩, if_pos ⟨rfl, by omega⟩]; exact ⟨rfl, rfl⟩
          · rw [if_neg (fun q2 => q q2.2), if_neg (fun q2 => q (by omega))]; exact i1 i h1 (by omega)
        refine uX12_empties_25 ?_
        exact ih0 _ M3 fM (by first | omega | assumption | with_reducible exact rng_ld _ _ _ | with_reducible exact rng_yand _ _ | with_reducible exact rng_yor _ _ | with_reducible exact rng_zcmp _ _ | with_reducible exact yand7 _ | with_reducible exact rng_toInt _ | with_reducible exact yarr23 (by omega) | with_reducible exact yarr57 (by omega) | with_reducible exact Or.inl rfl | with_reducible exact Or.inr rfl) (by first | exact (fun i h1 h2 => absurd h2 (by omega)) | exact t18) (by omega)
  refine uX12_empties_0 ?_
  exact (go 1000000) _ M fM (by first | omega | assumption | with_reducible exact rng_ld _ _ _ | with_reducible exact rng_yand _ _ | with_reducible exact rng_yor _ _ | with_reducible exact rng_zcmp _ _ | with_reducible exact yand7 _ | with_reducible exact rng_toInt _ | with_reducible exact yarr23 (by omega) | with_reducible exact yarr57 (by omega) | with_reducible exact Or.inl rfl | with_reducible exact Or.inr rfl) (by first | exact (fun i h1 h2 => absurd h2 (by omega)) | exact t18) (by omega)
theorem c12_begins {d : Nat} {Q : yM → Prop} {M : yM} {x1 : Int}  (h1 : 1 ≤ x1 ∧ x1 ≤ 8) (k : ∀ (M' : yM), fr (fun o j => (o = 92 ∧ j = 2) ∨ o = 93 ∨ o = 94 ∨ (o = 100 ∧ 0 ≤ j ∧ j < 64) ∨ o = 107 ∨ o = 108) M M' → (ld M' 92 2 = x1) → (∀ a, 0 ≤ a → a < 8 → ld M' 93 a = a) → (NFm M') → (∀ i, 0 ≤ i → i < 4 → WFt M' i) → (OPNm M') → Q M') : XCv (d + 2) 129 [.inr (.inr 92), .inl x1] M Q := by
  refine eX12_begins ?_
  have fM : fr (fun o j => (o = 92 ∧ j = 2) ∨ o = 93 ∨ o = 94 ∨ (o = 100 ∧ 0 ≤ j ∧ j < 64) ∨ o = 107 ∨ o = 108) M M := fr.rf
  have go : ∀ N : Nat, (∀ (x2 : Int) (M9 : yM), fr (fun o j => (o = 92 ∧ j = 2) ∨ o = 93 ∨ o = 94 ∨ (o = 100 ∧ 0 ≤ j ∧ j < 64) ∨ o = 107 ∨ o = 108) M M9 → (0 ≤ x2 ∧ x2 ≤ 8) → (∀ a, 0 ≤ a → a < x2 → ld M9 93 a = a) → (ld M9 92 2 = x1) → (8 - x2 < (N : Int)) → XW kX12_begins (d + 2) none (wQv Q) 7 [some (.inr (.inr 92)), some (.inl x1), some (.inl x2)] [] M9) := by
    intro N
    induction N with
    | zero => intros; exfalso; omega
    | succ N ih =>
      have ih0 := ih
      clear fM
      intro x2 M1 fM i0 i1 t1 hm
      refine uX12_begins_7 (by first | omega | assumption | with_reducible exact rng_ld _ _ _ | with_reducible exact rng_yand _ _ | with_reducible exact rng_yor _ _ | with_reducible exact rng_zcmp _ _ | with_reducible exact yand7 _ | with_reducible exact rng_toInt _ | with_reducible exact yarr23 (by omega) | with_reducible exact yarr57 (by omega) | with_reducible exact Or.inl rfl | with_reducible exact Or.inr rfl) (fun hc => ?_) (fun hc => ?_)
      · skip
        refine uX12_begins_26 ?_
        refine XC.deep (c12_opens  (d := 0) (by first | omega | assumption | with_reducible exact rng_ld _ _ _ | with_reducible exact rng_yand _ _ | with_reducible exact rng_yor _ _ | with_reducible exact rng_zcmp _ _ | with_reducible exact yand7 _ | with_reducible exact rng_toInt _ | with_reducible exact yarr23 (by omega) | with_reducible exact yarr57 (by omega) | with_reducible exact Or.inl rfl | with_reducible exact Or.inr rfl) (fun j q1 q2 => by have e := i1 j q1 (by omega); rw [e, e]; omega) (i1 0 (by omega) (by omega)) (fun M2 fM2 p2a => ?_)) (by omega)
        replace fM := fM.tr fM2 (by intro o j hw; first | omega | exact hw | (dsimp only [wSub, wRun, wNar, wFil, wCan, wLst, wCar, wDr, wFl, wMq, wRd, wRx, wCr, wTab, wTr, wNew, wKi, wKn, wTn, wOb, wPt, wTl, wOq] at hw; dsimp only [wSub, wRun, wNar, wFil, wCan, wLst, wCar, wDr, wFl, wMq, wRd, wRx, wCr, wTab, wTr, wNew, wKi, wKn, wTn, wOb, wPt, wTl, wOq]; omega) | (dsimp only [wSub, wRun, wNar, wFil, wCan, wLst, wCar, wDr, wFl, wMq, wRd, wRx, wCr, wTab, wTr, wNew, wKi, wKn, wTn, wOb, wPt, wTl, wOq]; omega) | (dsimp only [wSub, wRun, wNar, wFil, wCan, wLst, wCar, wDr, wFl, wMq, wRd, wRx, wCr, wTab, wTr, wNew, wKi, wKn, wTn, wOb, wPt, wTl, wOq] at hw; omega) | (simp [wSub, wRun, wNar, wFil, wCan, wLst, wCar, wDr, wFl, wMq, wRd, wRx, wCr, wTab, wTr, wNew, wKi, wKn, wTn, wOb, wPt, wTl, wOq] at hw; simp [wSub, wRun, wNar, wFil, wCan, wLst, wCar, wDr, wFl, wMq, wRd, wRx, wCr, wTab, wTr, wNew, wKi, wKn, wTn, wOb, wPt, wTl, wOq]; omega))
        replace t1 : ld M2 92 2 = x1 := by first | assumption | (rw [fM2.ld (o := 92) (j := 2) (by intro hw; first | omega | (dsimp only [wSub, wRun, wNar, wFil, wCan, wLst, wCar, wDr, wFl, wMq, wRd, wRx, wCr, wTab, wTr, wNew, wKi, wKn, wTn, wOb, wPt, wTl, wOq] at hw; omega) | (simp [wSub, wRun, wNar, wFil, wCan, wLst, wCar, wDr, wFl, wMq, wRd, wRx, wCr, wTab, wTr, wNew, wKi, wKn, wTn, wOb, wPt, wTl, wOq] at hw; done) | (simp [wSub, wRun, wNar, wFil, wCan, wLst, wCar, wDr, wFl, wMq, wRd, wRx, wCr, wTab, wTr, wNew, wKi, wKn, wTn, wOb, wPt, wTl, wOq] at hw; omega))]; exact t1) | omega | exact p2a
        have o3 := p2a
        have t3 : ∀ a, 0 ≤ a → a < 8 → ld M2 93 a = a := fun a h1 h2 => by rw [fM2.ld (by omega)]; exact i1 a h1 (by omega)
        refine uX12_begins_30 ?_
        refine XC.deep (c12_frees  (d := 0) (by first | omega | assumption | with_reducible exact rng_ld _ _ _ | with_reducible exact rng_yand _ _ | with_reducible exact rng_yor _ _ | with_reducible exact rng_zcmp _ _ | with_reducible exact yand7 _ | with_reducible exact rng_toInt _ | with_reducible exact yarr23 (by omega) | with_reducible exact yarr57 (by omega) | with_reducible exact Or.inl rfl | with_reducible exact Or.inr rfl) (fun M3 fM3 p3a => ?_)) (by omega)
        replace fM := fM.tr fM3 (by intro o j hw; first | omega | exact hw | (dsimp only [wSub, wRun, wNar, wFil, wCan, wLst, wCar, wDr, wFl, wMq, wRd, wRx, wCr, wTab, wTr, wNew, wKi, wKn, wTn, wOb, wPt, wTl, wOq] at hw; dsimp only [wSub, wRun, wNar, wFil, wCan, wLst, wCar, wDr, wFl, wMq, wRd, wRx, wCr, wTab, wTr, wNew, wKi, wKn, wTn, wOb, wPt, wTl, wOq]; omega) | (dsimp only [wSub, wRun, wNar, wFil, wCan, wLst, wCar, wDr, wFl, wMq, wRd, wRx, wCr, wTab, wTr, wNew, wKi, wKn, wTn, wOb, wPt, wTl, wOq]; omega) | (dsimp only [wSub, wRun, wNar, wFil, wCan, wLst, wCar, wDr, wFl, wMq, wRd, wRx, wCr, wTab, wTr, wNew, wKi, wKn, wTn, wOb, wPt, wTl, wOq] at hw; omega) | (simp [wSub, wRun, wNar, wFil, wCan, wLst, wCar, wDr, wFl, wMq, wRd, wRx, wCr, wTab, wTr, wNew, wKi, wKn, wTn, wOb, wPt, wTl, wOq] at hw; simp [wSub, wRun, wNar, wFil, wCan, wLst, wCar, wDr, wFl, wMq, wRd, wRx, wCr, wTab, wTr, wNew, wKi, wKn, wTn, wOb, wPt, wTl, wOq]; omega))
        replace t1 : ld M3 92 2 = x1 := by first | assumption | (rw [fM3.ld (o := 92) (j := 2) (by intro hw; first | omega | (dsimp only [wSub, wRun, wNar, wFil, wCan, wLst, wCar, wDr, wFl, wMq, wRd, wRx, wCr, wTab, wTr, wNew, wKi, wKn, wTn, wOb, wPt, wTl, wOq] at hw; omega) | (simp [wSub, wRun, wNar, wFil, wCan, wLst, wCar, wDr, wFl, wMq, wRd, wRx, wCr, wTab, wTr, wNew, wKi, wKn, wTn, wOb, wPt, wTl, wOq] at hw; done) | (simp [wSub, wRun, wNar, wFil, wCan, wLst, wCar, wDr, wFl, wMq, wRd, wRx, wCr, wTab, wTr, wNew, wKi, wKn, wTn, wOb, wPt, wTl, wOq] at hw; omega))]; exact t1) | omega | exact p3a
        have o4 := o3.fr fM3 (by omega) (fun _ => by omega) (fun _ => by omega)
        have t4 : ∀ a, 0 ≤ a → a < 8 → ld M3 93 a = a := fun a h1 h2 => by rw [fM3.ld (by omega)]; exact t3 a h1 h2
        have n4 := p3a
        refine uX12_begins_34 ?_
        refine c12_empties   (fun M4 fM4 p4a => ?_)
        replace fM := fM.tr fM4 (by intro o j hw; first | omega | exact hw | (dsimp only [wSub, wRun, wNar, wFil, wCan, wLst, wCar, wDr, wFl, wMq, wRd, wRx, wCr, wTab, wTr, wNew, wKi, wKn, wTn, wOb, wPt, wTl, wOq] at hw; dsimp only [wSub, wRun, wNar, wFil, wCan, wLst, wCar, wDr, wFl, wMq, wRd, wRx, wCr, wTab, wTr, wNew, wKi, wKn, wTn, wOb, wPt, wTl, wOq]; omega) | (dsimp only [wSub, wRun, wNar, wFil, wCan, wLst, wCar, wDr, wFl, wMq, wRd, wRx, wCr, wTab, wTr, wNew, wKi, wKn, wTn, wOb, wPt, wTl, wOq]; omega) | (dsimp only [wSub, wRun, wNar, wFil, wCan, wLst, wCar, wDr, wFl, wMq, wRd, wRx, wCr, wTab, wTr, wNew, wKi, wKn, wTn, wOb, wPt, wTl, wOq] at hw; omega) | (simp [wSub, wRun, wNar, wFil, wCan, wLst, wCar, wDr, wFl, wMq, wRd, wRx, wCr, wTab, wTr, wNew, wKi, wKn, wTn, wOb, wPt, wTl, wOq] at hw; simp [wSub, wRun, wNar, wFil, wCan, wLst, wCar, wDr, wFl, wMq, wRd, wRx, wCr, wTab, wTr, wNew, wKi, wKn, wTn, wOb, wPt, wTl, wOq]; omega))
        replace t1 : ld M4 92 2 = x1 := by first | assumption | (rw [fM4.ld (o := 92) (j := 2) (by intro hw; first | omega | (dsimp only [wSub, wRun, wNar, wFil, wCan, wLst, wCar, wDr, wFl, wMq, wRd, wRx, wCr, wTab, wTr, wNew, wKi, wKn, wTn, wOb, wPt, wTl, wOq] at hw; omega) | (simp [wSub, wRun, wNar, wFil, wCan, wLst, wCar, wDr, wFl, wMq, wRd, wRx, wCr, wTab, wTr, wNew, wKi, wKn, wTn, wOb, wPt, wTl, wOq] at hw; done) | (simp [wSub, wRun, wNar, wFil, wCan, wLst, wCar, wDr, wFl, wMq, wRd, wRx, wCr, wTab, wTr, wNew, wKi, wKn, wTn, wOb, wPt, wTl, wOq] at hw; omega))]; exact t1) | omega | exact p4a
        have o5 := o4.fr fM4 (by omega) (fun _ => by omega) (fun _ => by omega)
        have t5 : ∀ a, 0 ≤ a → a < 8 → ld M4 93 a = a := fun a h1 h2 => by rw [fM4.ld (by omega)]; exact t4 a h1 h2
        have n5 := n4.fr fM4 (by omega) (fun _ _ _ => by omega)
        refine uX12_begins_38 ?_
        exact k _ fM (by first | omega | assumption | with_reducible exact rng_ld _ _ _ | with_reducible exact rng_yand _ _ | with_reducible exact rng_yor _ _ | with_reducible exact rng_zcmp _ _ | with_reducible exact yand7 _ | with_reducible exact rng_toInt _ | with_reducible exact yarr23 (by omega) | with_reducible exact yarr57 (by omega) | with_reducible exact Or.inl rfl | with_reducible exact Or.inr rfl) t5 n5 (by first | omega | assumption | with_reducible exact rng_ld _ _ _ | with_reducible exact rng_yand _ _ | with_reducible exact rng_yor _ _ | with_reducible exact rng_zcmp _ _ | with_reducible exact yand7 _ | with_reducible exact rng_toInt _ | with_reducible exact yarr23 (by omega) | with_reducible exact yarr57 (by omega) | with_reducible exact Or.inl rfl | with_reducible exact Or.inr rfl) o5
      · skip
        refine uX12_begins_13 (by first | omega | assumption | with_reducible exact rng_ld _ _ _ | with_reducible exact rng_yand _ _ | with_reducible exact rng_yor _ _ | with_reducible exact rng_zcmp _ _ | with_reducible exact yand7 _ | with_reducible exact rng_toInt _ | with_reducible exact yarr23 (by omega) | with_reducible exact yarr57 (by omega) | with_reducible exact Or.inl rfl | with_reducible exact Or.inr rfl) ?_
        intro M5 hM5
        replace fM := fr.put fM hM5 (by first | omega | (dsimp only [wSub, wRun, wNar, wFil, wCan, wLst, wCar, wDr, wFl, wMq, wRd, wRx, wCr, wTab, wTr, wNew, wKi, wKn, wTn, wOb, wPt, wTl, wOq]; done) | (dsimp only [wSub, wRun, wNar, wFil, wCan, wLst, wCar, wDr, wFl, wMq, wRd, wRx, wCr, wTab, wTr, wNew, wKi, wKn, wTn, wOb, wPt, wTl, wOq]; omega) | (simp [wSub, wRun, wNar, wFil, wCan, wLst, wCar, wDr, wFl, wMq, wRd, wRx, wCr, wTab, wTr, wNew, wKi, wKn, wTn, wOb, wPt, wTl, wOq]; done) | (simp [wSub, wRun, wNar, wFil, wCan, wLst, wCar, wDr, wFl, wMq, wRd, wRx, wCr, wTab, wTr, wNew, wKi, wKn, wTn, wOb, wPt, wTl, wOq]; omega))
        replace t1 : ld M5 92 2 = x1 := by first | (rw [hM5, ld_putne (by omega)]; exact t1) | (rw [hM5, ld_same (by omega)]; omega) | (rw [hM5, ld_cpyne (by omega)]; exact t1) | (rw [hM5, ld_putL]; exact t1)
        have t2 : ∀ a, 0 ≤ a → a < x2 + 1 → ld M5 93 a = a := fun a h1 h2 => by
          rw [hM5, ld_put (by omega)]
          split
          · omega
          · exact i1 a h1 (by omega)
        refine uX12_begins_20 ?_
        exact ih0 _ M5 fM (by first | omega | assumption | with_reducible exact rng_ld _ _ _ | with_reducible exact rng_yand _ _ | with_reducible exact rng_yor _ _ | with_reducible exact rng_zcmp _ _ | with_reducible exact yand7 _ | with_reducible exact rng_toInt _ | with_reducible exact yarr23 (by omega) | with_reducible exact yarr57 (by omega) | with_reducible exact Or.inl rfl | with_reducible exact Or.inr rfl) (by first | assumption | exact t2 | exact (fun a h1 h2 => absurd h2 (by omega))) t1 (by omega)
  refine uX12_begins_0 ?_
  intro M6 hM6
  replace fM := fr.put fM hM6 (by first | omega | (dsimp only [wSub, wRun, wNar, wFil, wCan, wLst, wCar, wDr, wFl, wMq, wRd, wRx, wCr, wTab, wTr, wNew, wKi, wKn, wTn, wOb, wPt, wTl, wOq]; done) | (dsimp only [wSub, wRun, wNar, wFil, wCan, wLst, wCar, wDr, wFl, wMq, wRd, wRx, wCr, wTab, wTr, wNew, wKi, wKn, wTn, wOb, wPt, wTl, wOq]; omega) | (simp [wSub, wRun, wNar, wFil, wCan, wLst, wCar, wDr, wFl, wMq, wRd, wRx, wCr, wTab, wTr, wNew, wKi, wKn, wTn, wOb, wPt, wTl, wOq]; done) | (simp [wSub, wRun, wNar, wFil, wCan, wLst, wCar, wDr, wFl, wMq, wRd, wRx, wCr, wTab, wTr, wNew, wKi, wKn, wTn, wOb, wPt, wTl, wOq]; omega))
  have t1 : ld M6 92 2 = x1 := by (rw [hM6, ld_same (by omega)]) <;> omega
  refine uX12_begins_5 ?_
  exact (go 1000000) _ M6 fM (by first | omega | assumption | with_reducible exact rng_ld _ _ _ | with_reducible exact rng_yand _ _ | with_reducible exact rng_yor _ _ | with_reducible exact rng_zcmp _ _ | with_reducible exact yand7 _ | with_reducible exact rng_toInt _ | with_reducible exact yarr23 (by omega) | with_reducible exact yarr57 (by omega) | with_reducible exact Or.inl rfl | with_reducible exact Or.inr rfl) (by first | assumption | exact t2 | exact (fun a h1 h2 => absurd h2 (by omega))) t1 (by omega)
theorem c12_kinds {d : Nat} {Q : Int → yM → Prop} {M : yM} {x1 : Int}  (hmk : 1 ≤ ld M 92 2 ∧ ld M 92 2 ≤ 8) (r1 : yR x1) (k : ∀ (v : Int) (M' : yM), fr (fun o j => (o = 92 ∧ (j = 0 ∨ j = 2)) ∨ o = 93 ∨ o = 94 ∨ (o = 100 ∧ 0 ≤ j ∧ j < 64) ∨ o = 107 ∨ o = 108) M M' → (v = -1 ∧ ¬ (1 ≤ x1 ∧ x1 ≤ 8) ∧ T0 M M' ∨ v = ld M 92 2 ∧ (1 ≤ x1 ∧ x1 ≤ 8) ∧ ld M' 92 2 = x1 ∧ (∀ a, 0 ≤ a → a < 8 → ld M' 93 a = a) ∧ NFm M' ∧ (∀ i, 0 ≤ i → i < 4 → WFt M' i) ∧ OPNm M') → Q v M') : XCi (d + 3) 130 [.inr (.inr 92), .inl x1] M Q := by
  refine eX12_kinds ?_
  have fM : fr (fun o j => (o = 92 ∧ (j = 0 ∨ j = 2)) ∨ o = 93 ∨ o = 94 ∨ (o = 100 ∧ 0 ≤ j ∧ j < 64) ∨ o = 107 ∨ o = 108) M M := fr.rf
  refine uX12_kinds_0 ?_
  intro M1 hM1
  replace fM := fr.put fM hM1 (by first | omega | (dsimp only [wSub, wRun, wNar, wFil, wCan, wLst, wCar, wDr, wFl, wMq, wRd, wRx, wCr, wTab, wTr, wNew, wKi, wKn, wTn, wOb, wPt, wTl, wOq]; done) | (dsimp only [wSub, wRun, wNar, wFil, wCan, wLst, wCar, wDr, wFl, wMq, wRd, wRx, wCr, wTab, wTr, wNew, wKi, wKn, wTn, wOb, wPt, wTl, wOq]; omega) | (simp [wSub, wRun, wNar, wFil, wCan, wLst, wCar, wDr, wFl, wMq, wRd, wRx, wCr, wTab, wTr, wNew, wKi, wKn, wTn, wOb, wPt, wTl, wOq]; done) | (simp [wSub, wRun, wNar, wFil, wCan, wLst, wCar, wDr, wFl, wMq, wRd, wRx, wCr, wTab, wTr, wNew, wKi, wKn, wTn, wOb, wPt, wTl, wOq]; omega))
  have z0 : T0 M M1 := fr.put fr.rf hM1 ⟨rfl, rfl⟩
  have z2 : ld M1 92 2 = ld M 92 2 := by rw [hM1, ld_putne (by omega)]
  have z11 : ld M1 92 11 = ld M 92 11 := by rw [hM1, ld_putne (by omega)]
  have z93 : ∀ j, ld M1 93 j = ld M 93 j := fun j => by rw [hM1, ld_putne (by omega)]
  refine uX12_kinds_5 ?_
  refine c12_in  (by first | omega | assumption | with_reducible exact rng_ld _ _ _ | with_reducible exact rng_yand _ _ | with_reducible exact rng_yor _ _ | with_reducible exact rng_zcmp _ _ | with_reducible exact yand7 _ | with_reducible exact rng_toInt _ | with_reducible exact yarr23 (by omega) | with_reducible exact yarr57 (by omega) | with_reducible exact Or.inl rfl | with_reducible exact Or.inr rfl) (by first | omega | assumption | with_reducible exact rng_ld _ _ _ | with_reducible exact rng_yand _ _ | with_reducible exact rng_yor _ _ | with_reducible exact rng_zcmp _ _ | with_reducible exact yand7 _ | with_reducible exact rng_toInt _ | with_reducible exact yarr23 (by omega) | with_reducible exact yarr57 (by omega) | with_reducible exact Or.inl rfl | with_reducible exact Or.inr rfl) (by first | omega | assumption | with_reducible exact rng_ld _ _ _ | with_reducible exact rng_yand _ _ | with_reducible exact rng_yor _ _ | with_reducible exact rng_zcmp _ _ | with_reducible exact yand7 _ | with_reducible exact rng_toInt _ | with_reducible exact yarr23 (by omega) | with_reducible exact yarr57 (by omega) | with_reducible exact Or.inl rfl | with_reducible exact Or.inr rfl) (fun v2 p2a => ?_)
  refine uX12_kinds_12 (by first | omega | assumption | with_reducible exact rng_ld _ _ _ | with_reducible exact rng_yand _ _ | with_reducible exact rng_yor _ _ | with_reducible exact rng_zcmp _ _ | with_reducible exact yand7 _ | with_reducible exact rng_toInt _ | with_reducible exact yarr23 (by omega) | with_reducible exact yarr57 (by omega) | with_reducible exact Or.inl rfl | with_reducible exact Or.inr rfl) (fun hc => ?_) (fun hc => ?_)
  · skip
    refine uX12_kinds_17 ?_
    refine XC.deep (c12_begins  (d := 0) (by first | omega | assumption | with_reducible exact rng_ld _ _ _ | with_reducible exact rng_yand _ _ | with_reducible exact rng_yor _ _ | with_reducible exact rng_zcmp _ _ | with_reducible exact yand7 _ | with_reducible exact rng_toInt _ | with_reducible exact yarr23 (by omega) | with_reducible exact yarr57 (by omega) | with_reducible exact Or.inl rfl | with_reducible exact Or.inr rfl) (fun M3 fM3 p3a p3b p3c p3d p3e => ?_)) (by omega)
    replace fM := fM.tr fM3 (by intro o j hw; first | omega | exact hw | (dsimp only [wSub, wRun, wNar, wFil, wCan, wLst, wCar, wDr, wFl, wMq, wRd, wRx, wCr, wTab, wTr, wNew, wKi, wKn, wTn, wOb, wPt, wTl, wOq] at hw; dsimp only [wSub, wRun, wNar, wFil, wCan, wLst, wCar, wDr, wFl, wMq, wRd, wRx, wCr, wTab, wTr, wNew, wKi, wKn, wTn, wOb, wPt, wTl, wOq]; omega) | (dsimp only [wSub, wRun, wNar, wFil, wCan, wLst, wCar, wDr, wFl, wMq, wRd, wRx, wCr, wTab, wTr, wNew, wKi, wKn, wTn, wOb, wPt, wTl, wOq]; omega) | (dsimp only [wSub, wRun, wNar, wFil, wCan, wLst, wCar, wDr, wFl, wMq, wRd, wRx, wCr, wTab, wTr, wNew, wKi, wKn, wTn, wOb, wPt, wTl, wOq] at hw; omega) | (simp [wSub, wRun, wNar, wFil, wCan, wLst, wCar, wDr, wFl, wMq, wRd, wRx, wCr, wTab, wTr, wNew, wKi, wKn, wTn, wOb, wPt, wTl, wOq] at hw; simp [wSub, wRun, wNar, wFil, wCan, wLst, wCar, wDr, wFl, wMq, wRd, wRx, wCr, wTab, wTr, wNew, wKi, wKn, wTn, wOb, wPt, wTl, wOq]; omega))
    have y5 := p3e
    have y1 := p3a
    have y2 := p3b
    have y3 := p3c
    have y4 := p3d
    refine uX12_kinds_27 ?_
    exact k _ _ fM (Or.inr ⟨by omega, by omega, y1, y2, y3, y4, y5⟩)
  · skip
    refine uX12_kinds_15 ?_
    exact k _ _ fM (Or.inl ⟨rfl, by omega, z0⟩)
theorem mt_m {f f1 f2 f3 f4 : Int → Int} {a b : Int} (hb : f a = b → f b = a) (e1 : ∀ j, f1 j = if j = f a then f a else f j) (e2 : ∀ j, f2 j = if j = f1 b then f1 b else f1 j) (e3 : ∀ j, f3 j = if j = a then b else f2 j) (e4 : ∀ j, f4 j = if j = b then a else f3 j) (j : Int) : f4 j = mt f a b j := by
  unfold mt
  rw [e4]
  split
  · rfl
  · rw [e3]
    split
    · rfl
    · rw [e2, e1 b, e1 j]
      by_cases q : b = f a
      · rw [if_pos q]
        have := hb q.symm
        rw [if_neg (by omega), if_neg (by omega), if_neg (by omega)]
      · rw [if_neg q]
        by_cases q1 : j = f b
        · rw [if_pos q1, if_pos (Or.inr q1)]
          exact q1.symm
        · rw [if_neg q1]
          by_cases q2 : j = f a
          · rw [if_pos q2, if_pos (Or.inl q2)]
            exact q2.symm
          · rw [if_neg q2, if_neg (fun q3 => q3.elim q2 q1)]
theorem c12_turn {d : Nat} {Q : Int → yM → Prop} {M : yM} {x1 : Int} {x2 : Int}  (hmk : 1 ≤ ld M 92 2 ∧ ld M 92 2 ≤ 8) (hm8 : T8 M 93) (hmI : ∀ j, 0 ≤ j → j < ld M 92 2 → (0 ≤ ld M 93 j ∧ ld M 93 j < ld M 92 2) ∧ ld M 93 (ld M 93 j) = j) (r1 : yR x1) (r2 : yR x2) (h93 : ld M 93 0 = 0) (k : ∀ (v : Int) (M' : yM), fr (fun o j => (o = 92 ∧ j = 0) ∨ o = 93 ∨ o = 94 ∨ (o = 100 ∧ 0 ≤ j ∧ j < 64)) M M' → (v = -1 ∧ ¬ ((1 ≤ x1 ∧ x1 < ld M 92 2) ∧ 1 ≤ x2 ∧ x2 < ld M 92 2) ∧ T0 M M' ∨ v = 1 ∧ ((1 ≤ x1 ∧ x1 < ld M 92 2) ∧ 1 ≤ x2 ∧ x2 < ld M 92 2) ∧ ld M' 92 2 = ld M 92 2 ∧ (∀ j, ld M' 93 j = mt (ld M 93) x1 x2 j) ∧ NFm M' ∧ OPNm M') → Q v M') : XCi (d + 2) 131 [.inr (.inr 92), .inl x1, .inl x2] M Q := by
  refine eX12_turn ?_
  have fM : fr (fun o j => (o = 92 ∧ j = 0) ∨ o = 93 ∨ o = 94 ∨ (o = 100 ∧ 0 ≤ j ∧ j < 64)) M M := fr.rf
  refine uX12_turn_0 ?_
  intro M1 hM1
  replace fM := fr.put fM hM1 (by first | omega | (dsimp only [wSub, wRun, wNar, wFil, wCan, wLst, wCar, wDr, wFl, wMq, wRd, wRx, wCr, wTab, wTr, wNew, wKi, wKn, wTn, wOb, wPt, wTl, wOq]; done) | (dsimp only [wSub, wRun, wNar, wFil, wCan, wLst, wCar, wDr, wFl, wMq, wRd, wRx, wCr, wTab, wTr, wNew, wKi, wKn, wTn, wOb, wPt, wTl, wOq]; omega) | (simp [wSub, wRun, wNar, wFil, wCan, wLst, wCar, wDr, wFl, wMq, wRd, wRx, wCr, wTab, wTr, wNew, wKi, wKn, wTn, wOb, wPt, wTl, wOq]; done) | (simp [wSub, wRun, wNar, wFil, wCan, wLst, wCar, wDr, wFl, wMq, wRd, wRx, wCr, wTab, wTr, wNew, wKi, wKn, wTn, wOb, wPt, wTl, wOq]; omega))
  have k92_2 := fM.ld (o := 92) (j := 2) (by intro hw; first | omega | (dsimp only [wSub, wRun, wNar, wFil, wCan, wLst, wCar, wDr, wFl, wMq, wRd, wRx, wCr, wTab, wTr, wNew, wKi, wKn, wTn, wOb, wPt, wTl, wOq] at hw; omega) | (simp [wSub, wRun, wNar, wFil, wCan, wLst, wCar, wDr, wFl, wMq, wRd, wRx, wCr, wTab, wTr, wNew, wKi, wKn, wTn, wOb, wPt, wTl, wOq] at hw; done) | (simp [wSub, wRun, wNar, wFil, wCan, wLst, wCar, wDr, wFl, wMq, wRd, wRx, wCr, wTab, wTr, wNew, wKi, wKn, wTn, wOb, wPt, wTl, wOq] at hw; omega))
  have z0 : T0 M M1 := fr.put fr.rf hM1 ⟨rfl, rfl⟩
  have z2 : ld M1 92 2 = ld M 92 2 := by rw [hM1, ld_putne (by omega)]
  have z11 : ld M1 92 11 = ld M 92 11 := by rw [hM1, ld_putne (by omega)]
  have z93 : ∀ j, ld M1 93 j = ld M 93 j := fun j => by rw [hM1, ld_putne (by omega)]
  refine uX12_turn_5 ?_
  refine XC.deep (c12_isKind  (d := 0) (by first | omega | assumption | with_reducible exact rng_ld _ _ _ | with_reducible exact rng_yand _ _ | with_reducible exact rng_yor _ _ | with_reducible exact rng_zcmp _ _ | with_reducible exact yand7 _ | with_reducible exact rng_toInt _ | with_reducible exact yarr23 (by omega) | with_reducible exact yarr57 (by omega) | with_reducible exact Or.inl rfl | with_reducible exact Or.inr rfl) (by first | omega | assumption | with_reducible exact rng_ld _ _ _ | with_reducible exact rng_yand _ _ | with_reducible exact rng_yor _ _ | with_reducible exact rng_zcmp _ _ | with_reducible exact yand7 _ | with_reducible exact rng_toInt _ | with_reducible exact yarr23 (by omega) | with_reducible exact yarr57 (by omega) | with_reducible exact Or.inl rfl | with_reducible exact Or.inr rfl) (fun v2 p2a => ?_)) (by omega)
  refine uX12_turn_10 (by first | omega | assumption | with_reducible exact rng_ld _ _ _ | with_reducible exact rng_yand _ _ | with_reducible exact rng_yor _ _ | with_reducible exact rng_zcmp _ _ | with_reducible exact yand7 _ | with_reducible exact rng_toInt _ | with_reducible exact yarr23 (by omega) | with_reducible exact yarr57 (by omega) | with_reducible exact Or.inl rfl | with_reducible exact Or.inr rfl) (fun hc => ?_) (fun hc => ?_)
  · skip
    refine uX12_turn_21 ?_
    exact k _ _ fM (Or.inl ⟨rfl, by omega, z0⟩)
  · skip
    refine uX12_turn_13 ?_
    refine XC.deep (c12_isKind  (d := 0) (by first | omega | assumption | with_reducible exact rng_ld _ _ _ | with_reducible exact rng_yand _ _ | with_reducible exact rng_yor _ _ | with_reducible exact rng_zcmp _ _ | with_reducible exact yand7 _ | with_reducible exact rng_toInt _ | with_reducible exact yarr23 (by omega) | with_reducible exact yarr57 (by omega) | with_reducible exact Or.inl rfl | with_reducible exact Or.inr rfl) (by first | omega | assumption | with_reducible exact rng_ld _ _ _ | with_reducible exact rng_yand _ _ | with_reducible exact rng_yor _ _ | with_reducible exact rng_zcmp _ _ | with_reducible exact yand7 _ | with_reducible exact rng_toInt _ | with_reducible exact yarr23 (by omega) | with_reducible exact yarr57 (by omega) | with_reducible exact Or.inl rfl | with_reducible exact Or.inr rfl) (fun v3 p3a => ?_)) (by omega)
    refine uX12_turn_18 (by first | omega | assumption | with_reducible exact rng_ld _ _ _ | with_reducible exact rng_yand _ _ | with_reducible exact rng_yor _ _ | with_reducible exact rng_zcmp _ _ | with_reducible exact yand7 _ | with_reducible exact rng_toInt _ | with_reducible exact yarr23 (by omega) | with_reducible exact yarr57 (by omega) | with_reducible exact Or.inl rfl | with_reducible exact Or.inr rfl) (fun hc => ?_) (fun hc => ?_)
    · skip
      have g1 := hm8 x1 (by omega) (by omega)
      have g2 := hm8 x2 (by omega) (by omega)
      have g3 := z93 x1
      have g4 := z93 x2
      refine uX12_turn_23 (by first | omega | assumption | with_reducible exact rng_ld _ _ _ | with_reducible exact rng_yand _ _ | with_reducible exact rng_yor _ _ | with_reducible exact rng_zcmp _ _ | with_reducible exact yand7 _ | with_reducible exact rng_toInt _ | with_reducible exact yarr23 (by omega) | with_reducible exact yarr57 (by omega) | with_reducible exact Or.inl rfl | with_reducible exact Or.inr rfl) (by first | omega | assumption | with_reducible exact rng_ld _ _ _ | with_reducible exact rng_yand _ _ | with_reducible exact rng_yor _ _ | with_reducible exact rng_zcmp _ _ | with_reducible exact yand7 _ | with_reducible exact rng_toInt _ | with_reducible exact yarr23 (by omega) | with_reducible exact yarr57 (by omega) | with_reducible exact Or.inl rfl | with_reducible exact Or.inr rfl) (by first | omega | assumption | with_reducible exact rng_ld _ _ _ | with_reducible exact rng_yand _ _ | with_reducible exact rng_yor _ _ | with_reducible exact rng_zcmp _ _ | with_reducible exact yand7 _ | with_reducible exact rng_toInt _ | with_reducible exact yarr23 (by omega) | with_reducible exact yarr57 (by omega) | with_reducible exact Or.inl rfl | with_reducible exact Or.inr rfl) ?_
      intro M4 hM4
      replace fM := fr.put fM hM4 (by first | omega | (dsimp only [wSub, wRun, wNar, wFil, wCan, wLst, wCar, wDr, wFl, wMq, wRd, wRx, wCr, wTab, wTr, wNew, wKi, wKn, wTn, wOb, wPt, wTl, wOq]; done) | (dsimp only [wSub, wRun, wNar, wFil, wCan, wLst, wCar, wDr, wFl, wMq, wRd, wRx, wCr, wTab, wTr, wNew, wKi, wKn, wTn, wOb, wPt, wTl, wOq]; omega) | (simp [wSub, wRun, wNar, wFil, wCan, wLst, wCar, wDr, wFl, wMq, wRd, wRx, wCr, wTab, wTr, wNew, wKi, wKn, wTn, wOb, wPt, wTl, wOq]; done) | (simp [wSub, wRun, wNar, wFil, wCan, wLst, wCar, wDr, wFl, wMq, wRd, wRx, wCr, wTab, wTr, wNew, wKi, wKn, wTn, wOb, wPt, wTl, wOq]; omega))
      have k92_2 := fM.ld (o := 92) (j := 2) (by intro hw; first | omega | (dsimp only [wSub, wRun, wNar, wFil, wCan, wLst, wCar, wDr, wFl, wMq, wRd, wRx, wCr, wTab, wTr, wNew, wKi, wKn, wTn, wOb, wPt, wTl, wOq] at hw; omega) | (simp [wSub, wRun, wNar, wFil, wCan, wLst, wCar, wDr, wFl, wMq, wRd, wRx, wCr, wTab, wTr, wNew, wKi, wKn, wTn, wOb, wPt, wTl, wOq] at hw; done) | (simp [wSub, wRun, wNar, wFil, wCan, wLst, wCar, wDr, wFl, wMq, wRd, wRx, wCr, wTab, wTr, wNew, wKi, wKn, wTn, wOb, wPt, wTl, wOq] at hw; omega))
      have e1 : ∀ j, ld M4 93 j = if j = ld M 93 x1 then ld M 93 x1 else ld M 93 j := fun j => by
        rw [hM4, ld_put (rng_ld _ _ _), z93, z93]
        simp only [true_and]
      have g5 := e1 x2
      have g6 : 0 ≤ ld M4 93 x2 ∧ ld M4 93 x2 < 8 := by (rw [g5]; split <;> omega)
      refine uX12_turn_40 (by first | omega | assumption | with_reducible exact rng_ld _ _ _ | with_reducible exact rng_yand _ _ | with_reducible exact rng_yor _ _ | with_reducible exact rng_zcmp _ _ | with_reducible exact yand7 _ | with_reducible exact rng_toInt _ | with_reducible exact yarr23 (by omega) | with_reducible exact yarr57 (by omega) | with_reducible exact Or.inl rfl | with_reducible exact Or.inr rfl) (by first | omega | assumption | with_reducible exact rng_ld _ _ _ | with_reducible exact rng_yand _ _ | with_reducible exact rng_yor _ _ | with_reducible exact rng_zcmp _ _ | with_reducible exact yand7 _ | with_reducible exact rng_toInt _ | with_reducible exact yarr23 (by omega) | with_reducible exact yarr57 (by omega) | with_reducible exact Or.inl rfl | with_reducible exact Or.inr rfl) (by first | omega | assumption | with_reducible exact rng_ld _ _ _ | with_reducible exact rng_yand _ _ | with_reducible exact rng_yor _ _ | with_reducible exact rng_zcmp _ _ | with_reducible exact yand7 _ | with_reducible exact rng_toInt _ | with_reducible exact yarr23 (by omega) | with_reducible exact yarr57 (by omega) | with_reducible exact Or.inl rfl | with_reducible exact Or.inr rfl) ?_
      intro M5 hM5
      replace fM := fr.put fM hM5 (by first | omega | (dsimp only [wSub, wRun, wNar, wFil, wCan, wLst, wCar, wDr, wFl, wMq, wRd, wRx, wCr, wTab, wTr, wNew, wKi, wKn, wTn, wOb, wPt, wTl, wOq]; done) | (dsimp only [wSub, wRun, wNar, wFil, wCan, wLst, wCar, wDr, wFl, wMq, wRd, wRx, wCr, wTab, wTr, wNew, wKi, wKn, wTn, wOb, wPt, wTl, wOq]; omega) | (simp [wSub, wRun, wNar, wFil, wCan, wLst, wCar, wDr, wFl, wMq, wRd, wRx, wCr, wTab, wTr, wNew, wKi, wKn, wTn, wOb, wPt, wTl, wOq]; done) | (simp [wSub, wRun, wNar, wFil, wCan, wLst, wCar, wDr, wFl, wMq, wRd, wRx, wCr, wTab, wTr, wNew, wKi, wKn, wTn, wOb, wPt, wTl, wOq]; omega))
      have k92_2 := fM.ld (o := 92) (j := 2) (by intro hw; first | omega | (dsimp only [wSub, wRun, wNar, wFil, wCan, wLst, wCar, wDr, wFl, wMq, wRd, wRx, wCr, wTab, wTr, wNew, wKi, wKn, wTn, wOb, wPt, wTl, wOq] at hw; omega) | (simp [wSub, wRun, wNar, wFil, wCan, wLst, wCar, wDr, wFl, wMq, wRd, wRx, wCr, wTab, wTr, wNew, wKi, wKn, wTn, wOb, wPt, wTl, wOq] at hw; done) | (simp [wSub, wRun, wNar, wFil, wCan, wLst, wCar, wDr, wFl, wMq, wRd, wRx, wCr, wTab, wTr, wNew, wKi, wKn, wTn, wOb, wPt, wTl, wOq] at hw; omega))
      have e2 : ∀ j, ld M5 93 j = if j = ld M4 93 x2 then ld M4 93 x2 else ld M4 93 j := fun j => by
        rw [hM5, ld_put (rng_ld _ _ _)]
        simp only [true_and]
      refine uX12_turn_57 (by first | omega | assumption | with_reducible exact rng_ld _ _ _ | with_reducible exact rng_yand _ _ | with_reducible exact rng_yor _ _ | with_reducible exact rng_zcmp _ _ | with_reducible exact yand7 _ | with_reducible exact rng_toInt _ | with_reducible exact yarr23 (by omega) | with_reducible exact yarr57 (by omega) | with_reducible exact Or.inl rfl | with_reducible exact Or.inr rfl) ?_
      intro M6 hM6
      replace fM := fr.put fM hM6 (by first | omega | (dsimp only [wSub, wRun, wNar, wFil, wCan, wLst, wCar, wDr, wFl, wMq, wRd, wRx, wCr, wTab, wTr, wNew, wKi, wKn, wTn, wOb, wPt, wTl, wOq]; done) | (dsimp only [wSub, wRun, wNar, wFil, wCan, wLst, wCar, wDr, wFl, wMq, wRd, wRx, wCr, wTab, wTr, wNew, wKi, wKn, wTn, wOb, wPt, wTl, wOq]; omega) | (simp [wSub, wRun, wNar, wFil, wCan, wLst, wCar, wDr, wFl, wMq, wRd, wRx, wCr, wTab, wTr, wNew, wKi, wKn, wTn, wOb, wPt, wTl, wOq]; done) | (simp [wSub, wRun, wNar, wFil, wCan, wLst, wCar, wDr, wFl, wMq, wRd, wRx, wCr, wTab, wTr, wNew, wKi, wKn, wTn, wOb, wPt, wTl, wOq]; omega))
      have k92_2 := fM.ld (o := 92) (j := 2) (by intro hw; first | omega | (dsimp only [wSub, wRun, wNar, wFil, wCan, wLst, wCar, wDr, wFl, wMq, wRd, wRx, wCr, wTab, wTr, wNew, wKi, wKn, wTn, wOb, wPt, wTl, wOq] at hw; omega) | (simp [wSub, wRun, wNar, wFil, wCan, wLst, wCar, wDr, wFl, wMq, wRd, wRx, wCr, wTab, wTr, wNew, wKi, wKn, wTn, wOb, wPt, wTl, wOq] at hw; done) | (simp [wSub, wRun, wNar, wFil, wCan, wLst, wCar, wDr, wFl, wMq, wRd, wRx, wCr, wTab, wTr, wNew, wKi, wKn, wTn, wOb, wPt, wTl, wOq] at hw; omega))
      have e3 : ∀ j, ld M6 93 j = if j = x1 then x2 else ld M5 93 j := fun j => by
        rw [hM6, ld_put (by omega)]
        simp only [true_and]
      refine uX12_turn_64 (by first | omega | assumption | with_reducible exact rng_ld _ _ _ | with_reducible exact rng_yand _ _ | with_reducible exact rng_yor _ _ | with_reducible exact rng_zcmp _ _ | with_reducible exact yand7 _ | with_reducible exact rng_toInt _ | with_reducible exact yarr23 (by omega) | with_reducible exact yarr57 (by omega) | with_reducible exact Or.inl rfl | with_reducible exact Or.inr rfl) ?_
      intro M7 hM7
      replace fM := fr.put fM hM7 (by first | omega | (dsimp only [wSub, wRun, wNar, wFil, wCan, wLst, wCar, wDr, wFl, wMq, wRd, wRx, wCr, wTab, wTr, wNew, wKi, wKn, wTn, wOb, wPt, wTl, wOq]; done) | (dsimp only [wSub, wRun, wNar, wFil, wCan, wLst, wCar, wDr, wFl, wMq, wRd, wRx, wCr, wTab, wTr, wNew, wKi, wKn, wTn, wOb, wPt, wTl, wOq]; omega) | (simp [wSub, wRun, wNar, wFil, wCan, wLst, wCar, wDr, wFl, wMq, wRd, wRx, wCr, wTab, wTr, wNew, wKi, wKn, wTn, wOb, wPt, wTl, wOq]; done) | (simp [wSub, wRun, wNar, wFil, wCan, wLst, wCar, wDr, wFl, wMq, wRd, wRx, wCr, wTab, wTr, wNew, wKi, wKn, wTn, wOb, wPt, wTl, wOq]; omega))
      have k92_2 := fM.ld (o := 92) (j := 2) (by intro hw; first | omega | (dsimp only [wSub, wRun, wNar, wFil, wCan, wLst, wCar, wDr, wFl, wMq, wRd, wRx, wCr, wTab, wTr, wNew, wKi, wKn, wTn, wOb, wPt, wTl, wOq] at hw; omega) | (simp [wSub, wRun, wNar, wFil, wCan, wLst, wCar, wDr, wFl, wMq, wRd, wRx, wCr, wTab, wTr, wNew, wKi, wKn, wTn, wOb, wPt, wTl, wOq] at hw; done) | (simp [wSub, wRun, wNar, wFil, wCan, wLst, wCar, wDr, wFl, wMq, wRd, wRx, wCr, wTab, wTr, wNew, wKi, wKn, wTn, wOb, wPt, wTl, wOq] at hw; omega))
      have e4 : ∀ j, ld M7 93 j = if j = x2 then x1 else ld M6 93 j := fun j => by
        rw [hM7, ld_put (by omega)]
        simp only [true_and]
      have e5 := mt_m (fun q => by rw [← q]; exact (hmI x1 (by omega) (by omega)).2) e1 e2 e3 e4
      refine uX12_turn_71 ?_
      refine XC.deep (c12_opens  (d := 0) (by omega) (by rw [k92_2]; exact (iv_mt hmI (a := x1) (b := x2) (by omega) (by omega)).cg (fun j _ _ => e5 j)) (by rw [e5]; exact mt_z hmI h93 (by omega) (by omega)) (fun M8 fM8 p8a => ?_)) (by omega)
      replace fM := fM.tr fM8 (by intro o j hw; first | omega | exact hw | (dsimp only [wSub, wRun, wNar, wFil, wCan, wLst, wCar, wDr, wFl, wMq, wRd, wRx, wCr, wTab, wTr, wNew, wKi, wKn, wTn, wOb, wPt, wTl, wOq] at hw; dsimp only [wSub, wRun, wNar, wFil, wCan, wLst, wCar, wDr, wFl, wMq, wRd, wRx, wCr, wTab, wTr, wNew, wKi, wKn, wTn, wOb, wPt, wTl, wOq]; omega) | (dsimp only [wSub, wRun, wNar, wFil, wCan, wLst, wCar, wDr, wFl, wMq, wRd, wRx, wCr, wTab, wTr, wNew, wKi, wKn, wTn, wOb, wPt, wTl, wOq]; omega) | (dsimp only [wSub, wRun, wNar, wFil, wCan, wLst, wCar, wDr, wFl, wMq, wRd, wRx, wCr, wTab, wTr, wNew, wKi, wKn, wTn, wOb, wPt, wTl, wOq] at hw; omega) | (simp [wSub, wRun, wNar, wFil, wCan, wLst, wCar, wDr, wFl, wMq, wRd, wRx, wCr, wTab, wTr, wNew, wKi, wKn, wTn, wOb, wPt, wTl, wOq] at hw; simp [wSub, wRun, wNar, wFil, wCan, wLst, wCar, wDr, wFl, wMq, wRd, wRx, wCr, wTab, wTr, wNew, wKi, wKn, wTn, wOb, wPt, wTl, wOq]; omega))
      have k92_2 := fM.ld (o := 92) (j := 2) (by intro hw; first | omega | (dsimp only [wSub, wRun, wNar, wFil, wCan, wLst, wCar, wDr, wFl, wMq, wRd, wRx, wCr, wTab, wTr, wNew, wKi, wKn, wTn, wOb, wPt, wTl, wOq] at hw; omega) | (simp [wSub, wRun, wNar, wFil, wCan, wLst, wCar, wDr, wFl, wMq, wRd, wRx, wCr, wTab, wTr, wNew, wKi, wKn, wTn, wOb, wPt, wTl, wOq] at hw; done) | (simp [wSub, wRun, wNar, wFil, wCan, wLst, wCar, wDr, wFl, wMq, wRd, wRx, wCr, wTab, wTr, wNew, wKi, wKn, wTn, wOb, wPt, wTl, wOq] at hw; omega))
      have o6 := p8a
      have e6 : ∀ j, ld M8 93 j = mt (ld M 93) x1 x2 j := fun j => by rw [fM8.ld (by omega)]; exact e5 j
      refine uX12_turn_75 ?_
      refine XC.deep (c12_frees  (d := 0) (by first | omega | assumption | with_reducible exact rng_ld _ _ _ | with_reducible exact rng_yand _ _ | with_reducible exact rng_yor _ _ | with_reducible exact rng_zcmp _ _ | with_reducible exact yand7 _ | with_reducible exact rng_toInt _ | with_reducible exact yarr23 (by omega) | with_reducible exact yarr57 (by omega) | with_reducible exact Or.inl rfl | with_reducible exact Or.inr rfl) (fun M9 fM9 p9a => ?_)) (by omega)
      replace fM := fM.tr fM9 (by intro o j hw; first | omega | exact hw | (dsimp only [wSub, wRun, wNar, wFil, wCan, wLst, wCar, wDr, wFl, wMq, wRd, wRx, wCr, wTab, wTr, wNew, wKi, wKn, wTn, wOb, wPt, wTl, wOq] at hw; dsimp only [wSub, wRun, wNar, wFil, wCan, wLst, wCar, wDr, wFl, wMq, wRd, wRx, wCr, wTab, wTr, wNew, wKi, wKn, wTn, wOb, wPt, wTl, wOq]; omega) | (dsimp only [wSub, wRun, wNar, wFil, wCan, wLst, wCar, wDr, wFl, wMq, wRd, wRx, wCr, wTab, wTr, wNew, wKi, wKn, wTn, wOb, wPt, wTl, wOq]; omega) | (dsimp only [wSub, wRun, wNar, wFil, wCan, wLst, wCar, wDr, wFl, wMq, wRd, wRx, wCr, wTab, wTr, wNew, wKi, wKn, wTn, wOb, wPt, wTl, wOq] at hw; omega) | (simp [wSub, wRun, wNar, wFil, wCan, wLst, wCar, wDr, wFl, wMq, wRd, wRx, wCr, wTab, wTr, wNew, wKi, wKn, wTn, wOb, wPt, wTl, wOq] at hw; simp [wSub, wRun, wNar, wFil, wCan, wLst, wCar, wDr, wFl, wMq, wRd, wRx, wCr, wTab, wTr, wNew, wKi, wKn, wTn, wOb, wPt, wTl, wOq]; omega))
      have k92_2 := fM.ld (o := 92) (j := 2) (by intro hw; first | omega | (dsimp only [wSub, wRun, wNar, wFil, wCan, wLst, wCar, wDr, wFl, wMq, wRd, wRx, wCr, wTab, wTr, wNew, wKi, wKn, wTn, wOb, wPt, wTl, wOq] at hw; omega) | (simp [wSub, wRun, wNar, wFil, wCan, wLst, wCar, wDr, wFl, wMq, wRd, wRx, wCr, wTab, wTr, wNew, wKi, wKn, wTn, wOb, wPt, wTl, wOq] at hw; done) | (simp [wSub, wRun, wNar, wFil, wCan, wLst, wCar, wDr, wFl, wMq, wRd, wRx, wCr, wTab, wTr, wNew, wKi, wKn, wTn, wOb, wPt, wTl, wOq] at hw; omega))
      have o7 := o6.fr fM9 (by omega) (fun _ => by omega) (fun _ => by omega)
      have e7 : ∀ j, ld M9 93 j = mt (ld M 93) x1 x2 j := fun j => by rw [fM9.ld (by omega)]; exact e6 j
      have n7 := p9a
      refine uX12_turn_79 ?_
      exact k _ _ fM (Or.inr ⟨rfl, by omega, k92_2, e7, n7, o7⟩)
    · skip
      refine uX12_turn_21 ?_
      exact k _ _ fM (Or.inl ⟨rfl, by omega, z0⟩)
