/-! CLASS: POINTS, TELL -/
abbrev wPt (o : Nat) (j : Int) : Prop := (o = 19 ∧ j = 0) ∨ o = 20 ∨ o = 62 ∨ (o = 65 ∧ 6 ≤ j ∧ j ≠ 7) ∨ (o = 69 ∧ j = 9)
theorem c11_points {d : Nat} {Q : Int → yM → Prop} {M : yM} {x1 : Int}  (hk : 1 ≤ ld M 1 0 ∧ ld M 1 0 ≤ 8) (r1 : yR x1) (k : ∀ (v : Int) (M' : yM), fr (wPt) M M' → (v = -1 ∧ ¬ (1 ≤ x1 ∧ x1 ≤ 8) ∧ M' = M ∨ v = ld M 19 0 ∧ (1 ≤ x1 ∧ x1 ≤ 8) ∧ ld M' 19 0 = x1 ∧ NF M') → (M' = M ∨ FGn M') → Q v M') : XCi (d + 2) 93 [.inr (.inr 0), .inl x1] M Q := by
  refine eX11_points ?_
  have fM : fr (wPt) M M := fr.rf
  have hal := al_le hk
  refine uX11_points_0 (by first | omega | assumption | with_reducible exact rng_ld _ _ _ | with_reducible exact rng_yand _ _ | with_reducible exact rng_yor _ _ | with_reducible exact rng_zcmp _ _ | with_reducible exact yand7 _ | with_reducible exact rng_toInt _ | with_reducible exact yarr23 (by omega) | with_reducible exact yarr57 (by omega) | with_reducible exact Or.inl rfl | with_reducible exact Or.inr rfl) (fun hc => ?_) (fun hc => ?_)
  · skip
    refine uX11_points_11 ?_
    exact k _ _ fM (Or.inl ⟨rfl, by omega, rfl⟩) (Or.inl rfl)
  · skip
    refine uX11_points_5 (by first | omega | assumption | with_reducible exact rng_ld _ _ _ | with_reducible exact rng_yand _ _ | with_reducible exact rng_yor _ _ | with_reducible exact rng_zcmp _ _ | with_reducible exact yand7 _ | with_reducible exact rng_toInt _ | with_reducible exact yarr23 (by omega) | with_reducible exact yarr57 (by omega) | with_reducible exact Or.inl rfl | with_reducible exact Or.inr rfl) (fun hc => ?_) (fun hc => ?_)
    · skip
      refine uX11_points_13 ?_
      refine c9_all  (by first | omega | assumption | with_reducible exact rng_ld _ _ _ | with_reducible exact rng_yand _ _ | with_reducible exact rng_yor _ _ | with_reducible exact rng_zcmp _ _ | with_reducible exact yand7 _ | with_reducible exact rng_toInt _ | with_reducible exact yarr23 (by omega) | with_reducible exact yarr57 (by omega) | with_reducible exact Or.inl rfl | with_reducible exact Or.inr rfl) ?_
      refine uX11_points_33 ?_
      refine c5_free  (by first | omega | assumption | with_reducible exact rng_ld _ _ _ | with_reducible exact rng_yand _ _ | with_reducible exact rng_yor _ _ | with_reducible exact rng_zcmp _ _ | with_reducible exact yand7 _ | with_reducible exact rng_toInt _ | with_reducible exact yarr23 (by omega) | with_reducible exact yarr57 (by omega) | with_reducible exact Or.inl rfl | with_reducible exact Or.inr rfl) (by first | omega | assumption | with_reducible exact rng_ld _ _ _ | with_reducible exact rng_yand _ _ | with_reducible exact rng_yor _ _ | with_reducible exact rng_zcmp _ _ | with_reducible exact yand7 _ | with_reducible exact rng_toInt _ | with_reducible exact yarr23 (by omega) | with_reducible exact yarr57 (by omega) | with_reducible exact Or.inl rfl | with_reducible exact Or.inr rfl) (fun M2 fM2 p2a p2b => ?_)
      replace fM := fM.tr fM2 (by intro o j hw; first | omega | exact hw | (dsimp only [wSub, wRun, wNar, wFil, wCan, wLst, wCar, wDr, wFl, wMq, wRd, wRx, wCr, wTab, wTr, wNew, wKi, wKn, wTn, wOb, wPt] at hw; dsimp only [wSub, wRun, wNar, wFil, wCan, wLst, wCar, wDr, wFl, wMq, wRd, wRx, wCr, wTab, wTr, wNew, wKi, wKn, wTn, wOb, wPt]; omega) | (dsimp only [wSub, wRun, wNar, wFil, wCan, wLst, wCar, wDr, wFl, wMq, wRd, wRx, wCr, wTab, wTr, wNew, wKi, wKn, wTn, wOb, wPt]; omega) | (dsimp only [wSub, wRun, wNar, wFil, wCan, wLst, wCar, wDr, wFl, wMq, wRd, wRx, wCr, wTab, wTr, wNew, wKi, wKn, wTn, wOb, wPt] at hw; omega) | (simp [wSub, wRun, wNar, wFil, wCan, wLst, wCar, wDr, wFl, wMq, wRd, wRx, wCr, wTab, wTr, wNew, wKi, wKn, wTn, wOb, wPt] at hw; simp [wSub, wRun, wNar, wFil, wCan, wLst, wCar, wDr, wFl, wMq, wRd, wRx, wCr, wTab, wTr, wNew, wKi, wKn, wTn, wOb, wPt]; omega))
      have k1_0 := fM.ld (o := 1) (j := 0) (by intro hw; first | omega | (dsimp only [wSub, wRun, wNar, wFil, wCan, wLst, wCar, wDr, wFl, wMq, wRd, wRx, wCr, wTab, wTr, wNew, wKi, wKn, wTn, wOb, wPt] at hw; omega) | (simp [wSub, wRun, wNar, wFil, wCan, wLst, wCar, wDr, wFl, wMq, wRd, wRx, wCr, wTab, wTr, wNew, wKi, wKn, wTn, wOb, wPt] at hw; done) | (simp [wSub, wRun, wNar, wFil, wCan, wLst, wCar, wDr, wFl, wMq, wRd, wRx, wCr, wTab, wTr, wNew, wKi, wKn, wTn, wOb, wPt] at hw; omega))
      have e33 := p2a
      have n33 : NF M2 := fun i c a1 a2 a3 a4 => by rw [k1_0]; exact p2b i c a1 a2 a3 a4
      refine uX11_points_36 ?_
      refine XC.deep (c11_forgetNet  (d := 0)  (fun M3 fM3 p3a => ?_)) (by omega)
      replace fM := fM.tr fM3 (by intro o j hw; first | omega | exact hw | (dsimp only [wSub, wRun, wNar, wFil, wCan, wLst, wCar, wDr, wFl, wMq, wRd, wRx, wCr, wTab, wTr, wNew, wKi, wKn, wTn, wOb, wPt] at hw; dsimp only [wSub, wRun, wNar, wFil, wCan, wLst, wCar, wDr, wFl, wMq, wRd, wRx, wCr, wTab, wTr, wNew, wKi, wKn, wTn, wOb, wPt]; omega) | (dsimp only [wSub, wRun, wNar, wFil, wCan, wLst, wCar, wDr, wFl, wMq, wRd, wRx, wCr, wTab, wTr, wNew, wKi, wKn, wTn, wOb, wPt]; omega) | (dsimp only [wSub, wRun, wNar, wFil, wCan, wLst, wCar, wDr, wFl, wMq, wRd, wRx, wCr, wTab, wTr, wNew, wKi, wKn, wTn, wOb, wPt] at hw; omega) | (simp [wSub, wRun, wNar, wFil, wCan, wLst, wCar, wDr, wFl, wMq, wRd, wRx, wCr, wTab, wTr, wNew, wKi, wKn, wTn, wOb, wPt] at hw; simp [wSub, wRun, wNar, wFil, wCan, wLst, wCar, wDr, wFl, wMq, wRd, wRx, wCr, wTab, wTr, wNew, wKi, wKn, wTn, wOb, wPt]; omega))
      have k1_0 := fM.ld (o := 1) (j := 0) (by intro hw; first | omega | (dsimp only [wSub, wRun, wNar, wFil, wCan, wLst, wCar, wDr, wFl, wMq, wRd, wRx, wCr, wTab, wTr, wNew, wKi, wKn, wTn, wOb, wPt] at hw; omega) | (simp [wSub, wRun, wNar, wFil, wCan, wLst, wCar, wDr, wFl, wMq, wRd, wRx, wCr, wTab, wTr, wNew, wKi, wKn, wTn, wOb, wPt] at hw; done) | (simp [wSub, wRun, wNar, wFil, wCan, wLst, wCar, wDr, wFl, wMq, wRd, wRx, wCr, wTab, wTr, wNew, wKi, wKn, wTn, wOb, wPt] at hw; omega))
      have zF := p3a
      have e36 : ld M3 19 0 = x1 := by rw [fM3.ld (by omega)]; exact e33
      have n36 := n33.fr fM3 (by omega) (fun _ => by omega)
      refine uX11_points_40 ?_
      exact k _ _ fM (Or.inr ⟨rfl, by omega, e36, n36⟩) (Or.inr zF)
    · skip
      refine uX11_points_11 ?_
      exact k _ _ fM (Or.inl ⟨rfl, by omega, rfl⟩) (Or.inl rfl)
abbrev wTl (o : Nat) (j : Int) : Prop := o = 20 ∨ o = 62 ∨ (o = 65 ∧ 6 ≤ j ∧ j ≠ 7) ∨ (o = 69 ∧ j = 9)
theorem c11_tell {d : Nat} {Q : Int → yM → Prop} {M : yM} {x1 : Int} {x2 : Int} {x3 : Int}  (hk : 1 ≤ ld M 1 0 ∧ ld M 1 0 ≤ 8) (hn : 1 ≤ ld M 19 0 ∧ ld M 19 0 ≤ 8) (r1 : yR x1) (r2 : yR x2) (r3 : yR x3) (k : ∀ (v : Int) (M' : yM), fr (wTl) M M' → (v = -1 ∧ ¬ ((0 ≤ x1 ∧ x1 < ld M 19 0) ∧ (0 ≤ x2 ∧ x2 < ld M 19 0) ∧ x1 ≠ x2 ∧ 0 ≤ x3 ∧ x3 ≤ al (ld M 1 0)) ∧ M' = M ∨ v = ld M 20 (8 * x1 + x2) ∧ ((0 ≤ x1 ∧ x1 < ld M 19 0) ∧ (0 ≤ x2 ∧ x2 < ld M 19 0) ∧ x1 ≠ x2 ∧ 0 ≤ x3 ∧ x3 ≤ al (ld M 1 0)) ∧ (ld M 20 (8 * x1 + x2) = x3 ∧ M' = M ∨ ld M 20 (8 * x1 + x2) ≠ x3 ∧ (∀ j, ld M' 20 j = if j = 8 * x2 + x1 then ld M 4 (yand x3 255) else if j = 8 * x1 + x2 then x3 else ld M 20 j))) → (M' = M ∨ FGn M') → Q v M') : XCi (d + 2) 94 [.inr (.inr 0), .inl x1, .inl x2, .inl x3] M Q := by
  refine eX11_tell ?_
  have fM : fr (wTl) M M := fr.rf
  refine uX11_tell_0 ?_
  refine c5_has  (by first | omega | assumption | with_reducible exact rng_ld _ _ _ | with_reducible exact rng_yand _ _ | with_reducible exact rng_yor _ _ | with_reducible exact rng_zcmp _ _ | with_reducible exact yand7 _ | with_reducible exact rng_toInt _ | with_reducible exact yarr23 (by omega) | with_reducible exact yarr57 (by omega) | with_reducible exact Or.inl rfl | with_reducible exact Or.inr rfl) (fun v1 p1a => ?_)
  refine uX11_tell_8 (by first | omega | assumption | with_reducible exact rng_ld _ _ _ | with_reducible exact rng_yand _ _ | with_reducible exact rng_yor _ _ | with_reducible exact rng_zcmp _ _ | with_reducible exact yand7 _ | with_reducible exact rng_toInt _ | with_reducible exact yarr23 (by omega) | with_reducible exact yarr57 (by omega) | with_reducible exact Or.inl rfl | with_reducible exact Or.inr rfl) (fun hc => ?_) (fun hc => ?_)
  · skip
    refine uX11_tell_38 ?_
    exact k _ _ fM (Or.inl ⟨rfl, by omega, rfl⟩) (Or.inl rfl)
  · skip
    refine uX11_tell_11 ?_
    refine c5_has  (by first | omega | assumption | with_reducible exact rng_ld _ _ _ | with_reducible exact rng_yand _ _ | with_reducible exact rng_yor _ _ | with_reducible exact rng_zcmp _ _ | with_reducible exact yand7 _ | with_reducible exact rng_toInt _ | with_reducible exact yarr23 (by omega) | with_reducible exact yarr57 (by omega) | with_reducible exact Or.inl rfl | with_reducible exact Or.inr rfl) (fun v2 p2a => ?_)
    refine uX11_tell_19 (by first | omega | assumption | with_reducible exact rng_ld _ _ _ | with_reducible exact rng_yand _ _ | with_reducible exact rng_yor _ _ | with_reducible exact rng_zcmp _ _ | with_reducible exact yand7 _ | with_reducible exact rng_toInt _ | with_reducible exact yarr23 (by omega) | with_reducible exact yarr57 (by omega) | with_reducible exact Or.inl rfl | with_reducible exact Or.inr rfl) (fun hc => ?_) (fun hc => ?_)
    · skip
      refine uX11_tell_38 ?_
      exact k _ _ fM (Or.inl ⟨rfl, by omega, rfl⟩) (Or.inl rfl)
    · skip
      refine uX11_tell_22 (by first | omega | assumption | with_reducible exact rng_ld _ _ _ | with_reducible exact rng_yand _ _ | with_reducible exact rng_yor _ _ | with_reducible exact rng_zcmp _ _ | with_reducible exact yand7 _ | with_reducible exact rng_toInt _ | with_reducible exact yarr23 (by omega) | with_reducible exact yarr57 (by omega) | with_reducible exact Or.inl rfl | with_reducible exact Or.inr rfl) (by first | omega | assumption | with_reducible exact rng_ld _ _ _ | with_reducible exact rng_yand _ _ | with_reducible exact rng_yor _ _ | with_reducible exact rng_zcmp _ _ | with_reducible exact yand7 _ | with_reducible exact rng_toInt _ | with_reducible exact yarr23 (by omega) | with_reducible exact yarr57 (by omega) | with_reducible exact Or.inl rfl | with_reducible exact Or.inr rfl) (fun hc => ?_) (fun hc => ?_)
      · skip
        refine uX11_tell_38 ?_
        exact k _ _ fM (Or.inl ⟨rfl, by omega, rfl⟩) (Or.inl rfl)
      · skip
        refine uX11_tell_27 ?_
        refine XC.deep (c9_hasSet  (d := 0) (by first | omega | assumption | with_reducible exact rng_ld _ _ _ | with_reducible exact rng_yand _ _ | with_reducible exact rng_yor _ _ | with_reducible exact rng_zcmp _ _ | with_reducible exact yand7 _ | with_reducible exact rng_toInt _ | with_reducible exact yarr23 (by omega) | with_reducible exact yarr57 (by omega) | with_reducible exact Or.inl rfl | with_reducible exact Or.inr rfl) (by first | omega | assumption | with_reducible exact rng_ld _ _ _ | with_reducible exact rng_yand _ _ | with_reducible exact rng_yor _ _ | with_reducible exact rng_zcmp _ _ | with_reducible exact yand7 _ | with_reducible exact rng_toInt _ | with_reducible exact yarr23 (by omega) | with_reducible exact yarr57 (by omega) | with_reducible exact Or.inl rfl | with_reducible exact Or.inr rfl) (fun v3 p3a => ?_)) (by omega)
        refine uX11_tell_35 (by first | omega | assumption | with_reducible exact rng_ld _ _ _ | with_reducible exact rng_yand _ _ | with_reducible exact rng_yor _ _ | with_reducible exact rng_zcmp _ _ | with_reducible exact yand7 _ | with_reducible exact rng_toInt _ | with_reducible exact yarr23 (by omega) | with_reducible exact yarr57 (by omega) | with_reducible exact Or.inl rfl | with_reducible exact Or.inr rfl) (fun hc => ?_) (fun hc => ?_)
        · skip
          refine uX11_tell_40 (by first | omega | assumption | with_reducible exact rng_ld _ _ _ | with_reducible exact rng_yand _ _ | with_reducible exact rng_yor _ _ | with_reducible exact rng_zcmp _ _ | with_reducible exact yand7 _ | with_reducible exact rng_toInt _ | with_reducible exact yarr23 (by omega) | with_reducible exact yarr57 (by omega) | with_reducible exact Or.inl rfl | with_reducible exact Or.inr rfl) (by first | omega | assumption | with_reducible exact rng_ld _ _ _ | with_reducible exact rng_yand _ _ | with_reducible exact rng_yor _ _ | with_reducible exact rng_zcmp _ _ | with_reducible exact yand7 _ | with_reducible exact rng_toInt _ | with_reducible exact yarr23 (by omega) | with_reducible exact yarr57 (by omega) | with_reducible exact Or.inl rfl | with_reducible exact Or.inr rfl) (fun hc => ?_) (fun hc => ?_)
          · skip
            refine uX11_tell_103 ?_
            exact k _ _ fM (by first | exact Or.inr ⟨rfl, by omega, Or.inr ⟨q0, e3⟩⟩ | exact Or.inr ⟨rfl, by omega, Or.inl ⟨by omega, rfl⟩⟩) (by first | exact Or.inr zF | exact Or.inl rfl)
          · skip
            have q0 : ld M 20 (8 * x1 + x2) ≠ x3 := hc
            refine uX11_tell_62 (by first | omega | assumption | with_reducible exact rng_ld _ _ _ | with_reducible exact rng_yand _ _ | with_reducible exact rng_yor _ _ | with_reducible exact rng_zcmp _ _ | with_reducible exact yand7 _ | with_reducible exact rng_toInt _ | with_reducible exact yarr23 (by omega) | with_reducible exact yarr57 (by omega) | with_reducible exact Or.inl rfl | with_reducible exact Or.inr rfl) ?_
            intro M4 hM4
            replace fM := fr.put fM hM4 (by first | omega | (dsimp only [wSub, wRun, wNar, wFil, wCan, wLst, wCar, wDr, wFl, wMq, wRd, wRx, wCr, wTab, wTr, wNew, wKi, wKn, wTn, wOb, wPt, wTl]; done) | (dsimp only [wSub, wRun, wNar, wFil, wCan, wLst, wCar, wDr, wFl, wMq, wRd, wRx, wCr, wTab, wTr, wNew, wKi, wKn, wTn, wOb, wPt, wTl]; omega) | (simp [wSub, wRun, wNar, wFil, wCan, wLst, wCar, wDr, wFl, wMq, wRd, wRx, wCr, wTab, wTr, wNew, wKi, wKn, wTn, wOb, wPt, wTl]; done) | (simp [wSub, wRun, wNar, wFil, wCan, wLst, wCar, wDr, wFl, wMq, wRd, wRx, wCr, wTab, wTr, wNew, wKi, wKn, wTn, wOb, wPt, wTl]; omega))
            have e1 : ∀ j, ld M4 20 j = if j = 8 * x1 + x2 then x3 else ld M 20 j := fun j => by
              rw [hM4, ld_put (by omega)]
              simp only [true_and]
            have e4 : ∀ j, ld M4 4 j = ld M 4 j := fun j => fM.ld (by dsimp only [wTl]; omega)
            refine uX11_tell_77 ?_
            refine c9_turnSet   ?_
            refine uX11_tell_98 (by first | omega | assumption | with_reducible exact rng_ld _ _ _ | with_reducible exact rng_yand _ _ | with_reducible exact rng_yor _ _ | with_reducible exact rng_zcmp _ _ | with_reducible exact yand7 _ | with_reducible exact rng_toInt _ | with_reducible exact yarr23 (by omega) | with_reducible exact yarr57 (by omega) | with_reducible exact Or.inl rfl | with_reducible exact Or.inr rfl) ?_
            intro M6 hM6
            replace fM := fr.put fM hM6 (by first | omega | (dsimp only [wSub, wRun, wNar, wFil, wCan, wLst, wCar, wDr, wFl, wMq, wRd, wRx, wCr, wTab, wTr, wNew, wKi, wKn, wTn, wOb, wPt, wTl]; done) | (dsimp only [wSub, wRun, wNar, wFil, wCan, wLst, wCar, wDr, wFl, wMq, wRd, wRx, wCr, wTab, wTr, wNew, wKi, wKn, wTn, wOb, wPt, wTl]; omega) | (simp [wSub, wRun, wNar, wFil, wCan, wLst, wCar, wDr, wFl, wMq, wRd, wRx, wCr, wTab, wTr, wNew, wKi, wKn, wTn, wOb, wPt, wTl]; done) | (simp [wSub, wRun, wNar, wFil, wCan, wLst, wCar, wDr, wFl, wMq, wRd, wRx, wCr, wTab, wTr, wNew, wKi, wKn, wTn, wOb, wPt, wTl]; omega))
            have e2 : (∀ j, ld M6 20 j = if j = 8 * x2 + x1 then ld M 4 (yand x3 255) else if j = 8 * x1 + x2 then x3 else ld M 20 j) := fun j => by
              rw [hM6, ld_put (rng_ld _ _ _), e1, e4]
              simp only [true_and]
            refine uX11_tell_99 ?_
            refine XC.deep (c11_forgetNet  (d := 0)  (fun M7 fM7 p7a => ?_)) (by omega)
            replace fM := fM.tr fM7 (by intro o j hw; first | omega | exact hw | (dsimp only [wSub, wRun, wNar, wFil, wCan, wLst, wCar, wDr, wFl, wMq, wRd, wRx, wCr, wTab, wTr, wNew, wKi, wKn, wTn, wOb, wPt, wTl] at hw; dsimp only [wSub, wRun, wNar, wFil, wCan, wLst, wCar, wDr, wFl, wMq, wRd, wRx, wCr, wTab, wTr, wNew, wKi, wKn, wTn, wOb, wPt, wTl]; omega) | (dsimp only [wSub, wRun, wNar, wFil, wCan, wLst, wCar, wDr, wFl, wMq, wRd, wRx, wCr, wTab, wTr, wNew, wKi, wKn, wTn, wOb, wPt, wTl]; omega) | (dsimp only [wSub, wRun, wNar, wFil, wCan, wLst, wCar, wDr, wFl, wMq, wRd, wRx, wCr, wTab, wTr, wNew, wKi, wKn, wTn, wOb, wPt, wTl] at hw; omega) | (simp [wSub, wRun, wNar, wFil, wCan, wLst, wCar, wDr, wFl, wMq, wRd, wRx, wCr, wTab, wTr, wNew, wKi, wKn, wTn, wOb, wPt, wTl] at hw; simp [wSub, wRun, wNar, wFil, wCan, wLst, wCar, wDr, wFl, wMq, wRd, wRx, wCr, wTab, wTr, wNew, wKi, wKn, wTn, wOb, wPt, wTl]; omega))
            have zF := p7a
            have e3 : (∀ j, ld M7 20 j = if j = 8 * x2 + x1 then ld M 4 (yand x3 255) else if j = 8 * x1 + x2 then x3 else ld M 20 j) := fun j => by rw [fM7.ld (by omega)]; exact e2 j
            refine uX11_tell_103 ?_
            exact k _ _ fM (by first | exact Or.inr ⟨rfl, by omega, Or.inr ⟨q0, e3⟩⟩ | exact Or.inr ⟨rfl, by omega, Or.inl ⟨by omega, rfl⟩⟩) (by first | exact Or.inr zF | exact Or.inl rfl)
        · skip
          refine uX11_tell_38 ?_
          exact k _ _ fM (Or.inl ⟨rfl, by omega, rfl⟩) (Or.inl rfl)
