theorem c1_standsAfter {d : Nat} {Q : Int → yM → Prop} {M : yM} {x1 : Int}  (hD : DJ M 0) (p1 : -2147483648 ≤ x1 ∧ x1 < 2147483648) (k : ∀ (v : Int) (M' : yM), fr (wDr) M M' → (v = 0 ∨ v = 1) → (v = 1 → DJ M' 0) → Q v M') : XCi (d + 2) 9 [.inr (.inr 77), .inl x1] M Q := by
  refine eX1_standsAfter ?_
  have fM : fr (wDr) M M := fr.rf
  refine uX1_standsAfter_0 (by first | omega | assumption | with_reducible exact rng_ld _ _ _ | with_reducible exact rng_yand _ _ | with_reducible exact rng_yor _ _ | with_reducible exact rng_zcmp _ _ | with_reducible exact yand7 _ | with_reducible exact rng_toInt _ | with_reducible exact yarr23 (by omega) | with_reducible exact yarr57 (by omega) | with_reducible exact Or.inl rfl | with_reducible exact Or.inr rfl) (fun hc => ?_) (fun hc => ?_)
  · skip
    refine uX1_standsAfter_40 (by first | omega | assumption | with_reducible exact rng_ld _ _ _ | with_reducible exact rng_yand _ _ | with_reducible exact rng_yor _ _ | with_reducible exact rng_zcmp _ _ | with_reducible exact yand7 _ | with_reducible exact rng_toInt _ | with_reducible exact yarr23 (by omega) | with_reducible exact yarr57 (by omega) | with_reducible exact Or.inl rfl | with_reducible exact Or.inr rfl) (fun hc => ?_) (fun hc => ?_)
    · skip
      refine uX1_standsAfter_60 ?_
      refine c1_strength  (by first | omega | assumption | with_reducible exact rng_ld _ _ _ | with_reducible exact rng_yand _ _ | with_reducible exact rng_yor _ _ | with_reducible exact rng_zcmp _ _ | with_reducible exact yand7 _ | with_reducible exact rng_toInt _ | with_reducible exact yarr23 (by omega) | with_reducible exact yarr57 (by omega) | with_reducible exact Or.inl rfl | with_reducible exact Or.inr rfl) (fun v1 p1a => ?_)
      refine uX1_standsAfter_65 ?_
      refine XC.deep (c1_writeWaiting  (d := 0) hD (by first | omega | assumption | with_reducible exact rng_ld _ _ _ | with_reducible exact rng_yand _ _ | with_reducible exact rng_yor _ _ | with_reducible exact rng_zcmp _ _ | with_reducible exact yand7 _ | with_reducible exact rng_toInt _ | with_reducible exact yarr23 (by omega) | with_reducible exact yarr57 (by omega) | with_reducible exact Or.inl rfl | with_reducible exact Or.inr rfl) (fun M2 fM2 p2a p2b p2c => ?_)) (by omega)
      replace fM := fM.tr fM2 (by intro o j hw; first | omega | exact hw | (dsimp only [wSub, wRun, wNar, wFil, wCan, wLst, wCar, wDr] at hw; dsimp only [wSub, wRun, wNar, wFil, wCan, wLst, wCar, wDr]; omega) | (dsimp only [wSub, wRun, wNar, wFil, wCan, wLst, wCar, wDr]; omega) | (dsimp only [wSub, wRun, wNar, wFil, wCan, wLst, wCar, wDr] at hw; omega) | (simp [wSub, wRun, wNar, wFil, wCan, wLst, wCar, wDr] at hw; simp [wSub, wRun, wNar, wFil, wCan, wLst, wCar, wDr]; omega))
      have w1 := p2a
      refine uX1_standsAfter_68 ?_
      intro M3 hM3
      replace fM := fr.put fM hM3 (by first | omega | (dsimp only [wSub, wRun, wNar, wFil, wCan, wLst, wCar, wDr]; done) | (dsimp only [wSub, wRun, wNar, wFil, wCan, wLst, wCar, wDr]; omega) | (simp [wSub, wRun, wNar, wFil, wCan, wLst, wCar, wDr]; done) | (simp [wSub, wRun, wNar, wFil, wCan, wLst, wCar, wDr]; omega))
      have D3 := DJ_put w1 hM3 (by omega)
      refine uX1_standsAfter_73 ?_
      refine c1_waits  D3.1 (fun v4 M4 fM4 p4a => ?_)
      replace fM := fM.tr fM4 (by intro o j hw; first | omega | exact hw | (dsimp only [wSub, wRun, wNar, wFil, wCan, wLst, wCar, wDr] at hw; dsimp only [wSub, wRun, wNar, wFil, wCan, wLst, wCar, wDr]; omega) | (dsimp only [wSub, wRun, wNar, wFil, wCan, wLst, wCar, wDr]; omega) | (dsimp only [wSub, wRun, wNar, wFil, wCan, wLst, wCar, wDr] at hw; omega) | (simp [wSub, wRun, wNar, wFil, wCan, wLst, wCar, wDr] at hw; simp [wSub, wRun, wNar, wFil, wCan, wLst, wCar, wDr]; omega))
      have hv : v4 = 0 ∨ v4 = 1 := p4a.imp id And.left
      have D4 : v4 = 1 → DJ M4 0 := fun e => by have q := DJ_wait p1 D3 (p4a.resolve_left (by omega)).2; rw [if_neg (by omega)] at q; simpa using q
      refine uX1_standsAfter_78 (by first | omega | assumption | with_reducible exact rng_ld _ _ _ | with_reducible exact rng_yand _ _ | with_reducible exact rng_yor _ _ | with_reducible exact rng_zcmp _ _ | with_reducible exact yand7 _ | with_reducible exact rng_toInt _ | with_reducible exact yarr23 (by omega) | with_reducible exact yarr57 (by omega) | with_reducible exact Or.inl rfl | with_reducible exact Or.inr rfl) ?_
      exact k _ _ fM (by first | omega | assumption | with_reducible exact rng_ld _ _ _ | with_reducible exact rng_yand _ _ | with_reducible exact rng_yor _ _ | with_reducible exact rng_zcmp _ _ | with_reducible exact yand7 _ | with_reducible exact rng_toInt _ | with_reducible exact yarr23 (by omega) | with_reducible exact yarr57 (by omega) | with_reducible exact Or.inl rfl | with_reducible exact Or.inr rfl) D4
    · skip
      refine uX1_standsAfter_46 (by first | omega | assumption | with_reducible exact rng_ld _ _ _ | with_reducible exact rng_yand _ _ | with_reducible exact rng_yor _ _ | with_reducible exact rng_zcmp _ _ | with_reducible exact yand7 _ | with_reducible exact rng_toInt _ | with_reducible exact yarr23 (by omega) | with_reducible exact yarr57 (by omega) | with_reducible exact Or.inl rfl | with_reducible exact Or.inr rfl) (fun hc => ?_) (fun hc => ?_)
      · skip
        refine uX1_standsAfter_60 ?_
        refine c1_strength  (by first | omega | assumption | with_reducible exact rng_ld _ _ _ | with_reducible exact rng_yand _ _ | with_reducible exact rng_yor _ _ | with_reducible exact rng_zcmp _ _ | with_reducible exact yand7 _ | with_reducible exact rng_toInt _ | with_reducible exact yarr23 (by omega) | with_reducible exact yarr57 (by omega) | with_reducible exact Or.inl rfl | with_reducible exact Or.inr rfl) (fun v5 p5a => ?_)
        refine uX1_standsAfter_65 ?_
        refine XC.deep (c1_writeWaiting  (d := 0) hD (by first | omega | assumption | with_reducible exact rng_ld _ _ _ | with_reducible exact rng_yand _ _ | with_reducible exact rng_yor _ _ | with_reducible exact rng_zcmp _ _ | with_reducible exact yand7 _ | with_reducible exact rng_toInt _ | with_reducible exact yarr23 (by omega) | with_reducible exact yarr57 (by omega) | with_reducible exact Or.inl rfl | with_reducible exact Or.inr rfl) (fun M6 fM6 p6a p6b p6c => ?_)) (by omega)
        replace fM := fM.tr fM6 (by intro o j hw; first | omega | exact hw | (dsimp only [wSub, wRun, wNar, wFil, wCan, wLst, wCar, wDr] at hw; dsimp only [wSub, wRun, wNar, wFil, wCan, wLst, wCar, wDr]; omega) | (dsimp only [wSub, wRun, wNar, wFil, wCan, wLst, wCar, wDr]; omega) | (dsimp only [wSub, wRun, wNar, wFil, wCan, wLst, wCar, wDr] at hw; omega) | (simp [wSub, wRun, wNar, wFil, wCan, wLst, wCar, wDr] at hw; simp [wSub, wRun, wNar, wFil, wCan, wLst, wCar, wDr]; omega))
        have w1 := p6a
        refine uX1_standsAfter_68 ?_
        intro M7 hM7
        replace fM := fr.put fM hM7 (by first | omega | (dsimp only [wSub, wRun, wNar, wFil, wCan, wLst, wCar, wDr]; done) | (dsimp only [wSub, wRun, wNar, wFil, wCan, wLst, wCar, wDr]; omega) | (simp [wSub, wRun, wNar, wFil, wCan, wLst, wCar, wDr]; done) | (simp [wSub, wRun, wNar, wFil, wCan, wLst, wCar, wDr]; omega))
        have D3 := DJ_put w1 hM7 (by omega)
        refine uX1_standsAfter_73 ?_
        refine c1_waits  D3.1 (fun v8 M8 fM8 p8a => ?_)
        replace fM := fM.tr fM8 (by intro o j hw; first | omega | exact hw | (dsimp only [wSub, wRun, wNar, wFil, wCan, wLst, wCar, wDr] at hw; dsimp only [wSub, wRun, wNar, wFil, wCan, wLst, wCar, wDr]; omega) | (dsimp only [wSub, wRun, wNar, wFil, wCan, wLst, wCar, wDr]; omega) | (dsimp only [wSub, wRun, wNar, wFil, wCan, wLst, wCar, wDr] at hw; omega) | (simp [wSub, wRun, wNar, wFil, wCan, wLst, wCar, wDr] at hw; simp [wSub, wRun, wNar, wFil, wCan, wLst, wCar, wDr]; omega))
        have hv : v8 = 0 ∨ v8 = 1 := p8a.imp id And.left
        have D4 : v8 = 1 → DJ M8 0 := fun e => by have q := DJ_wait p1 D3 (p8a.resolve_left (by omega)).2; rw [if_neg (by omega)] at q; simpa using q
        refine uX1_standsAfter_78 (by first | omega | assumption | with_reducible exact rng_ld _ _ _ | with_reducible exact rng_yand _ _ | with_reducible exact rng_yor _ _ | with_reducible exact rng_zcmp _ _ | with_reducible exact yand7 _ | with_reducible exact rng_toInt _ | with_reducible exact yarr23 (by omega) | with_reducible exact yarr57 (by omega) | with_reducible exact Or.inl rfl | with_reducible exact Or.inr rfl) ?_
        exact k _ _ fM (by first | omega | assumption | with_reducible exact rng_ld _ _ _ | with_reducible exact rng_yand _ _ | with_reducible exact rng_yor _ _ | with_reducible exact rng_zcmp _ _ | with_reducible exact yand7 _ | with_reducible exact rng_toInt _ | with_reducible exact yarr23 (by omega) | with_reducible exact yarr57 (by omega) | with_reducible exact Or.inl rfl | with_reducible exact Or.inr rfl) D4
      · skip
        refine uX1_standsAfter_52 (by first | omega | assumption | with_reducible exact rng_ld _ _ _ | with_reducible exact rng_yand _ _ | with_reducible exact rng_yor _ _ | with_reducible exact rng_zcmp _ _ | with_reducible exact yand7 _ | with_reducible exact rng_toInt _ | with_reducible exact yarr23 (by omega) | with_reducible exact yarr57 (by omega) | with_reducible exact Or.inl rfl | with_reducible exact Or.inr rfl) (fun hc => ?_) (fun hc => ?_)
        · skip
          refine uX1_standsAfter_60 ?_
          refine c1_strength  (by first | omega | assumption | with_reducible exact rng_ld _ _ _ | with_reducible exact rng_yand _ _ | with_reducible exact rng_yor _ _ | with_reducible exact rng_zcmp _ _ | with_reducible exact yand7 _ | with_reducible exact rng_toInt _ | with_reducible exact yarr23 (by omega) | with_reducible exact yarr57 (by omega) | with_reducible exact Or.inl rfl | with_reducible exact Or.inr rfl) (fun v9 p9a => ?_)
          refine uX1_standsAfter_65 ?_
          refine XC.deep (c1_writeWaiting  (d := 0) hD (by first | omega | assumption | with_reducible exact rng_ld _ _ _ | with_reducible exact rng_yand _ _ | with_reducible exact rng_yor _ _ | with_reducible exact rng_zcmp _ _ | with_reducible exact yand7 _ | with_reducible exact rng_toInt _ | with_reducible exact yarr23 (by omega) | with_reducible exact yarr57 (by omega) | with_reducible exact Or.inl rfl | with_reducible exact Or.inr rfl) (fun M10 fM10 p10a p10b p10c => ?_)) (by omega)
          replace fM := fM.tr fM10 (by intro o j hw; first | omega | exact hw | (dsimp only [wSub, wRun, wNar, wFil, wCan, wLst, wCar, wDr] at hw; dsimp only [wSub, wRun, wNar, wFil, wCan, wLst, wCar, wDr]; omega) | (dsimp only [wSub, wRun, wNar, wFil, wCan, wLst, wCar, wDr]; omega) | (dsimp only [wSub, wRun, wNar, wFil, wCan, wLst, wCar, wDr] at hw; omega) | (simp [wSub, wRun, wNar, wFil, wCan, wLst, wCar, wDr] at hw; simp [wSub, wRun, wNar, wFil, wCan, wLst, wCar, wDr]; omega))
          have w1 := p10a
          refine uX1_standsAfter_68 ?_
          intro M11 hM11
          replace fM := fr.put fM hM11 (by first | omega | (dsimp only [wSub, wRun, wNar, wFil, wCan, wLst, wCar, wDr]; done) | (dsimp only [wSub, wRun, wNar, wFil, wCan, wLst, wCar, wDr]; omega) | (simp [wSub, wRun, wNar, wFil, wCan, wLst, wCar, wDr]; done) | (simp [wSub, wRun, wNar, wFil, wCan, wLst, wCar, wDr]; omega))
          have D3 := DJ_put w1 hM11 (by omega)
          refine uX1_standsAfter_73 ?_
          refine c1_waits  D3.1 (fun v12 M12 fM12 p12a => ?_)
          replace fM := fM.tr fM12 (by intro o j hw; first | omega | exact hw | (dsimp only [wSub, wRun, wNar, wFil, wCan, wLst, wCar, wDr] at hw; dsimp only [wSub, wRun, wNar, wFil, wCan, wLst, wCar, wDr]; omega) | (dsimp only [wSub, wRun, wNar, wFil, wCan, wLst, wCar, wDr]; omega) | (dsimp only [wSub, wRun, wNar, wFil, wCan, wLst, wCar, wDr] at hw; omega) | (simp [wSub, wRun, wNar, wFil, wCan, wLst, wCar, wDr] at hw; simp [wSub, wRun, wNar, wFil, wCan, wLst, wCar, wDr]; omega))
          have hv : v12 = 0 ∨ v12 = 1 := p12a.imp id And.left
          have D4 : v12 = 1 → DJ M12 0 := fun e => by have q := DJ_wait p1 D3 (p12a.resolve_left (by omega)).2; rw [if_neg (by omega)] at q; simpa using q
          refine uX1_standsAfter_78 (by first | omega | assumption | with_reducible exact rng_ld _ _ _ | with_reducible exact rng_yand _ _ | with_reducible exact rng_yor _ _ | with_reducible exact rng_zcmp _ _ | with_reducible exact yand7 _ | with_reducible exact rng_toInt _ | with_reducible exact yarr23 (by omega) | with_reducible exact yarr57 (by omega) | with_reducible exact Or.inl rfl | with_reducible exact Or.inr rfl) ?_
          exact k _ _ fM (by first | omega | assumption | with_reducible exact rng_ld _ _ _ | with_reducible exact rng_yand _ _ | with_reducible exact rng_yor _ _ | with_reducible exact rng_zcmp _ _ | with_reducible exact yand7 _ | with_reducible exact rng_toInt _ | with_reducible exact yarr23 (by omega) | with_reducible exact yarr57 (by omega) | with_reducible exact Or.inl rfl | with_reducible exact Or.inr rfl) D4
        · skip
          refine uX1_standsAfter_58 ?_
          exact k _ _ fM (by first | omega | assumption | with_reducible exact rng_ld _ _ _ | with_reducible exact rng_yand _ _ | with_reducible exact rng_yor _ _ | with_reducible exact rng_zcmp _ _ | with_reducible exact yand7 _ | with_reducible exact rng_toInt _ | with_reducible exact yarr23 (by omega) | with_reducible exact yarr57 (by omega) | with_reducible exact Or.inl rfl | with_reducible exact Or.inr rfl) (fun e => absurd e (by decide))
  · skip
    refine uX1_standsAfter_6 (fun hc => ?_) (fun hc => ?_)
    · skip
      refine uX1_standsAfter_40 (by first | omega | assumption | with_reducible exact rng_ld _ _ _ | with_reducible exact rng_yand _ _ | with_reducible exact rng_yor _ _ | with_reducible exact rng_zcmp _ _ | with_reducible exact yand7 _ | with_reducible exact rng_toInt _ | with_reducible exact yarr23 (by omega) | with_reducible exact yarr57 (by omega) | with_reducible exact Or.inl rfl | with_reducible exact Or.inr rfl) (fun hc => ?_) (fun hc => ?_)
      · skip
        refine uX1_standsAfter_60 ?_
        refine c1_strength  (by first | omega | assumption | with_reducible exact rng_ld _ _ _ | with_reducible exact rng_yand _ _ | with_reducible exact rng_yor _ _ | with_reducible exact rng_zcmp _ _ | with_reducible exact yand7 _ | with_reducible exact rng_toInt _ | with_reducible exact yarr23 (by omega) | with_reducible exact yarr57 (by omega) | with_reducible exact Or.inl rfl | with_reducible exact Or.inr rfl) (fun v13 p13a => ?_)
        refine uX1_standsAfter_65 ?_
        refine XC.deep (c1_writeWaiting  (d := 0) hD (by first | omega | assumption | with_reducible exact rng_ld _ _ _ | with_reducible exact rng_yand _ _ | with_reducible exact rng_yor _ _ | with_reducible exact rng_zcmp _ _ | with_reducible exact yand7 _ | with_reducible exact rng_toInt _ | with_reducible exact yarr23 (by omega) | with_reducible exact yarr57 (by omega) | with_reducible exact Or.inl rfl | with_reducible exact Or.inr rfl) (fun M14 fM14 p14a p14b p14c => ?_)) (by omega)
        replace fM := fM.tr fM14 (by intro o j hw; first | omega | exact hw | (dsimp only [wSub, wRun, wNar, wFil, wCan, wLst, wCar, wDr] at hw; dsimp only [wSub, wRun, wNar, wFil, wCan, wLst, wCar, wDr]; omega) | (dsimp only [wSub, wRun, wNar, wFil, wCan, wLst, wCar, wDr]; omega) | (dsimp only [wSub, wRun, wNar, wFil, wCan, wLst, wCar, wDr] at hw; omega) | (simp [wSub, wRun, wNar, wFil, wCan, wLst, wCar, wDr] at hw; simp [wSub, wRun, wNar, wFil, wCan, wLst, wCar, wDr]; omega))
        have w1 := p14a
        refine uX1_standsAfter_68 ?_
        intro M15 hM15
        replace fM := fr.put fM hM15 (by first | omega | (dsimp only [wSub, wRun, wNar, wFil, wCan, wLst, wCar, wDr]; done) | (dsimp only [wSub, wRun, wNar, wFil, wCan, wLst, wCar, wDr]; omega) | (simp [wSub, wRun, wNar, wFil, wCan, wLst, wCar, wDr]; done) | (simp [wSub, wRun, wNar, wFil, wCan, wLst, wCar, wDr]; omega))
        have D3 := DJ_put w1 hM15 (by omega)
        refine uX1_standsAfter_73 ?_
        refine c1_waits  D3.1 (fun v16 M16 fM16 p16a => ?_)
        replace fM := fM.tr fM16 (by intro o j hw; first | omega | exact hw | (dsimp only [wSub, wRun, wNar, wFil, wCan, wLst, wCar, wDr] at hw; dsimp only [wSub, wRun, wNar, wFil, wCan, wLst, wCar, wDr]; omega) | (dsimp only [wSub, wRun, wNar, wFil, wCan, wLst, wCar, wDr]; omega) | (dsimp only [wSub, wRun, wNar, wFil, wCan, wLst, wCar, wDr] at hw; omega) | (simp [wSub, wRun, wNar, wFil, wCan, wLst, wCar, wDr] at hw; simp [wSub, wRun, wNar, wFil, wCan, wLst, wCar, wDr]; omega))
        have hv : v16 = 0 ∨ v16 = 1 := p16a.imp id And.left
        have D4 : v16 = 1 → DJ M16 0 := fun e => by have q := DJ_wait p1 D3 (p16a.resolve_left (by omega)).2; rw [if_neg (by omega)] at q; simpa using q
        refine uX1_standsAfter_78 (by first | omega | assumption | with_reducible exact rng_ld _ _ _ | with_reducible exact rng_yand _ _ | with_reducible exact rng_yor _ _ | with_reducible exact rng_zcmp _ _ | with_reducible exact yand7 _ | with_reducible exact rng_toInt _ | with_reducible exact yarr23 (by omega) | with_reducible exact yarr57 (by omega) | with_reducible exact Or.inl rfl | with_reducible exact Or.inr rfl) ?_
        exact k _ _ fM (by first | omega | assumption | with_reducible exact rng_ld _ _ _ | with_reducible exact rng_yand _ _ | with_reducible exact rng_yor _ _ | with_reducible exact rng_zcmp _ _ | with_reducible exact yand7 _ | with_reducible exact rng_toInt _ | with_reducible exact yarr23 (by omega) | with_reducible exact yarr57 (by omega) | with_reducible exact Or.inl rfl | with_reducible exact Or.inr rfl) D4
      · skip
        refine uX1_standsAfter_46 (by first | omega | assumption | with_reducible exact rng_ld _ _ _ | with_reducible exact rng_yand _ _ | with_reducible exact rng_yor _ _ | with_reducible exact rng_zcmp _ _ | with_reducible exact yand7 _ | with_reducible exact rng_toInt _ | with_reducible exact yarr23 (by omega) | with_reducible exact yarr57 (by omega) | with_reducible exact Or.inl rfl | with_reducible exact Or.inr rfl) (fun hc => ?_) (fun hc => ?_)
        · skip
          refine uX1_standsAfter_60 ?_
          refine c1_strength  (by first | omega | assumption | with_reducible exact rng_ld _ _ _ | with_reducible exact rng_yand _ _ | with_reducible exact rng_yor _ _ | with_reducible exact rng_zcmp _ _ | with_reducible exact yand7 _ | with_reducible exact rng_toInt _ | with_reducible exact yarr23 (by omega) | with_reducible exact yarr57 (by omega) | with_reducible exact Or.inl rfl | with_reducible exact Or.inr rfl) (fun v17 p17a => ?_)
          refine uX1_standsAfter_65 ?_
          refine XC.deep (c1_writeWaiting  (d := 0) hD (by first | omega | assumption | with_reducible exact rng_ld _ _ _ | with_reducible exact rng_yand _ _ | with_reducible exact rng_yor _ _ | with_reducible exact rng_zcmp _ _ | with_reducible exact yand7 _ | with_reducible exact rng_toInt _ | with_reducible exact yarr23 (by omega) | with_reducible exact yarr57 (by omega) | with_reducible exact Or.inl rfl | with_reducible exact Or.inr rfl) (fun M18 fM18 p18a p18b p18c => ?_)) (by omega)
          replace fM := fM.tr fM18 (by intro o j hw; first | omega | exact hw | (dsimp only [wSub, wRun, wNar, wFil, wCan, wLst, wCar, wDr] at hw; dsimp only [wSub, wRun, wNar, wFil, wCan, wLst, wCar, wDr]; omega) | (dsimp only [wSub, wRun, wNar, wFil, wCan, wLst, wCar, wDr]; omega) | (dsimp only [wSub, wRun, wNar, wFil, wCan, wLst, wCar, wDr] at hw; omega) | (simp [wSub, wRun, wNar, wFil, wCan, wLst, wCar, wDr] at hw; simp [wSub, wRun, wNar, wFil, wCan, wLst, wCar, wDr]; omega))
          have w1 := p18a
          refine uX1_standsAfter_68 ?_
          intro M19 hM19
          replace fM := fr.put fM hM19 (by first | omega | (dsimp only [wSub, wRun, wNar, wFil, wCan, wLst, wCar, wDr]; done) | (dsimp only [wSub, wRun, wNar, wFil, wCan, wLst, wCar, wDr]; omega) | (simp [wSub, wRun, wNar, wFil, wCan, wLst, wCar, wDr]; done) | (simp [wSub, wRun, wNar, wFil, wCan, wLst, wCar, wDr]; omega))
          have D3 := DJ_put w1 hM19 (by omega)
          refine uX1_standsAfter_73 ?_
          refine c1_waits  D3.1 (fun v20 M20 fM20 p20a => ?_)
          replace fM := fM.tr fM20 (by intro o j hw; first | omega | exact hw | (dsimp only [wSub, wRun, wNar, wFil, wCan, wLst, wCar, wDr] at hw; dsimp only [wSub, wRun, wNar, wFil, wCan, wLst, wCar, wDr]; omega) | (dsimp only [wSub, wRun, wNar, wFil, wCan, wLst, wCar, wDr]; omega) | (dsimp only [wSub, wRun, wNar, wFil, wCan, wLst, wCar, wDr] at hw; omega) | (simp [wSub, wRun, wNar, wFil, wCan, wLst, wCar, wDr] at hw; simp [wSub, wRun, wNar, wFil, wCan, wLst, wCar, wDr]; omega))
          have hv : v20 = 0 ∨ v20 = 1 := p20a.imp id And.left
          have D4 : v20 = 1 → DJ M20 0 := fun e => by have q := DJ_wait p1 D3 (p20a.resolve_left (by omega)).2; rw [if_neg (by omega)] at q; simpa using q
          refine uX1_standsAfter_78 (by first | omega | assumption | with_reducible exact rng_ld _ _ _ | with_reducible exact rng_yand _ _ | with_reducible exact rng_yor _ _ | with_reducible exact rng_zcmp _ _ | with_reducible exact yand7 _ | with_reducible exact rng_toInt _ | with_reducible exact yarr23 (by omega) | with_reducible exact yarr57 (by omega) | with_reducible exact Or.inl rfl | with_reducible exact Or.inr rfl) ?_
          exact k _ _ fM (by first | omega | assumption | with_reducible exact rng_ld _ _ _ | with_reducible exact rng_yand _ _ | with_reducible exact rng_yor _ _ | with_reducible exact rng_zcmp _ _ | with_reducible exact yand7 _ | with_reducible exact rng_toInt _ | with_reducible exact yarr23 (by omega) | with_reducible exact yarr57 (by omega) | with_reducible exact Or.inl rfl | with_reducible exact Or.inr rfl) D4
        · skip
          refine uX1_standsAfter_52 (by first | omega | assumption | with_reducible exact rng_ld _ _ _ | with_reducible exact rng_yand _ _ | with_reducible exact rng_yor _ _ | with_reducible exact rng_zcmp _ _ | with_reducible exact yand7 _ | with_reducible exact rng_toInt _ | with_reducible exact yarr23 (by omega) | with_reducible exact yarr57 (by omega) | with_reducible exact Or.inl rfl | with_reducible exact Or.inr rfl) (fun hc => ?_) (fun hc => ?_)
          · skip
            refine uX1_standsAfter_60 ?_
            refine c1_strength  (by first | omega | assumption | with_reducible exact rng_ld _ _ _ | with_reducible exact rng_yand _ _ | with_reducible exact rng_yor _ _ | with_reducible exact rng_zcmp _ _ | with_reducible exact yand7 _ | with_reducible exact rng_toInt _ | with_reducible exact yarr23 (by omega) | with_reducible exact yarr57 (by omega) | with_reducible exact Or.inl rfl | with_reducible exact Or.inr rfl) (fun v21 p21a => ?_)
            refine uX1_standsAfter_65 ?_
            refine XC.deep (c1_writeWaiting  (d := 0) hD (by first | omega | assumption | with_reducible exact rng_ld _ _ _ | with_reducible exact rng_yand _ _ | with_reducible exact rng_yor _ _ | with_reducible exact rng_zcmp _ _ | with_reducible exact yand7 _ | with_reducible exact rng_toInt _ | with_reducible exact yarr23 (by omega) | with_reducible exact yarr57 (by omega) | with_reducible exact Or.inl rfl | with_reducible exact Or.inr rfl) (fun M22 fM22 p22a p22b p22c => ?_)) (by omega)
            replace fM := fM.tr fM22 (by intro o j hw; first | omega | exact hw | (dsimp only [wSub, wRun, wNar, wFil, wCan, wLst, wCar, wDr] at hw; dsimp only [wSub, wRun, wNar, wFil, wCan, wLst, wCar, wDr]; omega) | (dsimp only [wSub, wRun, wNar, wFil, wCan, wLst, wCar, wDr]; omega) | (dsimp only [wSub, wRun, wNar, wFil, wCan, wLst, wCar, wDr] at hw; omega) | (simp [wSub, wRun, wNar, wFil, wCan, wLst, wCar, wDr] at hw; simp [wSub, wRun, wNar, wFil, wCan, wLst, wCar, wDr]; omega))
            have w1 := p22a
            refine uX1_standsAfter_68 ?_
            intro M23 hM23
            replace fM := fr.put fM hM23 (by first | omega | (dsimp only [wSub, wRun, wNar, wFil, wCan, wLst, wCar, wDr]; done) | (dsimp only [wSub, wRun, wNar, wFil, wCan, wLst, wCar, wDr]; omega) | (simp [wSub, wRun, wNar, wFil, wCan, wLst, wCar, wDr]; done) | (simp [wSub, wRun, wNar, wFil, wCan, wLst, wCar, wDr]; omega))
            have D3 := DJ_put w1 hM23 (by omega)
            refine uX1_standsAfter_73 ?_
            refine c1_waits  D3.1 (fun v24 M24 fM24 p24a => ?_)
            replace fM := fM.tr fM24 (by intro o j hw; first | omega | exact hw | (dsimp only [wSub, wRun, wNar, wFil, wCan, wLst, wCar, wDr] at hw; dsimp only [wSub, wRun, wNar, wFil, wCan, wLst, wCar, wDr]; omega) | (dsimp only [wSub, wRun, wNar, wFil, wCan, wLst, wCar, wDr]; omega) | (dsimp only [wSub, wRun, wNar, wFil, wCan, wLst, wCar, wDr] at hw; omega) | (simp [wSub, wRun, wNar, wFil, wCan, wLst, wCar, wDr] at hw; simp [wSub, wRun, wNar, wFil, wCan, wLst, wCar, wDr]; omega))
            have hv : v24 = 0 ∨ v24 = 1 := p24a.imp id And.left
            have D4 : v24 = 1 → DJ M24 0 := fun e => by have q := DJ_wait p1 D3 (p24a.resolve_left (by omega)).2; rw [if_neg (by omega)] at q; simpa using q
            refine uX1_standsAfter_78 (by first | omega | assumption | with_reducible exact rng_ld _ _ _ | with_reducible exact rng_yand _ _ | with_reducible exact rng_yor _ _ | with_reducible exact rng_zcmp _ _ | with_reducible exact yand7 _ | with_reducible exact rng_toInt _ | with_reducible exact yarr23 (by omega) | with_reducible exact yarr57 (by omega) | with_reducible exact Or.inl rfl | with_reducible exact Or.inr rfl) ?_
            exact k _ _ fM (by first | omega | assumption | with_reducible exact rng_ld _ _ _ | with_reducible exact rng_yand _ _ | with_reducible exact rng_yor _ _ | with_reducible exact rng_zcmp _ _ | with_reducible exact yand7 _ | with_reducible exact rng_toInt _ | with_reducible exact yarr23 (by omega) | with_reducible exact yarr57 (by omega) | with_reducible exact Or.inl rfl | with_reducible exact Or.inr rfl) D4
          · skip
            refine uX1_standsAfter_58 ?_
            exact k _ _ fM (by first | omega | assumption | with_reducible exact rng_ld _ _ _ | with_reducible exact rng_yand _ _ | with_reducible exact rng_yor _ _ | with_reducible exact rng_zcmp _ _ | with_reducible exact yand7 _ | with_reducible exact rng_toInt _ | with_reducible exact yarr23 (by omega) | with_reducible exact yarr57 (by omega) | with_reducible exact Or.inl rfl | with_reducible exact Or.inr rfl) (fun e => absurd e (by decide))
    · skip
      refine uX1_standsAfter_13 ?_
      refine XC.deep (c1_writeWaiting  (d := 0) hD (by first | omega | assumption | with_reducible exact rng_ld _ _ _ | with_reducible exact rng_yand _ _ | with_reducible exact rng_yor _ _ | with_reducible exact rng_zcmp _ _ | with_reducible exact yand7 _ | with_reducible exact rng_toInt _ | with_reducible exact yarr23 (by omega) | with_reducible exact yarr57 (by omega) | with_reducible exact Or.inl rfl | with_reducible exact Or.inr rfl) (fun M25 fM25 p25a p25b p25c => ?_)) (by omega)
      replace fM := fM.tr fM25 (by intro o j hw; first | omega | exact hw | (dsimp only [wSub, wRun, wNar, wFil, wCan, wLst, wCar, wDr] at hw; dsimp only [wSub, wRun, wNar, wFil, wCan, wLst, wCar, wDr]; omega) | (dsimp only [wSub, wRun, wNar, wFil, wCan, wLst, wCar, wDr]; omega) | (dsimp only [wSub, wRun, wNar, wFil, wCan, wLst, wCar, wDr] at hw; omega) | (simp [wSub, wRun, wNar, wFil, wCan, wLst, wCar, wDr] at hw; simp [wSub, wRun, wNar, wFil, wCan, wLst, wCar, wDr]; omega))
      have w1 := p25a
      have w2 := p25b
      have w3 := p25c
      have htop := DJ_top w1 (by omega)
      refine uX1_standsAfter_18 ?_
      intro M26 hM26
      replace fM := fr.put fM hM26 (by first | omega | (dsimp only [wSub, wRun, wNar, wFil, wCan, wLst, wCar, wDr]; done) | (dsimp only [wSub, wRun, wNar, wFil, wCan, wLst, wCar, wDr]; omega) | (simp [wSub, wRun, wNar, wFil, wCan, wLst, wCar, wDr]; done) | (simp [wSub, wRun, wNar, wFil, wCan, wLst, wCar, wDr]; omega))
      have D1 := DJ_pop w1 htop hM26
      rw [if_pos (w3 htop rfl)] at D1
      have e8 : ld M26 77 8 = ld M25 77 8 := by rw [hM26, ld_putne (by omega)]
      refine uX1_standsAfter_28 ?_
      intro M27 hM27
      replace fM := fr.put fM hM27 (by first | omega | (dsimp only [wSub, wRun, wNar, wFil, wCan, wLst, wCar, wDr]; done) | (dsimp only [wSub, wRun, wNar, wFil, wCan, wLst, wCar, wDr]; omega) | (simp [wSub, wRun, wNar, wFil, wCan, wLst, wCar, wDr]; done) | (simp [wSub, wRun, wNar, wFil, wCan, wLst, wCar, wDr]; omega))
      have D2 := DJ_close D1 (by omega) hM27
      refine uX1_standsAfter_38 ?_
      exact k _ _ fM (by first | omega | assumption | with_reducible exact rng_ld _ _ _ | with_reducible exact rng_yand _ _ | with_reducible exact rng_yor _ _ | with_reducible exact rng_zcmp _ _ | with_reducible exact yand7 _ | with_reducible exact rng_toInt _ | with_reducible exact yarr23 (by omega) | with_reducible exact yarr57 (by omega) | with_reducible exact Or.inl rfl | with_reducible exact Or.inr rfl) (fun _ => by simpa using D2)
theorem c1_standsAsFactor {d : Nat} {Q : Int → yM → Prop} {M : yM} {x1 : Int} {x2 : Int}  (hD : DJ M 0) (p1 : -2147483648 ≤ x1 ∧ x1 < 2147483648) (p2 : 0 ≤ x2 ∧ x2 ≤ 8) (k : ∀ (v : Int) (M' : yM), fr (wDr) M M' → (v = 0 ∨ v = 1) → (v = 1 → DJ M' 0) → Q v M') : XCi (d + 1) 8 [.inr (.inr 77), .inl x1, .inl x2] M Q := by
  refine eX1_standsAsFactor ?_
  have fM : fr (wDr) M M := fr.rf
  refine uX1_standsAsFactor_0 (fun hc => ?_) (fun hc => ?_)
  · skip
    refine uX1_standsAsFactor_11 ?_
    intro M1 hM1
    replace fM := fr.put fM hM1 (by first | omega | (dsimp only [wSub, wRun, wNar, wFil, wCan, wLst, wCar, wDr]; done) | (dsimp only [wSub, wRun, wNar, wFil, wCan, wLst, wCar, wDr]; omega) | (simp [wSub, wRun, wNar, wFil, wCan, wLst, wCar, wDr]; done) | (simp [wSub, wRun, wNar, wFil, wCan, wLst, wCar, wDr]; omega))
    have D1 := DJ_put hD hM1 (by omega)
    refine uX1_standsAsFactor_21 (by first | omega | assumption | with_reducible exact rng_ld _ _ _ | with_reducible exact rng_yand _ _ | with_reducible exact rng_yor _ _ | with_reducible exact rng_zcmp _ _ | with_reducible exact yand7 _ | with_reducible exact rng_toInt _ | with_reducible exact yarr23 (by omega) | with_reducible exact yarr57 (by omega) | with_reducible exact Or.inl rfl | with_reducible exact Or.inr rfl) (fun hc => ?_) (fun hc => ?_)
    · skip
      refine uX1_standsAsFactor_33 ?_
      refine c1_waits  D1.1 (fun v2 M2 fM2 p2a => ?_)
      replace fM := fM.tr fM2 (by intro o j hw; first | omega | exact hw | (dsimp only [wSub, wRun, wNar, wFil, wCan, wLst, wCar, wDr] at hw; dsimp only [wSub, wRun, wNar, wFil, wCan, wLst, wCar, wDr]; omega) | (dsimp only [wSub, wRun, wNar, wFil, wCan, wLst, wCar, wDr]; omega) | (dsimp only [wSub, wRun, wNar, wFil, wCan, wLst, wCar, wDr] at hw; omega) | (simp [wSub, wRun, wNar, wFil, wCan, wLst, wCar, wDr] at hw; simp [wSub, wRun, wNar, wFil, wCan, wLst, wCar, wDr]; omega))
      have hv : v2 = 0 ∨ v2 = 1 := p2a.imp id And.left
      have D4 : v2 = 1 → DJ M2 0 := fun e => by have q := DJ_wait p1 D1 (p2a.resolve_left (by omega)).2; rw [if_neg (by omega)] at q; simpa using q
      refine uX1_standsAsFactor_38 (by first | omega | assumption | with_reducible exact rng_ld _ _ _ | with_reducible exact rng_yand _ _ | with_reducible exact rng_yor _ _ | with_reducible exact rng_zcmp _ _ | with_reducible exact yand7 _ | with_reducible exact rng_toInt _ | with_reducible exact yarr23 (by omega) | with_reducible exact yarr57 (by omega) | with_reducible exact Or.inl rfl | with_reducible exact Or.inr rfl) ?_
      exact k _ _ fM (by first | omega | assumption | with_reducible exact rng_ld _ _ _ | with_reducible exact rng_yand _ _ | with_reducible exact rng_yor _ _ | with_reducible exact rng_zcmp _ _ | with_reducible exact yand7 _ | with_reducible exact rng_toInt _ | with_reducible exact yarr23 (by omega) | with_reducible exact yarr57 (by omega) | with_reducible exact Or.inl rfl | with_reducible exact Or.inr rfl) D4
    · skip
      refine uX1_standsAsFactor_27 (by first | omega | assumption | with_reducible exact rng_ld _ _ _ | with_reducible exact rng_yand _ _ | with_reducible exact rng_yor _ _ | with_reducible exact rng_zcmp _ _ | with_reducible exact yand7 _ | with_reducible exact rng_toInt _ | with_reducible exact yarr23 (by omega) | with_reducible exact yarr57 (by omega) | with_reducible exact Or.inl rfl | with_reducible exact Or.inr rfl) (fun hc => ?_) (fun hc => ?_)
      · skip
        refine uX1_standsAsFactor_39 (by first | omega | assumption | with_reducible exact rng_ld _ _ _ | with_reducible exact rng_yand _ _ | with_reducible exact rng_yor _ _ | with_reducible exact rng_zcmp _ _ | with_reducible exact yand7 _ | with_reducible exact rng_toInt _ | with_reducible exact yarr23 (by omega) | with_reducible exact yarr57 (by omega) | with_reducible exact Or.inl rfl | with_reducible exact Or.inr rfl) (fun hc => ?_) (fun hc => ?_)
        · skip
          refine uX1_standsAsFactor_78 (by first | omega | assumption | with_reducible exact rng_ld _ _ _ | with_reducible exact rng_yand _ _ | with_reducible exact rng_yor _ _ | with_reducible exact rng_zcmp _ _ | with_reducible exact yand7 _ | with_reducible exact rng_toInt _ | with_reducible exact yarr23 (by omega) | with_reducible exact yarr57 (by omega) | with_reducible exact Or.inl rfl | with_reducible exact Or.inr rfl) (fun hc => ?_) (fun hc => ?_)
          · skip
            refine uX1_standsAsFactor_96 ?_
            refine uX1_standsAsFactor_97 (by first | omega | assumption | with_reducible exact rng_ld _ _ _ | with_reducible exact rng_yand _ _ | with_reducible exact rng_yor _ _ | with_reducible exact rng_zcmp _ _ | with_reducible exact yand7 _ | with_reducible exact rng_toInt _ | with_reducible exact yarr23 (by omega) | with_reducible exact yarr57 (by omega) | with_reducible exact Or.inl rfl | with_reducible exact Or.inr rfl) (fun hc => ?_) (fun hc => ?_)
            · skip
              refine uX1_standsAsFactor_114 ?_
              refine uX1_standsAsFactor_115 (by first | omega | assumption | with_reducible exact rng_ld _ _ _ | with_reducible exact rng_yand _ _ | with_reducible exact rng_yor _ _ | with_reducible exact rng_zcmp _ _ | with_reducible exact yand7 _ | with_reducible exact rng_toInt _ | with_reducible exact yarr23 (by omega) | with_reducible exact yarr57 (by omega) | with_reducible exact Or.inl rfl | with_reducible exact Or.inr rfl) (fun hc => ?_) (fun hc => ?_)
              · skip
                refine uX1_standsAsFactor_140 (by first | omega | assumption | with_reducible exact rng_ld _ _ _ | with_reducible exact rng_yand _ _ | with_reducible exact rng_yor _ _ | with_reducible exact rng_zcmp _ _ | with_reducible exact yand7 _ | with_reducible exact rng_toInt _ | with_reducible exact yarr23 (by omega) | with_reducible exact yarr57 (by omega) | with_reducible exact Or.inl rfl | with_reducible exact Or.inr rfl) (fun hc => ?_) (fun hc => ?_)
                · skip
                  refine uX1_standsAsFactor_160 ?_
                  refine c1_write  (by first | exact D7.2.1 | exact D1.2.1) (fun M3 fM3 p3a => ?_)
                  replace fM := fM.tr fM3 (by intro o j hw; first | omega | exact hw | (dsimp only [wSub, wRun, wNar, wFil, wCan, wLst, wCar, wDr] at hw; dsimp only [wSub, wRun, wNar, wFil, wCan, wLst, wCar, wDr]; omega) | (dsimp only [wSub, wRun, wNar, wFil, wCan, wLst, wCar, wDr]; omega) | (dsimp only [wSub, wRun, wNar, wFil, wCan, wLst, wCar, wDr] at hw; omega) | (simp [wSub, wRun, wNar, wFil, wCan, wLst, wCar, wDr] at hw; simp [wSub, wRun, wNar, wFil, wCan, wLst, wCar, wDr]; omega))
                  have D8 := DJ_frw (by first | exact D7 | exact D1) fM3 p3a
                  refine uX1_standsAsFactor_165 ?_
                  intro M4 hM4
                  replace fM := fr.put fM hM4 (by first | omega | (dsimp only [wSub, wRun, wNar, wFil, wCan, wLst, wCar, wDr]; done) | (dsimp only [wSub, wRun, wNar, wFil, wCan, wLst, wCar, wDr]; omega) | (simp [wSub, wRun, wNar, wFil, wCan, wLst, wCar, wDr]; done) | (simp [wSub, wRun, wNar, wFil, wCan, wLst, wCar, wDr]; omega))
                  have D9 := DJ_put D8 hM4 (by omega)
                  refine uX1_standsAsFactor_170 ?_
                  exact k _ _ fM (by first | omega | assumption | with_reducible exact rng_ld _ _ _ | with_reducible exact rng_yand _ _ | with_reducible exact rng_yor _ _ | with_reducible exact rng_zcmp _ _ | with_reducible exact yand7 _ | with_reducible exact rng_toInt _ | with_reducible exact yarr23 (by omega) | with_reducible exact yarr57 (by omega) | with_reducible exact Or.inl rfl | with_reducible exact Or.inr rfl) (fun _ => D9)
                · skip
                  refine uX1_standsAsFactor_145 ?_
                  intro M5 hM5
                  replace fM := fr.put fM hM5 (by first | omega | (dsimp only [wSub, wRun, wNar, wFil, wCan, wLst, wCar, wDr]; done) | (dsimp only [wSub, wRun, wNar, wFil, wCan, wLst, wCar, wDr]; omega) | (simp [wSub, wRun, wNar, wFil, wCan, wLst, wCar, wDr]; done) | (simp [wSub, wRun, wNar, wFil, wCan, wLst, wCar, wDr]; omega))
                  have D7 := DJ_put D1 hM5 (by omega)
                  refine uX1_standsAsFactor_160 ?_
                  refine c1_write  (by first | exact D7.2.1 | exact D1.2.1) (fun M6 fM6 p6a => ?_)
                  replace fM := fM.tr fM6 (by intro o j hw; first | omega | exact hw | (dsimp only [wSub, wRun, wNar, wFil, wCan, wLst, wCar, wDr] at hw; dsimp only [wSub, wRun, wNar, wFil, wCan, wLst, wCar, wDr]; omega) | (dsimp only [wSub, wRun, wNar, wFil, wCan, wLst, wCar, wDr]; omega) | (dsimp only [wSub, wRun, wNar, wFil, wCan, wLst, wCar, wDr] at hw; omega) | (simp [wSub, wRun, wNar, wFil, wCan, wLst, wCar, wDr] at hw; simp [wSub, wRun, wNar, wFil, wCan, wLst, wCar, wDr]; omega))
                  have D8 := DJ_frw (by first | exact D7 | exact D1) fM6 p6a
                  refine uX1_standsAsFactor_165 ?_
                  intro M7 hM7
                  replace fM := fr.put fM hM7 (by first | omega | (dsimp only [wSub, wRun, wNar, wFil, wCan, wLst, wCar, wDr]; done) | (dsimp only [wSub, wRun, wNar, wFil, wCan, wLst, wCar, wDr]; omega) | (simp [wSub, wRun, wNar, wFil, wCan, wLst, wCar, wDr]; done) | (simp [wSub, wRun, wNar, wFil, wCan, wLst, wCar, wDr]; omega))
                  have D9 := DJ_put D8 hM7 (by omega)
                  refine uX1_standsAsFactor_170 ?_
                  exact k _ _ fM (by first | omega | assumption | with_reducible exact rng_ld _ _ _ | with_reducible exact rng_yand _ _ | with_reducible exact rng_yor _ _ | with_reducible exact rng_zcmp _ _ | with_reducible exact yand7 _ | with_reducible exact rng_toInt _ | with_reducible exact yarr23 (by omega) | with_reducible exact yarr57 (by omega) | with_reducible exact Or.inl rfl | with_reducible exact Or.inr rfl) (fun _ => D9)
              · skip
                refine uX1_standsAsFactor_121 (by first | omega | assumption | with_reducible exact rng_ld _ _ _ | with_reducible exact rng_yand _ _ | with_reducible exact rng_yor _ _ | with_reducible exact rng_zcmp _ _ | with_reducible exact yand7 _ | with_reducible exact rng_toInt _ | with_reducible exact yarr23 (by omega) | with_reducible exact yarr57 (by omega) | with_reducible exact Or.inl rfl | with_reducible exact Or.inr rfl) (fun hc => ?_) (fun hc => ?_)
                · skip
                  refine uX1_standsAsFactor_140 (by first | omega | assumption | with_reducible exact rng_ld _ _ _ | with_reducible exact rng_yand _ _ | with_reducible exact rng_yor _ _ | with_reducible exact rng_zcmp _ _ | with_reducible exact yand7 _ | with_reducible exact rng_toInt _ | with_reducible exact yarr23 (by omega) | with_reducible exact yarr57 (by omega) | with_reducible exact Or.inl rfl | with_reducible exact Or.inr rfl) (fun hc => ?_) (fun hc => ?_)
                  · skip
                    refine uX1_standsAsFactor_160 ?_
                    refine c1_write  (by first | exact D7.2.1 | exact D1.2.1) (fun M8 fM8 p8a => ?_)
                    replace fM := fM.tr fM8 (by intro o j hw; first | omega | exact hw | (dsimp only [wSub, wRun, wNar, wFil, wCan, wLst, wCar, wDr] at hw; dsimp only [wSub, wRun, wNar, wFil, wCan, wLst, wCar, wDr]; omega) | (dsimp only [wSub, wRun, wNar, wFil, wCan, wLst, wCar, wDr]; omega) | (dsimp only [wSub, wRun, wNar, wFil, wCan, wLst, wCar, wDr] at hw; omega) | (simp [wSub, wRun, wNar, wFil, wCan, wLst, wCar, wDr] at hw; simp [wSub, wRun, wNar, wFil, wCan, wLst, wCar, wDr]; omega))
                    have D8 := DJ_frw (by first | exact D7 | exact D1) fM8 p8a
                    refine uX1_standsAsFactor_165 ?_
                    intro M9 hM9
                    replace fM := fr.put fM hM9 (by first | omega | (dsimp only [wSub, wRun, wNar, wFil, wCan, wLst, wCar, wDr]; done) | (dsimp only [wSub, wRun, wNar, wFil, wCan, wLst, wCar, wDr]; omega) | (simp [wSub, wRun, wNar, wFil, wCan, wLst, wCar, wDr]; done) | (simp [wSub, wRun, wNar, wFil, wCan, wLst, wCar, wDr]; omega))
                    have D9 := DJ_put D8 hM9 (by omega)
                    refine uX1_standsAsFactor_170 ?_
                    exact k _ _ fM (by first | omega | assumption | with_reducible exact rng_ld _ _ _ | with_reducible exact rng_yand _ _ | with_reducible exact rng_yor _ _ | with_reducible exact rng_zcmp _ _ | with_reducible exact yand7 _ | with_reducible exact rng_toInt _ | with_reducible exact yarr23 (by omega) | with_reducible exact yarr57 (by omega) | with_reducible exact Or.inl rfl | with_reducible exact Or.inr rfl) (fun _ => D9)
                  · skip
                    refine uX1_standsAsFactor_145 ?_
                    intro M10 hM10
                    replace fM := fr.put fM hM10 (by first | omega | (dsimp only [wSub, wRun, wNar, wFil, wCan, wLst, wCar, wDr]; done) | (dsimp only [wSub, wRun, wNar, wFil, wCan, wLst, wCar, wDr]; omega) | (simp [wSub, wRun, wNar, wFil, wCan, wLst, wCar, wDr]; done) | (simp [wSub, wRun, wNar, wFil, wCan, wLst, wCar, wDr]; omega))
                    have D7 := DJ_put D1 hM10 (by omega)
                    refine uX1_standsAsFactor_160 ?_
                    refine c1_write  (by first | exact D7.2.1 | exact D1.2.1) (fun M11 fM11 p11a => ?_)
                    replace fM := fM.tr fM11 (by intro o j hw; first | omega | exact hw | (dsimp only [wSub, wRun, wNar, wFil, wCan, wLst, wCar, wDr] at hw; dsimp only [wSub, wRun, wNar, wFil, wCan, wLst, wCar, wDr]; omega) | (dsimp only [wSub, wRun, wNar, wFil, wCan, wLst, wCar, wDr]; omega) | (dsimp only [wSub, wRun, wNar, wFil, wCan, wLst, wCar, wDr] at hw; omega) | (simp [wSub, wRun, wNar, wFil, wCan, wLst, wCar, wDr] at hw; simp [wSub, wRun, wNar, wFil, wCan, wLst, wCar, wDr]; omega))
                    have D8 := DJ_frw (by first | exact D7 | exact D1) fM11 p11a
                    refine uX1_standsAsFactor_165 ?_
                    intro M12 hM12
                    replace fM := fr.put fM hM12 (by first | omega | (dsimp only [wSub, wRun, wNar, wFil, wCan, wLst, wCar, wDr]; done) | (dsimp only [wSub, wRun, wNar, wFil, wCan, wLst, wCar, wDr]; omega) | (simp [wSub, wRun, wNar, wFil, wCan, wLst, wCar, wDr]; done) | (simp [wSub, wRun, wNar, wFil, wCan, wLst, wCar, wDr]; omega))
                    have D9 := DJ_put D8 hM12 (by omega)
                    refine uX1_standsAsFactor_170 ?_
                    exact k _ _ fM (by first | omega | assumption | with_reducible exact rng_ld _ _ _ | with_reducible exact rng_yand _ _ | with_reducible exact rng_yor _ _ | with_reducible exact rng_zcmp _ _ | with_reducible exact yand7 _ | with_reducible exact rng_toInt _ | with_reducible exact yarr23 (by omega) | with_reducible exact yarr57 (by omega) | with_reducible exact Or.inl rfl | with_reducible exact Or.inr rfl) (fun _ => D9)
                · skip
                  refine uX1_standsAsFactor_126 (by first | omega | assumption | with_reducible exact rng_ld _ _ _ | with_reducible exact rng_yand _ _ | with_reducible exact rng_yor _ _ | with_reducible exact rng_zcmp _ _ | with_reducible exact yand7 _ | with_reducible exact rng_toInt _ | with_reducible exact yarr23 (by omega) | with_reducible exact yarr57 (by omega) | with_reducible exact Or.inl rfl | with_reducible exact Or.inr rfl) (fun hc => ?_) (fun hc => ?_)
                  · skip
                    refine uX1_standsAsFactor_140 (by first | omega | assumption | with_reducible exact rng_ld _ _ _ | with_reducible exact rng_yand _ _ | with_reducible exact rng_yor _ _ | with_reducible exact rng_zcmp _ _ | with_reducible exact yand7 _ | with_reducible exact rng_toInt _ | with_reducible exact yarr23 (by omega) | with_reducible exact yarr57 (by omega) | with_reducible exact Or.inl rfl | with_reducible exact Or.inr rfl) (fun hc => ?_) (fun hc => ?_)
                    · skip
                      refine uX1_standsAsFactor_160 ?_
                      refine c1_write  (by first | exact D7.2.1 | exact D1.2.1) (fun M13 fM13 p13a => ?_)
                      replace fM := fM.tr fM13 (by intro o j hw; first | omega | exact hw | (dsimp only [wSub, wRun, wNar, wFil, wCan, wLst, wCar, wDr] at hw; dsimp only [wSub, wRun, wNar, wFil, wCan, wLst, wCar, wDr]; omega) | (dsimp only [wSub, wRun, wNar, wFil, wCan, wLst, wCar, wDr]; omega) | (dsimp only [wSub, wRun, wNar, wFil, wCan, wLst, wCar, wDr] at hw; omega) | (simp [wSub, wRun, wNar, wFil, wCan, wLst, wCar, wDr] at hw; simp [wSub, wRun, wNar, wFil, wCan, wLst, wCar, wDr]; omega))
                      have D8 := DJ_frw (by first | exact D7 | exact D1) fM13 p13a
                      refine uX1_standsAsFactor_165 ?_
                      intro M14 hM14
                      replace fM := fr.put fM hM14 (by first | omega | (dsimp only [wSub, wRun, wNar, wFil, wCan, wLst, wCar, wDr]; done) | (dsimp only [wSub, wRun, wNar, wFil, wCan, wLst, wCar, wDr]; omega) | (simp [wSub, wRun, wNar, wFil, wCan, wLst, wCar, wDr]; done) | (simp [wSub, wRun, wNar, wFil, wCan, wLst, wCar, wDr]; omega))
                      have D9 := DJ_put D8 hM14 (by omega)
                      refine uX1_standsAsFactor_170 ?_
                      exact k _ _ fM (by first | omega | assumption | with_reducible exact rng_ld _ _ _ | with_reducible exact rng_yand _ _ | with_reducible exact rng_yor _ _ | with_reducible exact rng_zcmp _ _ | with_reducible exact yand7 _ | with_reducible exact rng_toInt _ | with_reducible exact yarr23 (by omega) | with_reducible exact yarr57 (by omega) | with_reducible exact Or.inl rfl | with_reducible exact Or.inr rfl) (fun _ => D9)
                    · skip
                      refine uX1_standsAsFactor_145 ?_
                      intro M15 hM15
                      replace fM := fr.put fM hM15 (by first | omega | (dsimp only [wSub, wRun, wNar, wFil, wCan, wLst, wCar, wDr]; done) | (dsimp only [wSub, wRun, wNar, wFil, wCan, wLst, wCar, wDr]; omega) | (simp [wSub, wRun, wNar, wFil, wCan, wLst, wCar, wDr]; done) | (simp [wSub, wRun, wNar, wFil, wCan, wLst, wCar, wDr]; omega))
                      have D7 := DJ_put D1 hM15 (by omega)
                      refine uX1_standsAsFactor_160 ?_
                      refine c1_write  (by first | exact D7.2.1 | exact D1.2.1) (fun M16 fM16 p16a => ?_)
                      replace fM := fM.tr fM16 (by intro o j hw; first | omega | exact hw | (dsimp only [wSub, wRun, wNar, wFil, wCan, wLst, wCar, wDr] at hw; dsimp only [wSub, wRun, wNar, wFil, wCan, wLst, wCar, wDr]; omega) | (dsimp only [wSub, wRun, wNar, wFil, wCan, wLst, wCar, wDr]; omega) | (dsimp only [wSub, wRun, wNar, wFil, wCan, wLst, wCar, wDr] at hw; omega) | (simp [wSub, wRun, wNar, wFil, wCan, wLst, wCar, wDr] at hw; simp [wSub, wRun, wNar, wFil, wCan, wLst, wCar, wDr]; omega))
                      have D8 := DJ_frw (by first | exact D7 | exact D1) fM16 p16a
                      refine uX1_standsAsFactor_165 ?_
                      intro M17 hM17
                      replace fM := fr.put fM hM17 (by first | omega | (dsimp only [wSub, wRun, wNar, wFil, wCan, wLst, wCar, wDr]; done) | (dsimp only [wSub, wRun, wNar, wFil, wCan, wLst, wCar, wDr]; omega) | (simp [wSub, wRun, wNar, wFil, wCan, wLst, wCar, wDr]; done) | (simp [wSub, wRun, wNar, wFil, wCan, wLst, wCar, wDr]; omega))
                      have D9 := DJ_put D8 hM17 (by omega)
                      refine uX1_standsAsFactor_170 ?_
                      exact k _ _ fM (by first | omega | assumption | with_reducible exact rng_ld _ _ _ | with_reducible exact rng_yand _ _ | with_reducible exact rng_yor _ _ | with_reducible exact rng_zcmp _ _ | with_reducible exact yand7 _ | with_reducible exact rng_toInt _ | with_reducible exact yarr23 (by omega) | with_reducible exact yarr57 (by omega) | with_reducible exact Or.inl rfl | with_reducible exact Or.inr rfl) (fun _ => D9)
                  · skip
                    refine uX1_standsAsFactor_132 (by first | omega | assumption | with_reducible exact rng_ld _ _ _ | with_reducible exact rng_yand _ _ | with_reducible exact rng_yor _ _ | with_reducible exact rng_zcmp _ _ | with_reducible exact yand7 _ | with_reducible exact rng_toInt _ | with_reducible exact yarr23 (by omega) | with_reducible exact yarr57 (by omega) | with_reducible exact Or.inl rfl | with_reducible exact Or.inr rfl) (fun hc => ?_) (fun hc => ?_)
                    · skip
                      refine uX1_standsAsFactor_140 (by first | omega | assumption | with_reducible exact rng_ld _ _ _ | with_reducible exact rng_yand _ _ | with_reducible exact rng_yor _ _ | with_reducible exact rng_zcmp _ _ | with_reducible exact yand7 _ | with_reducible exact rng_toInt _ | with_reducible exact yarr23 (by omega) | with_reducible exact yarr57 (by omega) | with_reducible exact Or.inl rfl | with_reducible exact Or.inr rfl) (fun hc => ?_) (fun hc => ?_)
                      · skip
                        refine uX1_standsAsFactor_160 ?_
                        refine c1_write  (by first | exact D7.2.1 | exact D1.2.1) (fun M18 fM18 p18a => ?_)
                        replace fM := fM.tr fM18 (by intro o j hw; first | omega | exact hw | (dsimp only [wSub, wRun, wNar, wFil, wCan, wLst, wCar, wDr] at hw; dsimp only [wSub, wRun, wNar, wFil, wCan, wLst, wCar, wDr]; omega) | (dsimp only [wSub, wRun, wNar, wFil, wCan, wLst, wCar, wDr]; omega) | (dsimp only [wSub, wRun, wNar, wFil, wCan, wLst, wCar, wDr] at hw; omega) | (simp [wSub, wRun, wNar, wFil, wCan, wLst, wCar, wDr] at hw; simp [wSub, wRun, wNar, wFil, wCan, wLst, wCar, wDr]; omega))
                        have D8 := DJ_frw (by first | exact D7 | exact D1) fM18 p18a
                        refine uX1_standsAsFactor_165 ?_
                        intro M19 hM19
                        replace fM := fr.put fM hM19 (by first | omega | (dsimp only [wSub, wRun, wNar, wFil, wCan, wLst, wCar, wDr]; done) | (dsimp only [wSub, wRun, wNar, wFil, wCan, wLst, wCar, wDr]; omega) | (simp [wSub, wRun, wNar, wFil, wCan, wLst, wCar, wDr]; done) | (simp [wSub, wRun, wNar, wFil, wCan, wLst, wCar, wDr]; omega))
                        have D9 := DJ_put D8 hM19 (by omega)
                        refine uX1_standsAsFactor_170 ?_
                        exact k _ _ fM (by first | omega | assumption | with_reducible exact rng_ld _ _ _ | with_reducible exact rng_yand _ _ | with_reducible exact rng_yor _ _ | with_reducible exact rng_zcmp _ _ | with_reducible exact yand7 _ | with_reducible exact rng_toInt _ | with_reducible exact yarr23 (by omega) | with_reducible exact yarr57 (by omega) | with_reducible exact Or.inl rfl | with_reducible exact Or.inr rfl) (fun _ => D9)
                      · skip
                        refine uX1_standsAsFactor_145 ?_
                        intro M20 hM20
                        replace fM := fr.put fM hM20 (by first | omega | (dsimp only [wSub, wRun, wNar, wFil, wCan, wLst, wCar, wDr]; done) | (dsimp only [wSub, wRun, wNar, wFil, wCan, wLst, wCar, wDr]; omega) | (simp [wSub, wRun, wNar, wFil, wCan, wLst, wCar, wDr]; done) | (simp [wSub, wRun, wNar, wFil, wCan, wLst, wCar, wDr]; omega))
                        have D7 := DJ_put D1 hM20 (by omega)
                        refine uX1_standsAsFactor_160 ?_
                        refine c1_write  (by first | exact D7.2.1 | exact D1.2.1) (fun M21 fM21 p21a => ?_)
                        replace fM := fM.tr fM21 (by intro o j hw; first | omega | exact hw | (dsimp only [wSub, wRun, wNar, wFil, wCan, wLst, wCar, wDr] at hw; dsimp only [wSub, wRun, wNar, wFil, wCan, wLst, wCar, wDr]; omega) | (dsimp only [wSub, wRun, wNar, wFil, wCan, wLst, wCar, wDr]; omega) | (dsimp only [wSub, wRun, wNar, wFil, wCan, wLst, wCar, wDr] at hw; omega) | (simp [wSub, wRun, wNar, wFil, wCan, wLst, wCar, wDr] at hw; simp [wSub, wRun, wNar, wFil, wCan, wLst, wCar, wDr]; omega))
                        have D8 := DJ_frw (by first | exact D7 | exact D1) fM21 p21a
                        refine uX1_standsAsFactor_165 ?_
                        intro M22 hM22
                        replace fM := fr.put fM hM22 (by first | omega | (dsimp only [wSub, wRun, wNar, wFil, wCan, wLst, wCar, wDr]; done) | (dsimp only [wSub, wRun, wNar, wFil, wCan, wLst, wCar, wDr]; omega) | (simp [wSub, wRun, wNar, wFil, wCan, wLst, wCar, wDr]; done) | (simp [wSub, wRun, wNar, wFil, wCan, wLst, wCar, wDr]; omega))
                        have D9 := DJ_put D8 hM22 (by omega)
                        refine uX1_standsAsFactor_170 ?_
                        exact k _ _ fM (by first | omega | assumption | with_reducible exact rng_ld _ _ _ | with_reducible exact rng_yand _ _ | with_reducible exact rng_yor _ _ | with_reducible exact rng_zcmp _ _ | with_reducible exact yand7 _ | with_reducible exact rng_toInt _ | with_reducible exact yarr23 (by omega) | with_reducible exact yarr57 (by omega) | with_reducible exact Or.inl rfl | with_reducible exact Or.inr rfl) (fun _ => D9)
                    · skip
                      refine uX1_standsAsFactor_138 ?_
                      exact k _ _ fM (by first | omega | assumption | with_reducible exact rng_ld _ _ _ | with_reducible exact rng_yand _ _ | with_reducible exact rng_yor _ _ | with_reducible exact rng_zcmp _ _ | with_reducible exact yand7 _ | with_reducible exact rng_toInt _ | with_reducible exact yarr23 (by omega) | with_reducible exact yarr57 (by omega) | with_reducible exact Or.inl rfl | with_reducible exact Or.inr rfl) (fun e => absurd e (by decide))
            · skip
              refine uX1_standsAsFactor_104 (by first | omega | assumption | with_reducible exact rng_ld _ _ _ | with_reducible exact rng_yand _ _ | with_reducible exact rng_yor _ _ | with_reducible exact rng_zcmp _ _ | with_reducible exact yand7 _ | with_reducible exact rng_toInt _ | with_reducible exact yarr23 (by omega) | with_reducible exact yarr57 (by omega) | with_reducible exact Or.inl rfl | with_reducible exact Or.inr rfl) (fun hc => ?_) (fun hc => ?_)
              · skip
                refine uX1_standsAsFactor_114 ?_
                refine uX1_standsAsFactor_115 (by first | omega | assumption | with_reducible exact rng_ld _ _ _ | with_reducible exact rng_yand _ _ | with_reducible exact rng_yor _ _ | with_reducible exact rng_zcmp _ _ | with_reducible exact yand7 _ | with_reducible exact rng_toInt _ | with_reducible exact yarr23 (by omega) | with_reducible exact yarr57 (by omega) | with_reducible exact Or.inl rfl | with_reducible exact Or.inr rfl) (fun hc => ?_) (fun hc => ?_)
                · skip
                  refine uX1_standsAsFactor_140 (by first | omega | assumption | with_reducible exact rng_ld _ _ _ | with_reducible exact rng_yand _ _ | with_reducible exact rng_yor _ _ | with_reducible exact rng_zcmp _ _ | with_reducible exact yand7 _ | with_reducible exact rng_toInt _ | with_reducible exact yarr23 (by omega) | with_reducible exact yarr57 (by omega) | with_reducible exact Or.inl rfl | with_reducible exact Or.inr rfl) (fun hc => ?_) (fun hc => ?_)
                  · skip
                    refine uX1_standsAsFactor_160 ?_
                    refine c1_write  (by first | exact D7.2.1 | exact D1.2.1) (fun M23 fM23 p23a => ?_)
                    replace fM := fM.tr fM23 (by intro o j hw; first | omega | exact hw | (dsimp only [wSub, wRun, wNar, wFil, wCan, wLst, wCar, wDr] at hw; dsimp only [wSub, wRun, wNar, wFil, wCan, wLst, wCar, wDr]; omega) | (dsimp only [wSub, wRun, wNar, wFil, wCan, wLst, wCar, wDr]; omega) | (dsimp only [wSub, wRun, wNar, wFil, wCan, wLst, wCar, wDr] at hw; omega) | (simp [wSub, wRun, wNar, wFil, wCan, wLst, wCar, wDr] at hw; simp [wSub, wRun, wNar, wFil, wCan, wLst, wCar, wDr]; omega))
                    have D8 := DJ_frw (by first | exact D7 | exact D1) fM23 p23a
                    refine uX1_standsAsFactor_165 ?_
                    intro M24 hM24
                    replace fM := fr.put fM hM24 (by first | omega | (dsimp only [wSub, wRun, wNar, wFil, wCan, wLst, wCar, wDr]; done) | (dsimp only [wSub, wRun, wNar, wFil, wCan, wLst, wCar, wDr]; omega) | (simp [wSub, wRun, wNar, wFil, wCan, wLst, wCar, wDr]; done) | (simp [wSub, wRun, wNar, wFil, wCan, wLst, wCar, wDr]; omega))
                    have D9 := DJ_put D8 hM24 (by omega)
                    refine uX1_standsAsFactor_170 ?_
                    exact k _ _ fM (by first | omega | assumption | with_reducible exact rng_ld _ _ _ | with_reducible exact rng_yand _ _ | with_reducible exact rng_yor _ _ | with_reducible exact rng_zcmp _ _ | with_reducible exact yand7 _ | with_reducible exact rng_toInt _ | with_reducible exact yarr23 (by omega) | with_reducible exact yarr57 (by omega) | with_reducible exact Or.inl rfl | with_reducible exact Or.inr rfl) (fun _ => D9)
                  · skip
                    refine uX1_standsAsFactor_145 ?_
                    intro M25 hM25
                    replace fM := fr.put fM hM25 (by first | omega | (dsimp only [wSub, wRun, wNar, wFil, wCan, wLst, wCar, wDr]; done) | (dsimp only [wSub, wRun, wNar, wFil, wCan, wLst, wCar, wDr]; omega) | (simp [wSub, wRun, wNar, wFil, wCan, wLst, wCar, wDr]; done) | (simp [wSub, wRun, wNar, wFil, wCan, wLst, wCar, wDr]; omega))
                    have D7 := DJ_put D1 hM25 (by omega)
                    refine uX1_standsAsFactor_160 ?_
                    refine c1_write  (by first | exact D7.2.1 | exact D1.2.1) (fun M26 fM26 p26a => ?_)
                    replace fM := fM.tr fM26 (by intro o j hw; first | omega | exact hw | (dsimp only [wSub, wRun, wNar, wFil, wCan, wLst, wCar, wDr] at hw; dsimp only [wSub, wRun, wNar, wFil, wCan, wLst, wCar, wDr]; omega) | (dsimp only [wSub, wRun, wNar, wFil, wCan, wLst, wCar, wDr]; omega) | (dsimp only [wSub, wRun, wNar, wFil, wCan, wLst, wCar, wDr] at hw; omega) | (simp [wSub, wRun, wNar, wFil, wCan, wLst, wCar, wDr] at hw; simp [wSub, wRun, wNar, wFil, wCan, wLst, wCar, wDr]; omega))
                    have D8 := DJ_frw (by first | exact D7 | exact D1) fM26 p26a
                    refine uX1_standsAsFactor_165 ?_
                    intro M27 hM27
                    replace fM := fr.put fM hM27 (by first | omega | (dsimp only [wSub, wRun, wNar, wFil, wCan, wLst, wCar, wDr]; done) | (dsimp only [wSub, wRun, wNar, wFil, wCan, wLst, wCar, wDr]; omega) | (simp [wSub, wRun, wNar, wFil, wCan, wLst, wCar, wDr]; done) | (simp [wSub, wRun, wNar, wFil, wCan, wLst, wCar, wDr]; omega))
                    have D9 := DJ_put D8 hM27 (by omega)
                    refine uX1_standsAsFactor_170 ?_
                    exact k _ _ fM (by first | omega | assumption | with_reducible exact rng_ld _ _ _ | with_reducible exact rng_yand _ _ | with_reducible exact rng_yor _ _ | with_reducible exact rng_zcmp _ _ | with_reducible exact yand7 _ | with_reducible exact rng_toInt _ | with_reducible exact yarr23 (by omega) | with_reducible exact yarr57 (by omega) | with_reducible exact Or.inl rfl | with_reducible exact Or.inr rfl) (fun _ => D9)
                · skip
                  refine uX1_standsAsFactor_121 (by first | omega | assumption | with_reducible exact rng_ld _ _ _ | with_reducible exact rng_yand _ _ | with_reducible exact rng_yor _ _ | with_reducible exact rng_zcmp _ _ | with_reducible exact yand7 _ | with_reducible exact rng_toInt _ | with_reducible exact yarr23 (by omega) | with_reducible exact yarr57 (by omega) | with_reducible exact Or.inl rfl | with_reducible exact Or.inr rfl) (fun hc => ?_) (fun hc => ?_)
                  · skip
                    refine uX1_standsAsFactor_140 (by first | omega | assumption | with_reducible exact rng_ld _ _ _ | with_reducible exact rng_yand _ _ | with_reducible exact rng_yor _ _ | with_reducible exact rng_zcmp _ _ | with_reducible exact yand7 _ | with_reducible exact rng_toInt _ | with_reducible exact yarr23 (by omega) | with_reducible exact yarr57 (by omega) | with_reducible exact Or.inl rfl | with_reducible exact Or.inr rfl) (fun hc => ?_) (fun hc => ?_)
                    · skip
                      refine uX1_standsAsFactor_160 ?_
                      refine c1_write  (by first | exact D7.2.1 | exact D1.2.1) (fun M28 fM28 p28a => ?_)
                      replace fM := fM.tr fM28 (by intro o j hw; first | omega | exact hw | (dsimp only [wSub, wRun, wNar, wFil, wCan, wLst, wCar, wDr] at hw; dsimp only [wSub, wRun, wNar, wFil, wCan, wLst, wCar, wDr]; omega) | (dsimp only [wSub, wRun, wNar, wFil, wCan, wLst, wCar, wDr]; omega) | (dsimp only [wSub, wRun, wNar, wFil, wCan, wLst, wCar, wDr] at hw; omega) | (simp [wSub, wRun, wNar, wFil, wCan, wLst, wCar, wDr] at hw; simp [wSub, wRun, wNar, wFil, wCan, wLst, wCar, wDr]; omega))
                      have D8 := DJ_frw (by first | exact D7 | exact D1) fM28 p28a
                      refine uX1_standsAsFactor_165 ?_
                      intro M29 hM29
                      replace fM := fr.put fM hM29 (by first | omega | (dsimp only [wSub, wRun, wNar, wFil, wCan, wLst, wCar, wDr]; done) | (dsimp only [wSub, wRun, wNar, wFil, wCan, wLst, wCar, wDr]; omega) | (simp [wSub, wRun, wNar, wFil, wCan, wLst, wCar, wDr]; done) | (simp [wSub, wRun, wNar, wFil, wCan, wLst, wCar, wDr]; omega))
                      have D9 := DJ_put D8 hM29 (by omega)
                      refine uX1_standsAsFactor_170 ?_
                      exact k _ _ fM (by first | omega | assumption | with_reducible exact rng_ld _ _ _ | with_reducible exact rng_yand _ _ | with_reducible exact rng_yor _ _ | with_reducible exact rng_zcmp _ _ | with_reducible exact yand7 _ | with_reducible exact rng_toInt _ | with_reducible exact yarr23 (by omega) | with_reducible exact yarr57 (by omega) | with_reducible exact Or.inl rfl | with_reducible exact Or.inr rfl) (fun _ => D9)
                    · skip
                      refine uX1_standsAsFactor_145 ?_
                      intro M30 hM30
                      replace fM := fr.put fM hM30 (by first | omega | (dsimp only [wSub, wRun, wNar, wFil, wCan, wLst, wCar, wDr]; done) | (dsimp only [wSub, wRun, wNar, wFil, wCan, wLst, wCar, wDr]; omega) | (simp [wSub, wRun, wNar, wFil, wCan, wLst, wCar, wDr]; done) | (simp [wSub, wRun, wNar, wFil, wCan, wLst, wCar, wDr]; omega))
                      have D7 := DJ_put D1 hM30 (by omega)
                      refine uX1_standsAsFactor_160 ?_
                      refine c1_write  (by first | exact D7.2.1 | exact D1.2.1) (fun M31 fM31 p31a => ?_)
                      replace fM := fM.tr fM31 (by intro o j hw; first | omega | exact hw | (dsimp only [wSub, wRun, wNar, wFil, wCan, wLst, wCar, wDr] at hw; dsimp only [wSub, wRun, wNar, wFil, wCan, wLst, wCar, wDr]; omega) | (dsimp only [wSub, wRun, wNar, wFil, wCan, wLst, wCar, wDr]; omega) | (dsimp only [wSub, wRun, wNar, wFil, wCan, wLst, wCar, wDr] at hw; omega) | (simp [wSub, wRun, wNar, wFil, wCan, wLst, wCar, wDr] at hw; simp [wSub, wRun, wNar, wFil, wCan, wLst, wCar, wDr]; omega))
                      have D8 := DJ_frw (by first | exact D7 | exact D1) fM31 p31a
                      refine uX1_standsAsFactor_165 ?_
                      intro M32 hM32
                      replace fM := fr.put fM hM32 (by first | omega | (dsimp only [wSub, wRun, wNar, wFil, wCan, wLst, wCar, wDr]; done) | (dsimp only [wSub, wRun, wNar, wFil, wCan, wLst, wCar, wDr]; omega) | (simp [wSub, wRun, wNar, wFil, wCan, wLst, wCar, wDr]; done) | (simp [wSub, wRun, wNar, wFil, wCan, wLst, wCar, wDr]; omega))
                      have D9 := DJ_put D8 hM32 (by omega)
                      refine uX1_standsAsFactor_170 ?_
                      exact k _ _ fM (by first | omega | assumption | with_reducible exact rng_ld _ _ _ | with_reducible exact rng_yand _ _ | with_reducible exact rng_yor _ _ | with_reducible exact rng_zcmp _ _ | with_reducible exact yand7 _ | with_reducible exact rng_toInt _ | with_reducible exact yarr23 (by omega) | with_reducible exact yarr57 (by omega) | with_reducible exact Or.inl rfl | with_reducible exact Or.inr rfl) (fun _ => D9)
                  · skip
                    refine uX1_standsAsFactor_126 (by first | omega | assumption | with_reducible exact rng_ld _ _ _ | with_reducible exact rng_yand _ _ | with_reducible exact rng_yor _ _ | with_reducible exact rng_zcmp _ _ | with_reducible exact yand7 _ | with_reducible exact rng_toInt _ | with_reducible exact yarr23 (by omega) | with_reducible exact yarr57 (by omega) | with_reducible exact Or.inl rfl | with_reducible exact Or.inr rfl) (fun hc => ?_) (fun hc => ?_)
                    · skip
                      refine uX1_standsAsFactor_140 (by first | omega | assumption | with_reducible exact rng_ld _ _ _ | with_reducible exact rng_yand _ _ | with_reducible exact rng_yor _ _ | with_reducible exact rng_zcmp _ _ | with_reducible exact yand7 _ | with_reducible exact rng_toInt _ | with_reducible exact yarr23 (by omega) | with_reducible exact yarr57 (by omega) | with_reducible exact Or.inl rfl | with_reducible exact Or.inr rfl) (fun hc => ?_) (fun hc => ?_)
                      · skip
                        refine uX1_standsAsFactor_160 ?_
                        refine c1_write  (by first | exact D7.2.1 | exact D1.2.1) (fun M33 fM33 p33a => ?_)
                        replace fM := fM.tr fM33 (by intro o j hw; first | omega | exact hw | (dsimp only [wSub, wRun, wNar, wFil, wCan, wLst, wCar, wDr] at hw; dsimp only [wSub, wRun, wNar, wFil, wCan, wLst, wCar, wDr]; omega) | (dsimp only [wSub, wRun, wNar, wFil, wCan, wLst, wCar, wDr]; omega) | (dsimp only [wSub, wRun, wNar, wFil, wCan, wLst, wCar, wDr] at hw; omega) | (simp [wSub, wRun, wNar, wFil, wCan, wLst, wCar, wDr] at hw; simp [wSub, wRun, wNar, wFil, wCan, wLst, wCar, wDr]; omega))
                        have D8 := DJ_frw (by first | exact D7 | exact D1) fM33 p33a
                        refine uX1_standsAsFactor_165 ?_
                        intro M34 hM34
                        replace fM := fr.put fM hM34 (by first | omega | (dsimp only [wSub, wRun, wNar, wFil, wCan, wLst, wCar, wDr]; done) | (dsimp only [wSub, wRun, wNar, wFil, wCan, wLst, wCar, wDr]; omega) | (simp [wSub, wRun, wNar, wFil, wCan, wLst, wCar, wDr]; done) | (simp [wSub, wRun, wNar, wFil, wCan, wLst, wCar, wDr]; omega))
                        have D9 := DJ_put D8 hM34 (by omega)
                        refine uX1_standsAsFactor_170 ?_
                        exact k _ _ fM (by first | omega | assumption | with_reducible exact rng_ld _ _ _ | with_reducible exact rng_yand _ _ | with_reducible exact rng_yor _ _ | with_reducible exact rng_zcmp _ _ | with_reducible exact yand7 _ | with_reducible exact rng_toInt _ | with_reducible exact yarr23 (by omega) | with_reducible exact yarr57 (by omega) | with_reducible exact Or.inl rfl | with_reducible exact Or.inr rfl) (fun _ => D9)
                      · skip
                        refine uX1_standsAsFactor_145 ?_
                        intro M35 hM35
                        replace fM := fr.put fM hM35 (by first | omega | (dsimp only [wSub, wRun, wNar, wFil, wCan, wLst, wCar, wDr]; done) | (dsimp only [wSub, wRun, wNar, wFil, wCan, wLst, wCar, wDr]; omega) | (simp [wSub, wRun, wNar, wFil, wCan, wLst, wCar, wDr]; done) | (simp [wSub, wRun, wNar, wFil, wCan, wLst, wCar, wDr]; omega))
                        have D7 := DJ_put D1 hM35 (by omega)
                        refine uX1_standsAsFactor_160 ?_
                        refine c1_write  (by first | exact D7.2.1 | exact D1.2.1) (fun M36 fM36 p36a => ?_)
                        replace fM := fM.tr fM36 (by intro o j hw; first | omega | exact hw | (dsimp only [wSub, wRun, wNar, wFil, wCan, wLst, wCar, wDr] at hw; dsimp only [wSub, wRun, wNar, wFil, wCan, wLst, wCar, wDr]; omega) | (dsimp only [wSub, wRun, wNar, wFil, wCan, wLst, wCar, wDr]; omega) | (dsimp only [wSub, wRun, wNar, wFil, wCan, wLst, wCar, wDr] at hw; omega) | (simp [wSub, wRun, wNar, wFil, wCan, wLst, wCar, wDr] at hw; simp [wSub, wRun, wNar, wFil, wCan, wLst, wCar, wDr]; omega))
                        have D8 := DJ_frw (by first | exact D7 | exact D1) fM36 p36a
                        refine uX1_standsAsFactor_165 ?_
                        intro M37 hM37
                        replace fM := fr.put fM hM37 (by first | omega | (dsimp only [wSub, wRun, wNar, wFil, wCan, wLst, wCar, wDr]; done) | (dsimp only [wSub, wRun, wNar, wFil, wCan, wLst, wCar, wDr]; omega) | (simp [wSub, wRun, wNar, wFil, wCan, wLst, wCar, wDr]; done) | (simp [wSub, wRun, wNar, wFil, wCan, wLst, wCar, wDr]; omega))
                        have D9 := DJ_put D8 hM37 (by omega)
                        refine uX1_standsAsFactor_170 ?_
                        exact k _ _ fM (by first | omega | assumption | with_reducible exact rng_ld _ _ _ | with_reducible exact rng_yand _ _ | with_reducible exact rng_yor _ _ | with_reducible exact rng_zcmp _ _ | with_reducible exact yand7 _ | with_reducible exact rng_toInt _ | with_reducible exact yarr23 (by omega) | with_reducible exact yarr57 (by omega) | with_reducible exact Or.inl rfl | with_reducible exact Or.inr rfl) (fun _ => D9)
                    · skip
                      refine uX1_standsAsFactor_132 (by first | omega | assumption | with_reducible exact rng_ld _ _ _ | with_reducible exact rng_yand _ _ | with_reducible exact rng_yor _ _ | with_reducible exact rng_zcmp _ _ | with_reducible exact yand7 _ | with_reducible exact rng_toInt _ | with_reducible exact yarr23 (by omega) | with_reducible exact yarr57 (by omega) | with_reducible exact Or.inl rfl | with_reducible exact Or.inr rfl) (fun hc => ?_) (fun hc => ?_)
                      · skip
                        refine uX1_standsAsFactor_140 (by first | omega | assumption | with_reducible exact rng_ld _ _ _ | with_reducible exact rng_yand _ _ | with_reducible exact rng_yor _ _ | with_reducible exact rng_zcmp _ _ | with_reducible exact yand7 _ | with_reducible exact rng_toInt _ | with_reducible exact yarr23 (by omega) | with_reducible exact yarr57 (by omega) | with_reducible exact Or.inl rfl | with_reducible exact Or.inr rfl) (fun hc => ?_) (fun hc => ?_)
                        · skip
                          refine uX1_standsAsFactor_160 ?_
                          refine c1_write  (by first | exact D7.2.1 | exact D1.2.1) (fun M38 fM38 p38a => ?_)
                          replace fM := fM.tr fM38 (by intro o j hw; first | omega | exact hw | (dsimp only [wSub, wRun, wNar, wFil, wCan, wLst, wCar, wDr] at hw; dsimp only [wSub, wRun, wNar, wFil, wCan, wLst, wCar, wDr]; omega) | (dsimp only [wSub, wRun, wNar, wFil, wCan, wLst, wCar, wDr]; omega) | (dsimp only [wSub, wRun, wNar, wFil, wCan, wLst, wCar, wDr] at hw; omega) | (simp [wSub, wRun, wNar, wFil, wCan, wLst, wCar, wDr] at hw; simp [wSub, wRun, wNar, wFil, wCan, wLst, wCar, wDr]; omega))
                          have D8 := DJ_frw (by first | exact D7 | exact D1) fM38 p38a
                          refine uX1_standsAsFactor_165 ?_
                          intro M39 hM39
                          replace fM := fr.put fM hM39 (by first | omega | (dsimp only [wSub, wRun, wNar, wFil, wCan, wLst, wCar, wDr]; done) | (dsimp only [wSub, wRun, wNar, wFil, wCan, wLst, wCar, wDr]; omega) | (simp [wSub, wRun, wNar, wFil, wCan, wLst, wCar, wDr]; done) | (simp [wSub, wRun, wNar, wFil, wCan, wLst, wCar, wDr]; omega))
                          have D9 := DJ_put D8 hM39 (by omega)
                          refine uX1_standsAsFactor_170 ?_
                          exact k _ _ fM (by first | omega | assumption | with_reducible exact rng_ld _ _ _ | with_reducible exact rng_yand _ _ | with_reducible exact rng_yor _ _ | with_reducible exact rng_zcmp _ _ | with_reducible exact yand7 _ | with_reducible exact rng_toInt _ | with_reducible exact yarr23 (by omega) | with_reducible exact yarr57 (by omega) | with_reducible exact Or.inl rfl | with_reducible exact Or.inr rfl) (fun _ => D9)
                        · skip
                          refine uX1_standsAsFactor_145 ?_
                          intro M40 hM40
                          replace fM := fr.put fM hM40 (by first | omega | (dsimp only [wSub, wRun, wNar, wFil, wCan, wLst, wCar, wDr]; done) | (dsimp only [wSub, wRun, wNar, wFil, wCan, wLst, wCar, wDr]; omega) | (simp [wSub, wRun, wNar, wFil, wCan, wLst, wCar, wDr]; done) | (simp [wSub, wRun, wNar, wFil, wCan, wLst, wCar, wDr]; omega))
                          have D7 := DJ_put D1 hM40 (by omega)
                          refine uX1_standsAsFactor_160 ?_
                          refine c1_write  (by first | exact D7.2.1 | exact D1.2.1) (fun M41 fM41 p41a => ?_)
                          replace fM := fM.tr fM41 (by intro o j hw; first | omega | exact hw | (dsimp only [wSub, wRun, wNar, wFil, wCan, wLst, wCar, wDr] at hw; dsimp only [wSub, wRun, wNar, wFil, wCan, wLst, wCar, wDr]; omega) | (dsimp only [wSub, wRun, wNar, wFil, wCan, wLst, wCar, wDr]; omega) | (dsimp only [wSub, wRun, wNar, wFil, wCan, wLst, wCar, wDr] at hw; omega) | (simp [wSub, wRun, wNar, wFil, wCan, wLst, wCar, wDr] at hw; simp [wSub, wRun, wNar, wFil, wCan, wLst, wCar, wDr]; omega))
                          have D8 := DJ_frw (by first | exact D7 | exact D1) fM41 p41a
                          refine uX1_standsAsFactor_165 ?_
                          intro M42 hM42
                          replace fM := fr.put fM hM42 (by first | omega | (dsimp only [wSub, wRun, wNar, wFil, wCan, wLst, wCar, wDr]; done) | (dsimp only [wSub, wRun, wNar, wFil, wCan, wLst, wCar, wDr]; omega) | (simp [wSub, wRun, wNar, wFil, wCan, wLst, wCar, wDr]; done) | (simp [wSub, wRun, wNar, wFil, wCan, wLst, wCar, wDr]; omega))
                          have D9 := DJ_put D8 hM42 (by omega)
                          refine uX1_standsAsFactor_170 ?_
                          exact k _ _ fM (by first | omega | assumption | with_reducible exact rng_ld _ _ _ | with_reducible exact rng_yand _ _ | with_reducible exact rng_yor _ _ | with_reducible exact rng_zcmp _ _ | with_reducible exact yand7 _ | with_reducible exact rng_toInt _ | with_reducible exact yarr23 (by omega) | with_reducible exact yarr57 (by omega) | with_reducible exact Or.inl rfl | with_reducible exact Or.inr rfl) (fun _ => D9)
                      · skip
                        refine uX1_standsAsFactor_138 ?_
                        exact k _ _ fM (by first | omega | assumption | with_reducible exact rng_ld _ _ _ | with_reducible exact rng_yand _ _ | with_reducible exact rng_yor _ _ | with_reducible exact rng_zcmp _ _ | with_reducible exact yand7 _ | with_reducible exact rng_toInt _ | with_reducible exact yarr23 (by omega) | with_reducible exact yarr57 (by omega) | with_reducible exact Or.inl rfl | with_reducible exact Or.inr rfl) (fun e => absurd e (by decide))
              · skip
                refine uX1_standsAsFactor_110 ?_
                refine uX1_standsAsFactor_115 (by first | omega | assumption | with_reducible exact rng_ld _ _ _ | with_reducible exact rng_yand _ _ | with_reducible exact rng_yor _ _ | with_reducible exact rng_zcmp _ _ | with_reducible exact yand7 _ | with_reducible exact rng_toInt _ | with_reducible exact yarr23 (by omega) | with_reducible exact yarr57 (by omega) | with_reducible exact Or.inl rfl | with_reducible exact Or.inr rfl) (fun hc => ?_) (fun hc => ?_)
                · skip
                  refine uX1_standsAsFactor_140 (by first | omega | assumption | with_reducible exact rng_ld _ _ _ | with_reducible exact rng_yand _ _ | with_reducible exact rng_yor _ _ | with_reducible exact rng_zcmp _ _ | with_reducible exact yand7 _ | with_reducible exact rng_toInt _ | with_reducible exact yarr23 (by omega) | with_reducible exact yarr57 (by omega) | with_reducible exact Or.inl rfl | with_reducible exact Or.inr rfl) (fun hc => ?_) (fun hc => ?_)
                  · skip
                    refine uX1_standsAsFactor_160 ?_
                    refine c1_write  (by first | exact D7.2.1 | exact D1.2.1) (fun M43 fM43 p43a => ?_)
                    replace fM := fM.tr fM43 (by intro o j hw; first | omega | exact hw | (dsimp only [wSub, wRun, wNar, wFil, wCan, wLst, wCar, wDr] at hw; dsimp only [wSub, wRun, wNar, wFil, wCan, wLst, wCar, wDr]; omega) | (dsimp only [wSub, wRun, wNar, wFil, wCan, wLst, wCar, wDr]; omega) | (dsimp only [wSub, wRun, wNar, wFil, wCan, wLst, wCar, wDr] at hw; omega) | (simp [wSub, wRun, wNar, wFil, wCan, wLst, wCar, wDr] at hw; simp [wSub, wRun, wNar, wFil, wCan, wLst, wCar, wDr]; omega))
                    have D8 := DJ_frw (by first | exact D7 | exact D1) fM43 p43a
                    refine uX1_standsAsFactor_165 ?_
                    intro M44 hM44
                    replace fM := fr.put fM hM44 (by first | omega | (dsimp only [wSub, wRun, wNar, wFil, wCan, wLst, wCar, wDr]; done) | (dsimp only [wSub, wRun, wNar, wFil, wCan, wLst, wCar, wDr]; omega) | (simp [wSub, wRun, wNar, wFil, wCan, wLst, wCar, wDr]; done) | (simp [wSub, wRun, wNar, wFil, wCan, wLst, wCar, wDr]; omega))
                    have D9 := DJ_put D8 hM44 (by omega)
                    refine uX1_standsAsFactor_170 ?_
                    exact k _ _ fM (by first | omega | assumption | with_reducible exact rng_ld _ _ _ | with_reducible exact rng_yand _ _ | with_reducible exact rng_yor _ _ | with_reducible exact rng_zcmp _ _ | with_reducible exact yand7 _ | with_reducible exact rng_toInt _ | with_reducible exact yarr23 (by omega) | with_reducible exact yarr57 (by omega) | with_reducible exact Or.inl rfl | with_reducible exact Or.inr rfl) (fun _ => D9)
                  · skip
                    refine uX1_standsAsFactor_145 ?_
                    intro M45 hM45
                    replace fM := fr.put fM hM45 (by first | omega | (dsimp only [wSub, wRun, wNar, wFil, wCan, wLst, wCar, wDr]; done) | (dsimp only [wSub, wRun, wNar, wFil, wCan, wLst, wCar, wDr]; omega) | (simp [wSub, wRun, wNar, wFil, wCan, wLst, wCar, wDr]; done) | (simp [wSub, wRun, wNar, wFil, wCan, wLst, wCar, wDr]; omega))
                    have D7 := DJ_put D1 hM45 (by omega)
                    refine uX1_standsAsFactor_160 ?_
                    refine c1_write  (by first | exact D7.2.1 | exact D1.2.1) (fun M46 fM46 p46a => ?_)
                    replace fM := fM.tr fM46 (by intro o j hw; first | omega | exact hw | (dsimp only [wSub, wRun, wNar, wFil, wCan, wLst, wCar, wDr] at hw; dsimp only [wSub, wRun, wNar, wFil, wCan, wLst, wCar, wDr]; omega) | (dsimp only [wSub, wRun, wNar, wFil, wCan, wLst, wCar, wDr]; omega) | (dsimp only [wSub, wRun, wNar, wFil, wCan, wLst, wCar, wDr] at hw; omega) | (simp [wSub, wRun, wNar, wFil, wCan, wLst, wCar, wDr] at hw; simp [wSub, wRun, wNar, wFil, wCan, wLst, wCar, wDr]; omega))
                    have D8 := DJ_frw (by first | exact D7 | exact D1) fM46 p46a
                    refine uX1_standsAsFactor_165 ?_
                    intro M47 hM47
                    replace fM := fr.put fM hM47 (by first | omega | (dsimp only [wSub, wRun, wNar, wFil, wCan, wLst, wCar, wDr]; done) | (dsimp only [wSub, wRun, wNar, wFil, wCan, wLst, wCar, wDr]; omega) | (simp [wSub, wRun, wNar, wFil, wCan, wLst, wCar, wDr]; done) | (simp [wSub, wRun, wNar, wFil, wCan, wLst, wCar, wDr]; omega))
                    have D9 := DJ_put D8 hM47 (by omega)
                    refine uX1_standsAsFactor_170 ?_
                    exact k _ _ fM (by first | omega | assumption | with_reducible exact rng_ld _ _ _ | with_reducible exact rng_yand _ _ | with_reducible exact rng_yor _ _ | with_reducible exact rng_zcmp _ _ | with_reducible exact yand7 _ | with_reducible exact rng_toInt _ | with_reducible exact yarr23 (by omega) | with_reducible exact yarr57 (by omega) | with_reducible exact Or.inl rfl | with_reducible exact Or.inr rfl) (fun _ => D9)
                · skip
                  refine uX1_standsAsFactor_121 (by first | omega | assumption | with_reducible exact rng_ld _ _ _ | with_reducible exact rng_yand _ _ | with_reducible exact rng_yor _ _ | with_reducible exact rng_zcmp _ _ | with_reducible exact yand7 _ | with_reducible exact rng_toInt _ | with_reducible exact yarr23 (by omega) | with_reducible exact yarr57 (by omega) | with_reducible exact Or.inl rfl | with_reducible exact Or.inr rfl) (fun hc => ?_) (fun hc => ?_)
                  · skip
                    refine uX1_standsAsFactor_140 (by first | omega | assumption | with_reducible exact rng_ld _ _ _ | with_reducible exact rng_yand _ _ | with_reducible exact rng_yor _ _ | with_reducible exact rng_zcmp _ _ | with_reducible exact yand7 _ | with_reducible exact rng_toInt _ | with_reducible exact yarr23 (by omega) | with_reducible exact yarr57 (by omega) | with_reducible exact Or.inl rfl | with_reducible exact Or.inr rfl) (fun hc => ?_) (fun hc => ?_)
                    · skip
                      refine uX1_standsAsFactor_160 ?_
                      refine c1_write  (by first | exact D7.2.1 | exact D1.2.1) (fun M48 fM48 p48a => ?_)
                      replace fM := fM.tr fM48 (by intro o j hw; first | omega | exact hw | (dsimp only [wSub, wRun, wNar, wFil, wCan, wLst, wCar, wDr] at hw; dsimp only [wSub, wRun, wNar, wFil, wCan, wLst, wCar, wDr]; omega) | (dsimp only [wSub, wRun, wNar, wFil, wCan, wLst, wCar, wDr]; omega) | (dsimp only [wSub, wRun, wNar, wFil, wCan, wLst, wCar, wDr] at hw; omega) | (simp [wSub, wRun, wNar, wFil, wCan, wLst, wCar, wDr] at hw; simp [wSub, wRun, wNar, wFil, wCan, wLst, wCar, wDr]; omega))
                      have D8 := DJ_frw (by first | exact D7 | exact D1) fM48 p48a
                      refine uX1_standsAsFactor_165 ?_
                      intro M49 hM49
                      replace fM := fr.put fM hM49 (by first | omega | (dsimp only [wSub, wRun, wNar, wFil, wCan, wLst, wCar, wDr]; done) | (dsimp only [wSub, wRun, wNar, wFil, wCan, wLst, wCar, wDr]; omega) | (simp [wSub, wRun, wNar, wFil, wCan, wLst, wCar, wDr]; done) | (simp [wSub, wRun, wNar, wFil, wCan, wLst, wCar, wDr]; omega))
                      have D9 := DJ_put D8 hM49 (by omega)
                      refine uX1_standsAsFactor_170 ?_
                      exact k _ _ fM (by first | omega | assumption | with_reducible exact rng_ld _ _ _ | with_reducible exact rng_yand _ _ | with_reducible exact rng_yor _ _ | with_reducible exact rng_zcmp _ _ | with_reducible exact yand7 _ | with_reducible exact rng_toInt _ | with_reducible exact yarr23 (by omega) | with_reducible exact yarr57 (by omega) | with_reducible exact Or.inl rfl | with_reducible exact Or.inr rfl) (fun _ => D9)
                    · skip
                      refine uX1_standsAsFactor_145 ?_
                      intro M50 hM50
                      replace fM := fr.put fM hM50 (by first | omega | (dsimp only [wSub, wRun, wNar, wFil, wCan, wLst, wCar, wDr]; done) | (dsimp only [wSub, wRun, wNar, wFil, wCan, wLst, wCar, wDr]; omega) | (simp [wSub, wRun, wNar, wFil, wCan, wLst, wCar, wDr]; done) | (simp [wSub, wRun, wNar, wFil, wCan, wLst, wCar, wDr]; omega))
                      have D7 := DJ_put D1 hM50 (by omega)
                      refine uX1_standsAsFactor_160 ?_
                      refine c1_write  (by first | exact D7.2.1 | exact D1.2.1) (fun M51 fM51 p51a => ?_)
                      replace fM := fM.tr fM51 (by intro o j hw; first | omega | exact hw | (dsimp only [wSub, wRun, wNar, wFil, wCan, wLst, wCar, wDr] at hw; dsimp only [wSub, wRun, wNar, wFil, wCan, wLst, wCar, wDr]; omega) | (dsimp only [wSub, wRun, wNar, wFil, wCan, wLst, wCar, wDr]; omega) | (dsimp only [wSub, wRun, wNar, wFil, wCan, wLst, wCar, wDr] at hw; omega) | (simp [wSub, wRun, wNar, wFil, wCan, wLst, wCar, wDr] at hw; simp [wSub, wRun, wNar, wFil, wCan, wLst, wCar, wDr]; omega))
                      have D8 := DJ_frw (by first | exact D7 | exact D1) fM51 p51a
                      refine uX1_standsAsFactor_165 ?_
                      intro M52 hM52
                      replace fM := fr.put fM hM52 (by first | omega | (dsimp only [wSub, wRun, wNar, wFil, wCan, wLst, wCar, wDr]; done) | (dsimp only [wSub, wRun, wNar, wFil, wCan, wLst, wCar, wDr]; omega) | (simp [wSub, wRun, wNar, wFil, wCan, wLst, wCar, wDr]; done) | (simp [wSub, wRun, wNar, wFil, wCan, wLst, wCar, wDr]; omega))
                      have D9 := DJ_put D8 hM52 (by omega)
                      refine uX1_standsAsFactor_170 ?_
                      exact k _ _ fM (by first | omega | assumption | with_reducible exact rng_ld _ _ _ | with_reducible exact rng_yand _ _ | with_reducible exact rng_yor _ _ | with_reducible exact rng_zcmp _ _ | with_reducible exact yand7 _ | with_reducible exact rng_toInt _ | with_reducible exact yarr23 (by omega) | with_reducible exact yarr57 (by omega) | with_reducible exact Or.inl rfl | with_reducible exact Or.inr rfl) (fun _ => D9)
                  · skip
                    refine uX1_standsAsFactor_126 (by first | omega | assumption | with_reducible exact rng_ld _ _ _ | with_reducible exact rng_yand _ _ | with_reducible exact rng_yor _ _ | with_reducible exact rng_zcmp _ _ | with_reducible exact yand7 _ | with_reducible exact rng_toInt _ | with_reducible exact yarr23 (by omega) | with_reducible exact yarr57 (by omega) | with_reducible exact Or.inl rfl | with_reducible exact Or.inr rfl) (fun hc => ?_) (fun hc => ?_)
                    · skip
                      refine uX1_standsAsFactor_140 (by first | omega | assumption | with_reducible exact rng_ld _ _ _ | with_reducible exact rng_yand _ _ | with_reducible exact rng_yor _ _ | with_reducible exact rng_zcmp _ _ | with_reducible exact yand7 _ | with_reducible exact rng_toInt _ | with_reducible exact yarr23 (by omega) | with_reducible exact yarr57 (by omega) | with_reducible exact Or.inl rfl | with_reducible exact Or.inr rfl) (fun hc => ?_) (fun hc => ?_)
                      · skip
                        refine uX1_standsAsFactor_160 ?_
                        refine c1_write  (by first | exact D7.2.1 | exact D1.2.1) (fun M53 fM53 p53a => ?_)
                        replace fM := fM.tr fM53 (by intro o j hw; first | omega | exact hw | (dsimp only [wSub, wRun, wNar, wFil, wCan, wLst, wCar, wDr] at hw; dsimp only [wSub, wRun, wNar, wFil, wCan, wLst, wCar, wDr]; omega) | (dsimp only [wSub, wRun, wNar, wFil, wCan, wLst, wCar, wDr]; omega) | (dsimp only [wSub, wRun, wNar, wFil, wCan, wLst, wCar, wDr] at hw; omega) | (simp [wSub, wRun, wNar, wFil, wCan, wLst, wCar, wDr] at hw; simp [wSub, wRun, wNar, wFil, wCan, wLst, wCar, wDr]; omega))
                        have D8 := DJ_frw (by first | exact D7 | exact D1) fM53 p53a
                        refine uX1_standsAsFactor_165 ?_
                        intro M54 hM54
                        replace fM := fr.put fM hM54 (by first | omega | (dsimp only [wSub, wRun, wNar, wFil, wCan, wLst, wCar, wDr]; done) | (dsimp only [wSub, wRun, wNar, wFil, wCan, wLst, wCar, wDr]; omega) | (simp [wSub, wRun, wNar, wFil, wCan, wLst, wCar, wDr]; done) | (simp [wSub, wRun, wNar, wFil, wCan, wLst, wCar, wDr]; omega))
                        have D9 := DJ_put D8 hM54 (by omega)
                        refine uX1_standsAsFactor_170 ?_
                        exact k _ _ fM (by first | omega | assumption | with_reducible exact rng_ld _ _ _ | with_reducible exact rng_yand _ _ | with_reducible exact rng_yor _ _ | with_reducible exact rng_zcmp _ _ | with_reducible exact yand7 _ | with_reducible exact rng_toInt _ | with_reducible exact yarr23 (by omega) | with_reducible exact yarr57 (by omega) | with_reducible exact Or.inl rfl | with_reducible exact Or.inr rfl) (fun _ => D9)
                      · skip
                        refine uX1_standsAsFactor_145 ?_
                        intro M55 hM55
                        replace fM := fr.put fM hM55 (by first | omega | (dsimp only [wSub, wRun, wNar, wFil, wCan, wLst, wCar, wDr]; done) | (dsimp only [wSub, wRun, wNar, wFil, wCan, wLst, wCar, wDr]; omega) | (simp [wSub, wRun, wNar, wFil, wCan, wLst, wCar, wDr]; done) | (simp [wSub, wRun, wNar, wFil, wCan, wLst, wCar, wDr]; omega))
                        have D7 := DJ_put D1 hM55 (by omega)
                        refine uX1_standsAsFactor_160 ?_
                        refine c1_write  (by first | exact D7.2.1 | exact D1.2.1) (fun M56 fM56 p56a => ?_)
                        replace fM := fM.tr fM56 (by intro o j hw; first | omega | exact hw | (dsimp only [wSub, wRun, wNar, wFil, wCan, wLst, wCar, wDr] at hw; dsimp only [wSub, wRun, wNar, wFil, wCan, wLst, wCar, wDr]; omega) | (dsimp only [wSub, wRun, wNar, wFil, wCan, wLst, wCar, wDr]; omega) | (dsimp only [wSub, wRun, wNar, wFil, wCan, wLst, wCar, wDr] at hw; omega) | (simp [wSub, wRun, wNar, wFil, wCan, wLst, wCar, wDr] at hw; simp [wSub, wRun, wNar, wFil, wCan, wLst, wCar, wDr]; omega))
                        have D8 := DJ_frw (by first | exact D7 | exact D1) fM56 p56a
                        refine uX1_standsAsFactor_165 ?_
                        intro M57 hM57
                        replace fM := fr.put fM hM57 (by first | omega | (dsimp only [wSub, wRun, wNar, wFil, wCan, wLst, wCar, wDr]; done) | (dsimp only [wSub, wRun, wNar, wFil, wCan, wLst, wCar, wDr]; omega) | (simp [wSub, wRun, wNar, wFil, wCan, wLst, wCar, wDr]; done) | (simp [wSub, wRun, wNar, wFil, wCan, wLst, wCar, wDr]; omega))
                        have D9 := DJ_put D8 hM57 (by omega)
                        refine uX1_standsAsFactor_170 ?_
                        exact k _ _ fM (by first | omega | assumption | with_reducible exact rng_ld _ _ _ | with_reducible exact rng_yand _ _ | with_reducible exact rng_yor _ _ | with_reducible exact rng_zcmp _ _ | with_reducible exact yand7 _ | with_reducible exact rng_toInt _ | with_reducible exact yarr23 (by omega) | with_reducible exact yarr57 (by omega) | with_reducible exact Or.inl rfl | with_reducible exact Or.inr rfl) (fun _ => D9)
                    · skip
                      refine uX1_standsAsFactor_132 (by first | omega | assumption | with_reducible exact rng_ld _ _ _ | with_reducible exact rng_yand _ _ | with_reducible exact rng_yor _ _ | with_reducible exact rng_zcmp _ _ | with_reducible exact yand7 _ | with_reducible exact rng_toInt _ | with_reducible exact yarr23 (by omega) | with_reducible exact yarr57 (by omega) | with_reducible exact Or.inl rfl | with_reducible exact Or.inr rfl) (fun hc => ?_) (fun hc => ?_)
                      · skip
                        refine uX1_standsAsFactor_140 (by first | omega | assumption | with_reducible exact rng_ld _ _ _ | with_reducible exact rng_yand _ _ | with_reducible exact rng_yor _ _ | with_reducible exact rng_zcmp _ _ | with_reducible exact yand7 _ | with_reducible exact rng_toInt _ | with_reducible exact yarr23 (by omega) | with_reducible exact yarr57 (by omega) | with_reducible exact Or.inl rfl | with_reducible exact Or.inr rfl) (fun hc => ?_) (fun hc => ?_)
                        · skip
                          refine uX1_standsAsFactor_160 ?_
                          refine c1_write  (by first | exact D7.2.1 | exact D1.2.1) (fun M58 fM58 p58a => ?_)
                          replace fM := fM.tr fM58 (by intro o j hw; first | omega | exact hw | (dsimp only [wSub, wRun, wNar, wFil, wCan, wLst, wCar, wDr] at hw; dsimp only [wSub, wRun, wNar, wFil, wCan, wLst, wCar, wDr]; omega) | (dsimp only [wSub, wRun, wNar, wFil, wCan, wLst, wCar, wDr]; omega) | (dsimp only [wSub, wRun, wNar, wFil, wCan, wLst, wCar, wDr] at hw; omega) | (simp [wSub, wRun, wNar, wFil, wCan, wLst, wCar, wDr] at hw; simp [wSub, wRun, wNar, wFil, wCan, wLst, wCar, wDr]; omega))
                          have D8 := DJ_frw (by first | exact D7 | exact D1) fM58 p58a
                          refine uX1_standsAsFactor_165 ?_
                          intro M59 hM59
                          replace fM := fr.put fM hM59 (by first | omega | (dsimp only [wSub, wRun, wNar, wFil, wCan, wLst, wCar, wDr]; done) | (dsimp only [wSub, wRun, wNar, wFil, wCan, wLst, wCar, wDr]; omega) | (simp [wSub, wRun, wNar, wFil, wCan, wLst, wCar, wDr]; done) | (simp [wSub, wRun, wNar, wFil, wCan, wLst, wCar, wDr]; omega))
                          have D9 := DJ_put D8 hM59 (by omega)
                          refine uX1_standsAsFactor_170 ?_
                          exact k _ _ fM (by first | omega | assumption | with_reducible exact rng_ld _ _ _ | with_reducible exact rng_yand _ _ | with_reducible exact rng_yor _ _ | with_reducible exact rng_zcmp _ _ | with_reducible exact yand7 _ | with_reducible exact rng_toInt _ | with_reducible exact yarr23 (by omega) | with_reducible exact yarr57 (by omega) | with_reducible exact Or.inl rfl | with_reducible exact Or.inr rfl) (fun _ => D9)
                        · skip
                          refine uX1_standsAsFactor_145 ?_
                          intro M60 hM60
                          replace fM := fr.put fM hM60 (by first | omega | (dsimp only [wSub, wRun, wNar, wFil, wCan, wLst, wCar, wDr]; done) | (dsimp only [wSub, wRun, wNar, wFil, wCan, wLst, wCar, wDr]; omega) | (simp [wSub, wRun, wNar, wFil, wCan, wLst, wCar, wDr]; done) | (simp [wSub, wRun, wNar, wFil, wCan, wLst, wCar, wDr]; omega))
                          have D7 := DJ_put D1 hM60 (by omega)
                          refine uX1_standsAsFactor_160 ?_
                          refine c1_write  (by first | exact D7.2.1 | exact D1.2.1) (fun M61 fM61 p61a => ?_)
                          replace fM := fM.tr fM61 (by intro o j hw; first | omega | exact hw | (dsimp only [wSub, wRun, wNar, wFil, wCan, wLst, wCar, wDr] at hw; dsimp only [wSub, wRun, wNar, wFil, wCan, wLst, wCar, wDr]; omega) | (dsimp only [wSub, wRun, wNar, wFil, wCan, wLst, wCar, wDr]; omega) | (dsimp only [wSub, wRun, wNar, wFil, wCan, wLst, wCar, wDr] at hw; omega) | (simp [wSub, wRun, wNar, wFil, wCan, wLst, wCar, wDr] at hw; simp [wSub, wRun, wNar, wFil, wCan, wLst, wCar, wDr]; omega))
                          have D8 := DJ_frw (by first | exact D7 | exact D1) fM61 p61a
                          refine uX1_standsAsFactor_165 ?_
                          intro M62 hM62
                          replace fM := fr.put fM hM62 (by first | omega | (dsimp only [wSub, wRun, wNar, wFil, wCan, wLst, wCar, wDr]; done) | (dsimp only [wSub, wRun, wNar, wFil, wCan, wLst, wCar, wDr]; omega) | (simp [wSub, wRun, wNar, wFil, wCan, wLst, wCar, wDr]; done) | (simp [wSub, wRun, wNar, wFil, wCan, wLst, wCar, wDr]; omega))
                          have D9 := DJ_put D8 hM62 (by omega)
                          refine uX1_standsAsFactor_170 ?_
                          exact k _ _ fM (by first | omega | assumption | with_reducible exact rng_ld _ _ _ | with_reducible exact rng_yand _ _ | with_reducible exact rng_yor _ _ | with_reducible exact rng_zcmp _ _ | with_reducible exact yand7 _ | with_reducible exact rng_toInt _ | with_reducible exact yarr23 (by omega) | with_reducible exact yarr57 (by omega) | with_reducible exact Or.inl rfl | with_reducible exact Or.inr rfl) (fun _ => D9)
                      · skip
                        refine uX1_standsAsFactor_138 ?_
                        exact k _ _ fM (by first | omega | assumption | with_reducible exact rng_ld _ _ _ | with_reducible exact rng_yand _ _ | with_reducible exact rng_yor _ _ | with_reducible exact rng_zcmp _ _ | with_reducible exact yand7 _ | with_reducible exact rng_toInt _ | with_reducible exact yarr23 (by omega) | with_reducible exact yarr57 (by omega) | with_reducible exact Or.inl rfl | with_reducible exact Or.inr rfl) (fun e => absurd e (by decide))
          · skip
            refine uX1_standsAsFactor_84 (by first | omega | assumption | with_reducible exact rng_ld _ _ _ | with_reducible exact rng_yand _ _ | with_reducible exact rng_yor _ _ | with_reducible exact rng_zcmp _ _ | with_reducible exact yand7 _ | with_reducible exact rng_toInt _ | with_reducible exact yarr23 (by omega) | with_reducible exact yarr57 (by omega) | with_reducible exact Or.inl rfl | with_reducible exact Or.inr rfl) (by first | omega | assumption | with_reducible exact rng_ld _ _ _ | with_reducible exact rng_yand _ _ | with_reducible exact rng_yor _ _ | with_reducible exact rng_zcmp _ _ | with_reducible exact yand7 _ | with_reducible exact rng_toInt _ | with_reducible exact yarr23 (by omega) | with_reducible exact yarr57 (by omega) | with_reducible exact Or.inl rfl | with_reducible exact Or.inr rfl) (fun hc => ?_) (fun hc => ?_)
            · skip
              refine uX1_standsAsFactor_96 ?_
              refine uX1_standsAsFactor_97 (by first | omega | assumption | with_reducible exact rng_ld _ _ _ | with_reducible exact rng_yand _ _ | with_reducible exact rng_yor _ _ | with_reducible exact rng_zcmp _ _ | with_reducible exact yand7 _ | with_reducible exact rng_toInt _ | with_reducible exact yarr23 (by omega) | with_reducible exact yarr57 (by omega) | with_reducible exact Or.inl rfl | with_reducible exact Or.inr rfl) (fun hc => ?_) (fun hc => ?_)
              · skip
                refine uX1_standsAsFactor_114 ?_
                refine uX1_standsAsFactor_115 (by first | omega | assumption | with_reducible exact rng_ld _ _ _ | with_reducible exact rng_yand _ _ | with_reducible exact rng_yor _ _ | with_reducible exact rng_zcmp _ _ | with_reducible exact yand7 _ | with_reducible exact rng_toInt _ | with_reducible exact yarr23 (by omega) | with_reducible exact yarr57 (by omega) | with_reducible exact Or.inl rfl | with_reducible exact Or.inr rfl) (fun hc => ?_) (fun hc => ?_)
                · skip
                  refine uX1_standsAsFactor_140 (by first | omega | assumption | with_reducible exact rng_ld _ _ _ | with_reducible exact rng_yand _ _ | with_reducible exact rng_yor _ _ | with_reducible exact rng_zcmp _ _ | with_reducible exact yand7 _ | with_reducible exact rng_toInt _ | with_reducible exact yarr23 (by omega) | with_reducible exact yarr57 (by omega) | with_reducible exact Or.inl rfl | with_reducible exact Or.inr rfl) (fun hc => ?_) (fun hc => ?_)
                  · skip
                    refine uX1_standsAsFactor_160 ?_
                    refine c1_write  (by first | exact D7.2.1 | exact D1.2.1) (fun M63 fM63 p63a => ?_)
                    replace fM := fM.tr fM63 (by intro o j hw; first | omega | exact hw | (dsimp only [wSub, wRun, wNar, wFil, wCan, wLst, wCar, wDr] at hw; dsimp only [wSub, wRun, wNar, wFil, wCan, wLst, wCar, wDr]; omega) | (dsimp only [wSub, wRun, wNar, wFil, wCan, wLst, wCar, wDr]; omega) | (dsimp only [wSub, wRun, wNar, wFil, wCan, wLst, wCar, wDr] at hw; omega) | (simp [wSub, wRun, wNar, wFil, wCan, wLst, wCar, wDr] at hw; simp [wSub, wRun, wNar, wFil, wCan, wLst, wCar, wDr]; omega))
                    have D8 := DJ_frw (by first | exact D7 | exact D1) fM63 p63a
                    refine uX1_standsAsFactor_165 ?_
                    intro M64 hM64
                    replace fM := fr.put fM hM64 (by first | omega | (dsimp only [wSub, wRun, wNar, wFil, wCan, wLst, wCar, wDr]; done) | (dsimp only [wSub, wRun, wNar, wFil, wCan, wLst, wCar, wDr]; omega) | (simp [wSub, wRun, wNar, wFil, wCan, wLst, wCar, wDr]; done) | (simp [wSub, wRun, wNar, wFil, wCan, wLst, wCar, wDr]; omega))
                    have D9 := DJ_put D8 hM64 (by omega)
                    refine uX1_standsAsFactor_170 ?_
                    exact k _ _ fM (by first | omega | assumption | with_reducible exact rng_ld _ _ _ | with_reducible exact rng_yand _ _ | with_reducible exact rng_yor _ _ | with_reducible exact rng_zcmp _ _ | with_reducible exact yand7 _ | with_reducible exact rng_toInt _ | with_reducible exact yarr23 (by omega) | with_reducible exact yarr57 (by omega) | with_reducible exact Or.inl rfl | with_reducible exact Or.inr rfl) (fun _ => D9)
                  · skip
                    refine uX1_standsAsFactor_145 ?_
                    intro M65 hM65
                    replace fM := fr.put fM hM65 (by first | omega | (dsimp only [wSub, wRun, wNar, wFil, wCan, wLst, wCar, wDr]; done) | (dsimp only [wSub, wRun, wNar, wFil, wCan, wLst, wCar, wDr]; omega) | (simp [wSub, wRun, wNar, wFil, wCan, wLst, wCar, wDr]; done) | (simp [wSub, wRun, wNar, wFil, wCan, wLst, wCar, wDr]; omega))
                    have D7 := DJ_put D1 hM65 (by omega)
                    refine uX1_standsAsFactor_160 ?_
                    refine c1_write  (by first | exact D7.2.1 | exact D1.2.1) (fun M66 fM66 p66a => ?_)
                    replace fM := fM.tr fM66 (by intro o j hw; first | omega | exact hw | (dsimp only [wSub, wRun, wNar, wFil, wCan, wLst, wCar, wDr] at hw; dsimp only [wSub, wRun, wNar, wFil, wCan, wLst, wCar, wDr]; omega) | (dsimp only [wSub, wRun, wNar, wFil, wCan, wLst, wCar, wDr]; omega) | (dsimp only [wSub, wRun, wNar, wFil, wCan, wLst, wCar, wDr] at hw; omega) | (simp [wSub, wRun, wNar, wFil, wCan, wLst, wCar, wDr] at hw; simp [wSub, wRun, wNar, wFil, wCan, wLst, wCar, wDr]; omega))
                    have D8 := DJ_frw (by first | exact D7 | exact D1) fM66 p66a
                    refine uX1_standsAsFactor_165 ?_
                    intro M67 hM67
                    replace fM := fr.put fM hM67 (by first | omega | (dsimp only [wSub, wRun, wNar, wFil, wCan, wLst, wCar, wDr]; done) | (dsimp only [wSub, wRun, wNar, wFil, wCan, wLst, wCar, wDr]; omega) | (simp [wSub, wRun, wNar, wFil, wCan, wLst, wCar, wDr]; done) | (simp [wSub, wRun, wNar, wFil, wCan, wLst, wCar, wDr]; omega))
                    have D9 := DJ_put D8 hM67 (by omega)
                    refine uX1_standsAsFactor_170 ?_
                    exact k _ _ fM (by first | omega | assumption | with_reducible exact rng_ld _ _ _ | with_reducible exact rng_yand _ _ | with_reducible exact rng_yor _ _ | with_reducible exact rng_zcmp _ _ | with_reducible exact yand7 _ | with_reducible exact rng_toInt _ | with_reducible exact yarr23 (by omega) | with_reducible exact yarr57 (by omega) | with_reducible exact Or.inl rfl | with_reducible exact Or.inr rfl) (fun _ => D9)
                · skip
                  refine uX1_standsAsFactor_121 (by first | omega | assumption | with_reducible exact rng_ld _ _ _ | with_reducible exact rng_yand _ _ | with_reducible exact rng_yor _ _ | with_reducible exact rng_zcmp _ _ | with_reducible exact yand7 _ | with_reducible exact rng_toInt _ | with_reducible exact yarr23 (by omega) | with_reducible exact yarr57 (by omega) | with_reducible exact Or.inl rfl | with_reducible exact Or.inr rfl) (fun hc => ?_) (fun hc => ?_)
                  · skip
                    refine uX1_standsAsFactor_140 (by first | omega | assumption | with_reducible exact rng_ld _ _ _ | with_reducible exact rng_yand _ _ | with_reducible exact rng_yor _ _ | with_reducible exact rng_zcmp _ _ | with_reducible exact yand7 _ | with_reducible exact rng_toInt _ | with_reducible exact yarr23 (by omega) | with_reducible exact yarr57 (by omega) | with_reducible exact Or.inl rfl | with_reducible exact Or.inr rfl) (fun hc => ?_) (fun hc => ?_)
                    · skip
                      refine uX1_standsAsFactor_160 ?_
                      refine c1_write  (by first | exact D7.2.1 | exact D1.2.1) (fun M68 fM68 p68a => ?_)
                      replace fM := fM.tr fM68 (by intro o j hw; first | omega | exact hw | (dsimp only [wSub, wRun, wNar, wFil, wCan, wLst, wCar, wDr] at hw; dsimp only [wSub, wRun, wNar, wFil, wCan, wLst, wCar, wDr]; omega) | (dsimp only [wSub, wRun, wNar, wFil, wCan, wLst, wCar, wDr]; omega) | (dsimp only [wSub, wRun, wNar, wFil, wCan, wLst, wCar, wDr] at hw; omega) | (simp [wSub, wRun, wNar, wFil, wCan, wLst, wCar, wDr] at hw; simp [wSub, wRun, wNar, wFil, wCan, wLst, wCar, wDr]; omega))
                      have D8 := DJ_frw (by first | exact D7 | exact D1) fM68 p68a
                      refine uX1_standsAsFactor_165 ?_
                      intro M69 hM69
                      replace fM := fr.put fM hM69 (by first | omega | (dsimp only [wSub, wRun, wNar, wFil, wCan, wLst, wCar, wDr]; done) | (dsimp only [wSub, wRun, wNar, wFil, wCan, wLst, wCar, wDr]; omega) | (simp [wSub, wRun, wNar, wFil, wCan, wLst, wCar, wDr]; done) | (simp [wSub, wRun, wNar, wFil, wCan, wLst, wCar, wDr]; omega))
                      have D9 := DJ_put D8 hM69 (by omega)
                      refine uX1_standsAsFactor_170 ?_
                      exact k _ _ fM (by first | omega | assumption | with_reducible exact rng_ld _ _ _ | with_reducible exact rng_yand _ _ | with_reducible exact rng_yor _ _ | with_reducible exact rng_zcmp _ _ | with_reducible exact yand7 _ | with_reducible exact rng_toInt _ | with_reducible exact yarr23 (by omega) | with_reducible exact yarr57 (by omega) | with_reducible exact Or.inl rfl | with_reducible exact Or.inr rfl) (fun _ => D9)
                    · skip
                      refine uX1_standsAsFactor_145 ?_
                      intro M70 hM70
                      replace fM := fr.put fM hM70 (by first | omega | (dsimp only [wSub, wRun, wNar, wFil, wCan, wLst, wCar, wDr]; done) | (dsimp only [wSub, wRun, wNar, wFil, wCan, wLst, wCar, wDr]; omega) | (simp [wSub, wRun, wNar, wFil, wCan, wLst, wCar, wDr]; done) | (simp [wSub, wRun, wNar, wFil, wCan, wLst, wCar, wDr]; omega))
                      have D7 := DJ_put D1 hM70 (by omega)
                      refine uX1_standsAsFactor_160 ?_
                      refine c1_write  (by first | exact D7.2.1 | exact D1.2.1) (fun M71 fM71 p71a => ?_)
                      replace fM := fM.tr fM71 (by intro o j hw; first | omega | exact hw | (dsimp only [wSub, wRun, wNar, wFil, wCan, wLst, wCar, wDr] at hw; dsimp only [wSub, wRun, wNar, wFil, wCan, wLst, wCar, wDr]; omega) | (dsimp only [wSub, wRun, wNar, wFil, wCan, wLst, wCar, wDr]; omega) | (dsimp only [wSub, wRun, wNar, wFil, wCan, wLst, wCar, wDr] at hw; omega) | (simp [wSub, wRun, wNar, wFil, wCan, wLst, wCar, wDr] at hw; simp [wSub, wRun, wNar, wFil, wCan, wLst, wCar, wDr]; omega))
                      have D8 := DJ_frw (by first | exact D7 | exact D1) fM71 p71a
                      refine uX1_standsAsFactor_165 ?_
                      intro M72 hM72
                      replace fM := fr.put fM hM72 (by first | omega | (dsimp only [wSub, wRun, wNar, wFil, wCan, wLst, wCar, wDr]; done) | (dsimp only [wSub, wRun, wNar, wFil, wCan, wLst, wCar, wDr]; omega) | (simp [wSub, wRun, wNar, wFil, wCan, wLst, wCar, wDr]; done) | (simp [wSub, wRun, wNar, wFil, wCan, wLst, wCar, wDr]; omega))
                      have D9 := DJ_put D8 hM72 (by omega)
                      refine uX1_standsAsFactor_170 ?_
                      exact k _ _ fM (by first | omega | assumption | with_reducible exact rng_ld _ _ _ | with_reducible exact rng_yand _ _ | with_reducible exact rng_yor _ _ | with_reducible exact rng_zcmp _ _ | with_reducible exact yand7 _ | with_reducible exact rng_toInt _ | with_reducible exact yarr23 (by omega) | with_reducible exact yarr57 (by omega) | with_reducible exact Or.inl rfl | with_reducible exact Or.inr rfl) (fun _ => D9)
                  · skip
                    refine uX1_standsAsFactor_126 (by first | omega | assumption | with_reducible exact rng_ld _ _ _ | with_reducible exact rng_yand _ _ | with_reducible exact rng_yor _ _ | with_reducible exact rng_zcmp _ _ | with_reducible exact yand7 _ | with_reducible exact rng_toInt _ | with_reducible exact yarr23 (by omega) | with_reducible exact yarr57 (by omega) | with_reducible exact Or.inl rfl | with_reducible exact Or.inr rfl) (fun hc => ?_) (fun hc => ?_)
                    · skip
                      refine uX1_standsAsFactor_140 (by first | omega | assumption | with_reducible exact rng_ld _ _ _ | with_reducible exact rng_yand _ _ | with_reducible exact rng_yor _ _ | with_reducible exact rng_zcmp _ _ | with_reducible exact yand7 _ | with_reducible exact rng_toInt _ | with_reducible exact yarr23 (by omega) | with_reducible exact yarr57 (by omega) | with_reducible exact Or.inl rfl | with_reducible exact Or.inr rfl) (fun hc => ?_) (fun hc => ?_)
                      · skip
                        refine uX1_standsAsFactor_160 ?_
                        refine c1_write  (by first | exact D7.2.1 | exact D1.2.1) (fun M73 fM73 p73a => ?_)
                        replace fM := fM.tr fM73 (by intro o j hw; first | omega | exact hw | (dsimp only [wSub, wRun, wNar, wFil, wCan, wLst, wCar, wDr] at hw; dsimp only [wSub, wRun, wNar, wFil, wCan, wLst, wCar, wDr]; omega) | (dsimp only [wSub, wRun, wNar, wFil, wCan, wLst, wCar, wDr]; omega) | (dsimp only [wSub, wRun, wNar, wFil, wCan, wLst, wCar, wDr] at hw; omega) | (simp [wSub, wRun, wNar, wFil, wCan, wLst, wCar, wDr] at hw; simp [wSub, wRun, wNar, wFil, wCan, wLst, wCar, wDr]; omega))
                        have D8 := DJ_frw (by first | exact D7 | exact D1) fM73 p73a
                        refine uX1_standsAsFactor_165 ?_
                        intro M74 hM74
                        replace fM := fr.put fM hM74 (by first | omega | (dsimp only [wSub, wRun, wNar, wFil, wCan, wLst, wCar, wDr]; done) | (dsimp only [wSub, wRun, wNar, wFil, wCan, wLst, wCar, wDr]; omega) | (simp [wSub, wRun, wNar, wFil, wCan, wLst, wCar, wDr]; done) | (simp [wSub, wRun, wNar, wFil, wCan, wLst, wCar, wDr]; omega))
                        have D9 := DJ_put D8 hM74 (by omega)
                        refine uX1_standsAsFactor_170 ?_
                        exact k _ _ fM (by first | omega | assumption | with_reducible exact rng_ld _ _ _ | with_reducible exact rng_yand _ _ | with_reducible exact rng_yor _ _ | with_reducible exact rng_zcmp _ _ | with_reducible exact yand7 _ | with_reducible exact rng_toInt _ | with_reducible exact yarr23 (by omega) | with_reducible exact yarr57 (by omega) | with_reducible exact Or.inl rfl | with_reducible exact Or.inr rfl) (fun _ => D9)
                      · skip
                        refine uX1_standsAsFactor_145 ?_
                        intro M75 hM75
                        replace fM := fr.put fM hM75 (by first | omega | (dsimp only [wSub, wRun, wNar, wFil, wCan, wLst, wCar, wDr]; done) | (dsimp only [wSub, wRun, wNar, wFil, wCan, wLst, wCar, wDr]; omega) | (simp [wSub, wRun, wNar, wFil, wCan, wLst, wCar, wDr]; done) | (simp [wSub, wRun, wNar, wFil, wCan, wLst, wCar, wDr]; omega))
                        have D7 := DJ_put D1 hM75 (by omega)
                        refine uX1_standsAsFactor_160 ?_
                        refine c1_write  (by first | exact D7.2.1 | exact D1.2.1) (fun M76 fM76 p76a => ?_)
                        replace fM := fM.tr fM76 (by intro o j hw; first | omega | exact hw | (dsimp only [wSub, wRun, wNar, wFil, wCan, wLst, wCar, wDr] at hw; dsimp only [wSub, wRun, wNar, wFil, wCan, wLst, wCar, wDr]; omega) | (dsimp only [wSub, wRun, wNar, wFil, wCan, wLst, wCar, wDr]; omega) | (dsimp only [wSub, wRun, wNar, wFil, wCan, wLst, wCar, wDr] at hw; omega) | (simp [wSub, wRun, wNar, wFil, wCan, wLst, wCar, wDr] at hw; simp [wSub, wRun, wNar, wFil, wCan, wLst, wCar, wDr]; omega))
                        have D8 := DJ_frw (by first | exact D7 | exact D1) fM76 p76a
                        refine uX1_standsAsFactor_165 ?_
                        intro M77 hM77
                        replace fM := fr.put fM hM77 (by first | omega | (dsimp only [wSub, wRun, wNar, wFil, wCan, wLst, wCar, wDr]; done) | (dsimp only [wSub, wRun, wNar, wFil, wCan, wLst, wCar, wDr]; omega) | (simp [wSub, wRun, wNar, wFil, wCan, wLst, wCar, wDr]; done) | (simp [wSub, wRun, wNar, wFil, wCan, wLst, wCar, wDr]; omega))
                        have D9 := DJ_put D8 hM77 (by omega)
                        refine uX1_standsAsFactor_170 ?_
                        exact k _ _ fM (by first | omega | assumption | with_reducible exact rng_ld _ _ _ | with_reducible exact rng_yand _ _ | with_reducible exact rng_yor _ _ | with_reducible exact rng_zcmp _ _ | with_reducible exact yand7 _ | with_reducible exact rng_toInt _ | with_reducible exact yarr23 (by omega) | with_reducible exact yarr57 (by omega) | with_reducible exact Or.inl rfl | with_reducible exact Or.inr rfl) (fun _ => D9)
                    · skip
                      refine uX1_standsAsFactor_132 (by first | omega | assumption | with_reducible exact rng_ld _ _ _ | with_reducible exact rng_yand _ _ | with_reducible exact rng_yor _ _ | with_reducible exact rng_zcmp _ _ | with_reducible exact yand7 _ | with_reducible exact rng_toInt _ | with_reducible exact yarr23 (by omega) | with_reducible exact yarr57 (by omega) | with_reducible exact Or.inl rfl | with_reducible exact Or.inr rfl) (fun hc => ?_) (fun hc => ?_)
                      · skip
                        refine uX1_standsAsFactor_140 (by first | omega | assumption | with_reducible exact rng_ld _ _ _ | with_reducible exact rng_yand _ _ | with_reducible exact rng_yor _ _ | with_reducible exact rng_zcmp _ _ | with_reducible exact yand7 _ | with_reducible exact rng_toInt _ | with_reducible exact yarr23 (by omega) | with_reducible exact yarr57 (by omega) | with_reducible exact Or.inl rfl | with_reducible exact Or.inr rfl) (fun hc => ?_) (fun hc => ?_)
                        · skip
                          refine uX1_standsAsFactor_160 ?_
                          refine c1_write  (by first | exact D7.2.1 | exact D1.2.1) (fun M78 fM78 p78a => ?_)
                          replace fM := fM.tr fM78 (by intro o j hw; first | omega | exact hw | (dsimp only [wSub, wRun, wNar, wFil, wCan, wLst, wCar, wDr] at hw; dsimp only [wSub, wRun, wNar, wFil, wCan, wLst, wCar, wDr]; omega) | (dsimp only [wSub, wRun, wNar, wFil, wCan, wLst, wCar, wDr]; omega) | (dsimp only [wSub, wRun, wNar, wFil, wCan, wLst, wCar, wDr] at hw; omega) | (simp [wSub, wRun, wNar, wFil, wCan, wLst, wCar, wDr] at hw; simp [wSub, wRun, wNar, wFil, wCan, wLst, wCar, wDr]; omega))
                          have D8 := DJ_frw (by first | exact D7 | exact D1) fM78 p78a
                          refine uX1_standsAsFactor_165 ?_
                          intro M79 hM79
                          replace fM := fr.put fM hM79 (by first | omega | (dsimp only [wSub, wRun, wNar, wFil, wCan, wLst, wCar, wDr]; done) | (dsimp only [wSub, wRun, wNar, wFil, wCan, wLst, wCar, wDr]; omega) | (simp [wSub, wRun, wNar, wFil, wCan, wLst, wCar, wDr]; done) | (simp [wSub, wRun, wNar, wFil, wCan, wLst, wCar, wDr]; omega))
                          have D9 := DJ_put D8 hM79 (by omega)
                          refine uX1_standsAsFactor_170 ?_
                          exact k _ _ fM (by first | omega | assumption | with_reducible exact rng_ld _ _ _ | with_reducible exact rng_yand _ _ | with_reducible exact rng_yor _ _ | with_reducible exact rng_zcmp _ _ | with_reducible exact yand7 _ | with_reducible exact rng_toInt _ | with_reducible exact yarr23 (by omega) | with_reducible exact yarr57 (by omega) | with_reducible exact Or.inl rfl | with_reducible exact Or.inr rfl) (fun _ => D9)
                        · skip
                          refine uX1_standsAsFactor_145 ?_
                          intro M80 hM80
                          replace fM := fr.put fM hM80 (by first | omega | (dsimp only [wSub, wRun, wNar, wFil, wCan, wLst, wCar, wDr]; done) | (dsimp only [wSub, wRun, wNar, wFil, wCan, wLst, wCar, wDr]; omega) | (simp [wSub, wRun, wNar, wFil, wCan, wLst, wCar, wDr]; done) | (simp [wSub, wRun, wNar, wFil, wCan, wLst, wCar, wDr]; omega))
                          have D7 := DJ_put D1 hM80 (by omega)
                          refine uX1_standsAsFactor_160 ?_
                          refine c1_write  (by first | exact D7.2.1 | exact D1.2.1) (fun M81 fM81 p81a => ?_)
                          replace fM := fM.tr fM81 (by intro o j hw; first | omega | exact hw | (dsimp only [wSub, wRun, wNar, wFil, wCan, wLst, wCar, wDr] at hw; dsimp only [wSub, wRun, wNar, wFil, wCan, wLst, wCar, wDr]; omega) | (dsimp only [wSub, wRun, wNar, wFil, wCan, wLst, wCar, wDr]; omega) | (dsimp only [wSub, wRun, wNar, wFil, wCan, wLst, wCar, wDr] at hw; omega) | (simp [wSub, wRun, wNar, wFil, wCan, wLst, wCar, wDr] at hw; simp [wSub, wRun, wNar, wFil, wCan, wLst, wCar, wDr]; omega))
                          have D8 := DJ_frw (by first | exact D7 | exact D1) fM81 p81a
                          refine uX1_standsAsFactor_165 ?_
                          intro M82 hM82
                          replace fM := fr.put fM hM82 (by first | omega | (dsimp only [wSub, wRun, wNar, wFil, wCan, wLst, wCar, wDr]; done) | (dsimp only [wSub, wRun, wNar, wFil, wCan, wLst, wCar, wDr]; omega) | (simp [wSub, wRun, wNar, wFil, wCan, wLst, wCar, wDr]; done) | (simp [wSub, wRun, wNar, wFil, wCan, wLst, wCar, wDr]; omega))
                          have D9 := DJ_put D8 hM82 (by omega)
                          refine uX1_standsAsFactor_170 ?_
                          exact k _ _ fM (by first | omega | assumption | with_reducible exact rng_ld _ _ _ | with_reducible exact rng_yand _ _ | with_reducible exact rng_yor _ _ | with_reducible exact rng_zcmp _ _ | with_reducible exact yand7 _ | with_reducible exact rng_toInt _ | with_reducible exact yarr23 (by omega) | with_reducible exact yarr57 (by omega) | with_reducible exact Or.inl rfl | with_reducible exact Or.inr rfl) (fun _ => D9)
                      · skip
                        refine uX1_standsAsFactor_138 ?_
                        exact k _ _ fM (by first | omega | assumption | with_reducible exact rng_ld _ _ _ | with_reducible exact rng_yand _ _ | with_reducible exact rng_yor _ _ | with_reducible exact rng_zcmp _ _ | with_reducible exact yand7 _ | with_reducible exact rng_toInt _ | with_reducible exact yarr23 (by omega) | with_reducible exact yarr57 (by omega) | with_reducible exact Or.inl rfl | with_reducible exact Or.inr rfl) (fun e => absurd e (by decide))
              · skip
                refine uX1_standsAsFactor_104 (by first | omega | assumption | with_reducible exact rng_ld _ _ _ | with_reducible exact rng_yand _ _ | with_reducible exact rng_yor _ _ | with_reducible exact rng_zcmp _ _ | with_reducible exact yand7 _ | with_reducible exact rng_toInt _ | with_reducible exact yarr23 (by omega) | with_reducible exact yarr57 (by omega) | with_reducible exact Or.inl rfl | with_reducible exact Or.inr rfl) (fun hc => ?_) (fun hc => ?_)
                · skip
                  refine uX1_standsAsFactor_114 ?_
                  refine uX1_standsAsFactor_115 (by first | omega | assumption | with_reducible exact rng_ld _ _ _ | with_reducible exact rng_yand _ _ | with_reducible exact rng_yor _ _ | with_reducible exact rng_zcmp _ _ | with_reducible exact yand7 _ | with_reducible exact rng_toInt _ | with_reducible exact yarr23 (by omega) | with_reducible exact yarr57 (by omega) | with_reducible exact Or.inl rfl | with_reducible exact Or.inr rfl) (fun hc => ?_) (fun hc => ?_)
                  · skip
                    refine uX1_standsAsFactor_140 (by first | omega | assumption | with_reducible exact rng_ld _ _ _ | with_reducible exact rng_yand _ _ | with_reducible exact rng_yor _ _ | with_reducible exact rng_zcmp _ _ | with_reducible exact yand7 _ | with_reducible exact rng_toInt _ | with_reducible exact yarr23 (by omega) | with_reducible exact yarr57 (by omega) | with_reducible exact Or.inl rfl | with_reducible exact Or.inr rfl) (fun hc => ?_) (fun hc => ?_)
                    · skip
                      refine uX1_standsAsFactor_160 ?_
                      refine c1_write  (by first | exact D7.2.1 | exact D1.2.1) (fun M83 fM83 p83a => ?_)
                      replace fM := fM.tr fM83 (by intro o j hw; first | omega | exact hw | (dsimp only [wSub, wRun, wNar, wFil, wCan, wLst, wCar, wDr] at hw; dsimp only [wSub, wRun, wNar, wFil, wCan, wLst, wCar, wDr]; omega) | (dsimp only [wSub, wRun, wNar, wFil, wCan, wLst, wCar, wDr]; omega) | (dsimp only [wSub, wRun, wNar, wFil, wCan, wLst, wCar, wDr] at hw; omega) | (simp [wSub, wRun, wNar, wFil, wCan, wLst, wCar, wDr] at hw; simp [wSub, wRun, wNar, wFil, wCan, wLst, wCar, wDr]; omega))
                      have D8 := DJ_frw (by first | exact D7 | exact D1) fM83 p83a
                      refine uX1_standsAsFactor_165 ?_
                      intro M84 hM84
                      replace fM := fr.put fM hM84 (by first | omega | (dsimp only [wSub, wRun, wNar, wFil, wCan, wLst, wCar, wDr]; done) | (dsimp only [wSub, wRun, wNar, wFil, wCan, wLst, wCar, wDr]; omega) | (simp [wSub, wRun, wNar, wFil, wCan, wLst, wCar, wDr]; done) | (simp [wSub, wRun, wNar, wFil, wCan, wLst, wCar, wDr]; omega))
                      have D9 := DJ_put D8 hM84 (by omega)
                      refine uX1_standsAsFactor_170 ?_
                      exact k _ _ fM (by first | omega | assumption | with_reducible exact rng_ld _ _ _ | with_reducible exact rng_yand _ _ | with_reducible exact rng_yor _ _ | with_reducible exact rng_zcmp _ _ | with_reducible exact yand7 _ | with_reducible exact rng_toInt _ | with_reducible exact yarr23 (by omega) | with_reducible exact yarr57 (by omega) | with_reducible exact Or.inl rfl | with_reducible exact Or.inr rfl) (fun _ => D9)
                    · skip
                      refine uX1_standsAsFactor_145 ?_
                      intro M85 hM85
                      replace fM := fr.put fM hM85 (by first | omega | (dsimp only [wSub, wRun, wNar, wFil, wCan, wLst, wCar, wDr]; done) | (dsimp only [wSub, wRun, wNar, wFil, wCan, wLst, wCar, wDr]; omega) | (simp [wSub, wRun, wNar, wFil, wCan, wLst, wCar, wDr]; done) | (simp [wSub, wRun, wNar, wFil, wCan, wLst, wCar, wDr]; omega))
                      have D7 := DJ_put D1 hM85 (by omega)
                      refine uX1_standsAsFactor_160 ?_
                      refine c1_write  (by first | exact D7.2.1 | exact D1.2.1) (fun M86 fM86 p86a => ?_)
                      replace fM := fM.tr fM86 (by intro o j hw; first | omega | exact hw | (dsimp only [wSub, wRun, wNar, wFil, wCan, wLst, wCar, wDr] at hw; dsimp only [wSub, wRun, wNar, wFil, wCan, wLst, wCar, wDr]; omega) | (dsimp only [wSub, wRun, wNar, wFil, wCan, wLst, wCar, wDr]; omega) | (dsimp only [wSub, wRun, wNar, wFil, wCan, wLst, wCar, wDr] at hw; omega) | (simp [wSub, wRun, wNar, wFil, wCan, wLst, wCar, wDr] at hw; simp [wSub, wRun, wNar, wFil, wCan, wLst, wCar, wDr]; omega))
                      have D8 := DJ_frw (by first | exact D7 | exact D1) fM86 p86a
                      refine uX1_standsAsFactor_165 ?_
                      intro M87 hM87
                      replace fM := fr.put fM hM87 (by first | omega | (dsimp only [wSub, wRun, wNar, wFil, wCan, wLst, wCar, wDr]; done) | (dsimp only [wSub, wRun, wNar, wFil, wCan, wLst, wCar, wDr]; omega) | (simp [wSub, wRun, wNar, wFil, wCan, wLst, wCar, wDr]; done) | (simp [wSub, wRun, wNar, wFil, wCan, wLst, wCar, wDr]; omega))
                      have D9 := DJ_put D8 hM87 (by omega)
                      refine uX1_standsAsFactor_170 ?_
                      exact k _ _ fM (by first | omega | assumption | with_reducible exact rng_ld _ _ _ | with_reducible exact rng_yand _ _ | with_reducible exact rng_yor _ _ | with_reducible exact rng_zcmp _ _ | with_reducible exact yand7 _ | with_reducible exact rng_toInt _ | with_reducible exact yarr23 (by omega) | with_reducible exact yarr57 (by omega) | with_reducible exact Or.inl rfl | with_reducible exact Or.inr rfl) (fun _ => D9)
                  · skip
                    refine uX1_standsAsFactor_121 (by first | omega | assumption | with_reducible exact rng_ld _ _ _ | with_reducible exact rng_yand _ _ | with_reducible exact rng_yor _ _ | with_reducible exact rng_zcmp _ _ | with_reducible exact yand7 _ | with_reducible exact rng_toInt _ | with_reducible exact yarr23 (by omega) | with_reducible exact yarr57 (by omega) | with_reducible exact Or.inl rfl | with_reducible exact Or.inr rfl) (fun hc => ?_) (fun hc => ?_)
                    · skip
                      refine uX1_standsAsFactor_140 (by first | omega | assumption | with_reducible exact rng_ld _ _ _ | with_reducible exact rng_yand _ _ | with_reducible exact rng_yor _ _ | with_reducible exact rng_zcmp _ _ | with_reducible exact yand7 _ | with_reducible exact rng_toInt _ | with_reducible exact yarr23 (by omega) | with_reducible exact yarr57 (by omega) | with_reducible exact Or.inl rfl | with_reducible exact Or.inr rfl) (fun hc => ?_) (fun hc => ?_)
                      · skip
                        refine uX1_standsAsFactor_160 ?_
                        refine c1_write  (by first | exact D7.2.1 | exact D1.2.1) (fun M88 fM88 p88a => ?_)
                        replace fM := fM.tr fM88 (by intro o j hw; first | omega | exact hw | (dsimp only [wSub, wRun, wNar, wFil, wCan, wLst, wCar, wDr] at hw; dsimp only [wSub, wRun, wNar, wFil, wCan, wLst, wCar, wDr]; omega) | (dsimp only [wSub, wRun, wNar, wFil, wCan, wLst, wCar, wDr]; omega) | (dsimp only [wSub, wRun, wNar, wFil, wCan, wLst, wCar, wDr] at hw; omega) | (simp [wSub, wRun, wNar, wFil, wCan, wLst, wCar, wDr] at hw; simp [wSub, wRun, wNar, wFil, wCan, wLst, wCar, wDr]; omega))
                        have D8 := DJ_frw (by first | exact D7 | exact D1) fM88 p88a
                        refine uX1_standsAsFactor_165 ?_
                        intro M89 hM89
                        replace fM := fr.put fM hM89 (by first | omega | (dsimp only [wSub, wRun, wNar, wFil, wCan, wLst, wCar, wDr]; done) | (dsimp only [wSub, wRun, wNar, wFil, wCan, wLst, wCar, wDr]; omega) | (simp [wSub, wRun, wNar, wFil, wCan, wLst, wCar, wDr]; done) | (simp [wSub, wRun, wNar, wFil, wCan, wLst, wCar, wDr]; omega))
                        have D9 := DJ_put D8 hM89 (by omega)
                        refine uX1_standsAsFactor_170 ?_
                        exact k _ _ fM (by first | omega | assumption | with_reducible exact rng_ld _ _ _ | with_reducible exact rng_yand _ _ | with_reducible exact rng_yor _ _ | with_reducible exact rng_zcmp _ _ | with_reducible exact yand7 _ | with_reducible exact rng_toInt _ | with_reducible exact yarr23 (by omega) | with_reducible exact yarr57 (by omega) | with_reducible exact Or.inl rfl | with_reducible exact Or.inr rfl) (fun _ => D9)
                      · skip
                        refine uX1_standsAsFactor_145 ?_
                        intro M90 hM90
                        replace fM := fr.put fM hM90 (by first | omega | (dsimp only [wSub, wRun, wNar, wFil, wCan, wLst, wCar, wDr]; done) | (dsimp only [wSub, wRun, wNar, wFil, wCan, wLst, wCar, wDr]; omega) | (simp [wSub, wRun, wNar, wFil, wCan, wLst, wCar, wDr]; done) | (simp [wSub, wRun, wNar, wFil, wCan, wLst, wCar, wDr]; omega))
                        have D7 := DJ_put D1 hM90 (by omega)
                        refine uX1_standsAsFactor_160 ?_
                        refine c1_write  (by first | exact D7.2.1 | exact D1.2.1) (fun M91 fM91 p91a => ?_)
                        replace fM := fM.tr fM91 (by intro o j hw; first | omega | exact hw | (dsimp only [wSub, wRun, wNar, wFil, wCan, wLst, wCar, wDr] at hw; dsimp only [wSub, wRun, wNar, wFil, wCan, wLst, wCar, wDr]; omega) | (dsimp only [wSub, wRun, wNar, wFil, wCan, wLst, wCar, wDr]; omega) | (dsimp only [wSub, wRun, wNar, wFil, wCan, wLst, wCar, wDr] at hw; omega) | (simp [wSub, wRun, wNar, wFil, wCan, wLst, wCar, wDr] at hw; simp [wSub, wRun, wNar, wFil, wCan, wLst, wCar, wDr]; omega))
                        have D8 := DJ_frw (by first | exact D7 | exact D1) fM91 p91a
                        refine uX1_standsAsFactor_165 ?_
                        intro M92 hM92
                        replace fM := fr.put fM hM92 (by first | omega | (dsimp only [wSub, wRun, wNar, wFil, wCan, wLst, wCar, wDr]; done) | (dsimp only [wSub, wRun, wNar, wFil, wCan, wLst, wCar, wDr]; omega) | (simp [wSub, wRun, wNar, wFil, wCan, wLst, wCar, wDr]; done) | (simp [wSub, wRun, wNar, wFil, wCan, wLst, wCar, wDr]; omega))
                        have D9 := DJ_put D8 hM92 (by omega)
                        refine uX1_standsAsFactor_170 ?_
                        exact k _ _ fM (by first | omega | assumption | with_reducible exact rng_ld _ _ _ | with_reducible exact rng_yand _ _ | with_reducible exact rng_yor _ _ | with_reducible exact rng_zcmp _ _ | with_reducible exact yand7 _ | with_reducible exact rng_toInt _ | with_reducible exact yarr23 (by omega) | with_reducible exact yarr57 (by omega) | with_reducible exact Or.inl rfl | with_reducible exact Or.inr rfl) (fun _ => D9)
                    · skip
                      refine uX1_standsAsFactor_126 (by first | omega | assumption | with_reducible exact rng_ld _ _ _ | with_reducible exact rng_yand _ _ | with_reducible exact rng_yor _ _ | with_reducible exact rng_zcmp _ _ | with_reducible exact yand7 _ | with_reducible exact rng_toInt _ | with_reducible exact yarr23 (by omega) | with_reducible exact yarr57 (by omega) | with_reducible exact Or.inl rfl | with_reducible exact Or.inr rfl) (fun hc => ?_) (fun hc => ?_)
                      · skip
                        refine uX1_standsAsFactor_140 (by first | omega | assumption | with_reducible exact rng_ld _ _ _ | with_reducible exact rng_yand _ _ | with_reducible exact rng_yor _ _ | with_reducible exact rng_zcmp _ _ | with_reducible exact yand7 _ | with_reducible exact rng_toInt _ | with_reducible exact yarr23 (by omega) | with_reducible exact yarr57 (by omega) | with_reducible exact Or.inl rfl | with_reducible exact Or.inr rfl) (fun hc => ?_) (fun hc => ?_)
                        · skip
                          refine uX1_standsAsFactor_160 ?_
                          refine c1_write  (by first | exact D7.2.1 | exact D1.2.1) (fun M93 fM93 p93a => ?_)
                          replace fM := fM.tr fM93 (by intro o j hw; first | omega | exact hw | (dsimp only [wSub, wRun, wNar, wFil, wCan, wLst, wCar, wDr] at hw; dsimp only [wSub, wRun, wNar, wFil, wCan, wLst, wCar, wDr]; omega) | (dsimp only [wSub, wRun, wNar, wFil, wCan, wLst, wCar, wDr]; omega) | (dsimp only [wSub, wRun, wNar, wFil, wCan, wLst, wCar, wDr] at hw; omega) | (simp [wSub, wRun, wNar, wFil, wCan, wLst, wCar, wDr] at hw; simp [wSub, wRun, wNar, wFil, wCan, wLst, wCar, wDr]; omega))
                          have D8 := DJ_frw (by first | exact D7 | exact D1) fM93 p93a
                          refine uX1_standsAsFactor_165 ?_
                          intro M94 hM94
                          replace fM := fr.put fM hM94 (by first | omega | (dsimp only [wSub, wRun, wNar, wFil, wCan, wLst, wCar, wDr]; done) | (dsimp only [wSub, wRun, wNar, wFil, wCan, wLst, wCar, wDr]; omega) | (simp [wSub, wRun, wNar, wFil, wCan, wLst, wCar, wDr]; done) | (simp [wSub, wRun, wNar, wFil, wCan, wLst, wCar, wDr]; omega))
                          have D9 := DJ_put D8 hM94 (by omega)
                          refine uX1_standsAsFactor_170 ?_
                          exact k _ _ fM (by first | omega | assumption | with_reducible exact rng_ld _ _ _ | with_reducible exact rng_yand _ _ | with_reducible exact rng_yor _ _ | with_reducible exact rng_zcmp _ _ | with_reducible exact yand7 _ | with_reducible exact rng_toInt _ | with_reducible exact yarr23 (by omega) | with_reducible exact yarr57 (by omega) | with_reducible exact Or.inl rfl | with_reducible exact Or.inr rfl) (fun _ => D9)
                        · skip
                          refine uX1_standsAsFactor_145 ?_
                          intro M95 hM95
                          replace fM := fr.put fM hM95 (by first | omega | (dsimp only [wSub, wRun, wNar, wFil, wCan, wLst, wCar, wDr]; done) | (dsimp only [wSub, wRun, wNar, wFil, wCan, wLst, wCar, wDr]; omega) | (simp [wSub, wRun, wNar, wFil, wCan, wLst, wCar, wDr]; done) | (simp [wSub, wRun, wNar, wFil, wCan, wLst, wCar, wDr]; omega))
                          have D7 := DJ_put D1 hM95 (by omega)
                          refine uX1_standsAsFactor_160 ?_
                          refine c1_write  (by first | exact D7.2.1 | exact D1.2.1) (fun M96 fM96 p96a => ?_)
                          replace fM := fM.tr fM96 (by intro o j hw; first | omega | exact hw | (dsimp only [wSub, wRun, wNar, wFil, wCan, wLst, wCar, wDr] at hw; dsimp only [wSub, wRun, wNar, wFil, wCan, wLst, wCar, wDr]; omega) | (dsimp only [wSub, wRun, wNar, wFil, wCan, wLst, wCar, wDr]; omega) | (dsimp only [wSub, wRun, wNar, wFil, wCan, wLst, wCar, wDr] at hw; omega) | (simp [wSub, wRun, wNar, wFil, wCan, wLst, wCar, wDr] at hw; simp [wSub, wRun, wNar, wFil, wCan, wLst, wCar, wDr]; omega))
                          have D8 := DJ_frw (by first | exact D7 | exact D1) fM96 p96a
                          refine uX1_standsAsFactor_165 ?_
                          intro M97 hM97
                          replace fM := fr.put fM hM97 (by first | omega | (dsimp only [wSub, wRun, wNar, wFil, wCan, wLst, wCar, wDr]; done) | (dsimp only [wSub, wRun, wNar, wFil, wCan, wLst, wCar, wDr]; omega) | (simp [wSub, wRun, wNar, wFil, wCan, wLst, wCar, wDr]; done) | (simp [wSub, wRun, wNar, wFil, wCan, wLst, wCar, wDr]; omega))
                          have D9 := DJ_put D8 hM97 (by omega)
                          refine uX1_standsAsFactor_170 ?_
                          exact k _ _ fM (by first | omega | assumption | with_reducible exact rng_ld _ _ _ | with_reducible exact rng_yand _ _ | with_reducible exact rng_yor _ _ | with_reducible exact rng_zcmp _ _ | with_reducible exact yand7 _ | with_reducible exact rng_toInt _ | with_reducible exact yarr23 (by omega) | with_reducible exact yarr57 (by omega) | with_reducible exact Or.inl rfl | with_reducible exact Or.inr rfl) (fun _ => D9)
                      · skip
                        refine uX1_standsAsFactor_132 (by first | omega | assumption | with_reducible exact rng_ld _ _ _ | with_reducible exact rng_yand _ _ | with_reducible exact rng_yor _ _ | with_reducible exact rng_zcmp _ _ | with_reducible exact yand7 _ | with_reducible exact rng_toInt _ | with_reducible exact yarr23 (by omega) | with_reducible exact yarr57 (by omega) | with_reducible exact Or.inl rfl | with_reducible exact Or.inr rfl) (fun hc => ?_) (fun hc => ?_)
                        · skip
                          refine uX1_standsAsFactor_140 (by first | omega | assumption | with_reducible exact rng_ld _ _ _ | with_reducible exact rng_yand _ _ | with_reducible exact rng_yor _ _ | with_reducible exact rng_zcmp _ _ | with_reducible exact yand7 _ | with_reducible exact rng_toInt _ | with_reducible exact yarr23 (by omega) | with_reducible exact yarr57 (by omega) | with_reducible exact Or.inl rfl | with_reducible exact Or.inr rfl) (fun hc => ?_) (fun hc => ?_)
                          · skip
                            refine uX1_standsAsFactor_160 ?_
                            refine c1_write  (by first | exact D7.2.1 | exact D1.2.1) (fun M98 fM98 p98a => ?_)
                            replace fM := fM.tr fM98 (by intro o j hw; first | omega | exact hw | (dsimp only [wSub, wRun, wNar, wFil, wCan, wLst, wCar, wDr] at hw; dsimp only [wSub, wRun, wNar, wFil, wCan, wLst, wCar, wDr]; omega) | (dsimp only [wSub, wRun, wNar, wFil, wCan, wLst, wCar, wDr]; omega) | (dsimp only [wSub, wRun, wNar, wFil, wCan, wLst, wCar, wDr] at hw; omega) | (simp [wSub, wRun, wNar, wFil, wCan, wLst, wCar, wDr] at hw; simp [wSub, wRun, wNar, wFil, wCan, wLst, wCar, wDr]; omega))
                            have D8 := DJ_frw (by first | exact D7 | exact D1) fM98 p98a
                            refine uX1_standsAsFactor_165 ?_
                            intro M99 hM99
                            replace fM := fr.put fM hM99 (by first | omega | (dsimp only [wSub, wRun, wNar, wFil, wCan, wLst, wCar, wDr]; done) | (dsimp only [wSub, wRun, wNar, wFil, wCan, wLst, wCar, wDr]; omega) | (simp [wSub, wRun, wNar, wFil, wCan, wLst, wCar, wDr]; done) | (simp [wSub, wRun, wNar, wFil, wCan, wLst, wCar, wDr]; omega))
                            have D9 := DJ_put D8 hM99 (by omega)
                            refine uX1_standsAsFactor_170 ?_
                            exact k _ _ fM (by first | omega | assumption | with_reducible exact rng_ld _ _ _ | with_reducible exact rng_yand _ _ | with_reducible exact rng_yor _ _ | with_reducible exact rng_zcmp _ _ | with_reducible exact yand7 _ | with_reducible exact rng_toInt _ | with_reducible exact yarr23 (by omega) | with_reducible exact yarr57 (by omega) | with_reducible exact Or.inl rfl | with_reducible exact Or.inr rfl) (fun _ => D9)
                          · skip
                            refine uX1_standsAsFactor_145 ?_
                            intro M100 hM100
                            replace fM := fr.put fM hM100 (by first | omega | (dsimp only [wSub, wRun, wNar, wFil, wCan, wLst, wCar, wDr]; done) | (dsimp only [wSub, wRun, wNar, wFil, wCan, wLst, wCar, wDr]; omega) | (simp [wSub, wRun, wNar, wFil, wCan, wLst, wCar, wDr]; done) | (simp [wSub, wRun, wNar, wFil, wCan, wLst, wCar, wDr]; omega))
                            have D7 := DJ_put D1 hM100 (by omega)
                            refine uX1_standsAsFactor_160 ?_
                            refine c1_write  (by first | exact D7.2.1 | exact D1.2.1) (fun M101 fM101 p101a => ?_)
                            replace fM := fM.tr fM101 (by intro o j hw; first | omega | exact hw | (dsimp only [wSub, wRun, wNar, wFil, wCan, wLst, wCar, wDr] at hw; dsimp only [wSub, wRun, wNar, wFil, wCan, wLst, wCar, wDr]; omega) | (dsimp only [wSub, wRun, wNar, wFil, wCan, wLst, wCar, wDr]; omega) | (dsimp only [wSub, wRun, wNar, wFil, wCan, wLst, wCar, wDr] at hw; omega) | (simp [wSub, wRun, wNar, wFil, wCan, wLst, wCar, wDr] at hw; simp [wSub, wRun, wNar, wFil, wCan, wLst, wCar, wDr]; omega))
                            have D8 := DJ_frw (by first | exact D7 | exact D1) fM101 p101a
                            refine uX1_standsAsFactor_165 ?_
                            intro M102 hM102
                            replace fM := fr.put fM hM102 (by first | omega | (dsimp only [wSub, wRun, wNar, wFil, wCan, wLst, wCar, wDr]; done) | (dsimp only [wSub, wRun, wNar, wFil, wCan, wLst, wCar, wDr]; omega) | (simp [wSub, wRun, wNar, wFil, wCan, wLst, wCar, wDr]; done) | (simp [wSub, wRun, wNar, wFil, wCan, wLst, wCar, wDr]; omega))
                            have D9 := DJ_put D8 hM102 (by omega)
                            refine uX1_standsAsFactor_170 ?_
                            exact k _ _ fM (by first | omega | assumption | with_reducible exact rng_ld _ _ _ | with_reducible exact rng_yand _ _ | with_reducible exact rng_yor _ _ | with_reducible exact rng_zcmp _ _ | with_reducible exact yand7 _ | with_reducible exact rng_toInt _ | with_reducible exact yarr23 (by omega) | with_reducible exact yarr57 (by omega) | with_reducible exact Or.inl rfl | with_reducible exact Or.inr rfl) (fun _ => D9)
                        · skip
                          refine uX1_standsAsFactor_138 ?_
                          exact k _ _ fM (by first | omega | assumption | with_reducible exact rng_ld _ _ _ | with_reducible exact rng_yand _ _ | with_reducible exact rng_yor _ _ | with_reducible exact rng_zcmp _ _ | with_reducible exact yand7 _ | with_reducible exact rng_toInt _ | with_reducible exact yarr23 (by omega) | with_reducible exact yarr57 (by omega) | with_reducible exact Or.inl rfl | with_reducible exact Or.inr rfl) (fun e => absurd e (by decide))
                · skip
                  refine uX1_standsAsFactor_110 ?_
                  refine uX1_standsAsFactor_115 (by first | omega | assumption | with_reducible exact rng_ld _ _ _ | with_reducible exact rng_yand _ _ | with_reducible exact rng_yor _ _ | with_reducible exact rng_zcmp _ _ | with_reducible exact yand7 _ | with_reducible exact rng_toInt _ | with_reducible exact yarr23 (by omega) | with_reducible exact yarr57 (by omega) | with_reducible exact Or.inl rfl | with_reducible exact Or.inr rfl) (fun hc => ?_) (fun hc => ?_)
                  · skip
                    refine uX1_standsAsFactor_140 (by first | omega | assumption | with_reducible exact rng_ld _ _ _ | with_reducible exact rng_yand _ _ | with_reducible exact rng_yor _ _ | with_reducible exact rng_zcmp _ _ | with_reducible exact yand7 _ | with_reducible exact rng_toInt _ | with_reducible exact yarr23 (by omega) | with_reducible exact yarr57 (by omega) | with_reducible exact Or.inl rfl | with_reducible exact Or.inr rfl) (fun hc => ?_) (fun hc => ?_)
                    · skip
                      refine uX1_standsAsFactor_160 ?_
                      refine c1_write  (by first | exact D7.2.1 | exact D1.2.1) (fun M103 fM103 p103a => ?_)
                      replace fM := fM.tr fM103 (by intro o j hw; first | omega | exact hw | (dsimp only [wSub, wRun, wNar, wFil, wCan, wLst, wCar, wDr] at hw; dsimp only [wSub, wRun, wNar, wFil, wCan, wLst, wCar, wDr]; omega) | (dsimp only [wSub, wRun, wNar, wFil, wCan, wLst, wCar, wDr]; omega) | (dsimp only [wSub, wRun, wNar, wFil, wCan, wLst, wCar, wDr] at hw; omega) | (simp [wSub, wRun, wNar, wFil, wCan, wLst, wCar, wDr] at hw; simp [wSub, wRun, wNar, wFil, wCan, wLst, wCar, wDr]; omega))
                      have D8 := DJ_frw (by first | exact D7 | exact D1) fM103 p103a
                      refine uX1_standsAsFactor_165 ?_
                      intro M104 hM104
                      replace fM := fr.put fM hM104 (by first | omega | (dsimp only [wSub, wRun, wNar, wFil, wCan, wLst, wCar, wDr]; done) | (dsimp only [wSub, wRun, wNar, wFil, wCan, wLst, wCar, wDr]; omega) | (simp [wSub, wRun, wNar, wFil, wCan, wLst, wCar, wDr]; done) | (simp [wSub, wRun, wNar, wFil, wCan, wLst, wCar, wDr]; omega))
                      have D9 := DJ_put D8 hM104 (by omega)
                      refine uX1_standsAsFactor_170 ?_
                      exact k _ _ fM (by first | omega | assumption | with_reducible exact rng_ld _ _ _ | with_reducible exact rng_yand _ _ | with_reducible exact rng_yor _ _ | with_reducible exact rng_zcmp _ _ | with_reducible exact yand7 _ | with_reducible exact rng_toInt _ | with_reducible exact yarr23 (by omega) | with_reducible exact yarr57 (by omega) | with_reducible exact Or.inl rfl | with_reducible exact Or.inr rfl) (fun _ => D9)
                    · skip
                      refine uX1_standsAsFactor_145 ?_
                      intro M105 hM105
                      replace fM := fr.put fM hM105 (by first | omega | (dsimp only [wSub, wRun, wNar, wFil, wCan, wLst, wCar, wDr]; done) | (dsimp only [wSub, wRun, wNar, wFil, wCan, wLst, wCar, wDr]; omega) | (simp [wSub, wRun, wNar, wFil, wCan, wLst, wCar, wDr]; done) | (simp [wSub, wRun, wNar, wFil, wCan, wLst, wCar, wDr]; omega))
                      have D7 := DJ_put D1 hM105 (by omega)
                      refine uX1_standsAsFactor_160 ?_
                      refine c1_write  (by first | exact D7.2.1 | exact D1.2.1) (fun M106 fM106 p106a => ?_)
                      replace fM := fM.tr fM106 (by intro o j hw; first | omega | exact hw | (dsimp only [wSub, wRun, wNar, wFil, wCan, wLst, wCar, wDr] at hw; dsimp only [wSub, wRun, wNar, wFil, wCan, wLst, wCar, wDr]; omega) | (dsimp only [wSub, wRun, wNar, wFil, wCan, wLst, wCar, wDr]; omega) | (dsimp only [wSub, wRun, wNar, wFil, wCan, wLst, wCar, wDr] at hw; omega) | (simp [wSub, wRun, wNar, wFil, wCan, wLst, wCar, wDr] at hw; simp [wSub, wRun, wNar, wFil, wCan, wLst, wCar, wDr]; omega))
                      have D8 := DJ_frw (by first | exact D7 | exact D1) fM106 p106a
                      refine uX1_standsAsFactor_165 ?_
                      intro M107 hM107
                      replace fM := fr.put fM hM107 (by first | omega | (dsimp only [wSub, wRun, wNar, wFil, wCan, wLst, wCar, wDr]; done) | (dsimp only [wSub, wRun, wNar, wFil, wCan, wLst, wCar, wDr]; omega) | (simp [wSub, wRun, wNar, wFil, wCan, wLst, wCar, wDr]; done) | (simp [wSub, wRun, wNar, wFil, wCan, wLst, wCar, wDr]; omega))
                      have D9 := DJ_put D8 hM107 (by omega)
                      refine uX1_standsAsFactor_170 ?_
                      exact k _ _ fM (by first | omega | assumption | with_reducible exact rng_ld _ _ _ | with_reducible exact rng_yand _ _ | with_reducible exact rng_yor _ _ | with_reducible exact rng_zcmp _ _ | with_reducible exact yand7 _ | with_reducible exact rng_toInt _ | with_reducible exact yarr23 (by omega) | with_reducible exact yarr57 (by omega) | with_reducible exact Or.inl rfl | with_reducible exact Or.inr rfl) (fun _ => D9)
                  · skip
                    refine uX1_standsAsFactor_121 (by first | omega | assumption | with_reducible exact rng_ld _ _ _ | with_reducible exact rng_yand _ _ | with_reducible exact rng_yor _ _ | with_reducible exact rng_zcmp _ _ | with_reducible exact yand7 _ | with_reducible exact rng_toInt _ | with_reducible exact yarr23 (by omega) | with_reducible exact yarr57 (by omega) | with_reducible exact Or.inl rfl | with_reducible exact Or.inr rfl) (fun hc => ?_) (fun hc => ?_)
                    · skip
                      refine uX1_standsAsFactor_140 (by first | omega | assumption | with_reducible exact rng_ld _ _ _ | with_reducible exact rng_yand _ _ | with_reducible exact rng_yor _ _ | with_reducible exact rng_zcmp _ _ | with_reducible exact yand7 _ | with_reducible exact rng_toInt _ | with_reducible exact yarr23 (by omega) | with_reducible exact yarr57 (by omega) | with_reducible exact Or.inl rfl | with_reducible exact Or.inr rfl) (fun hc => ?_) (fun hc => ?_)
                      · skip
                        refine uX1_standsAsFactor_160 ?_
                        refine c1_write  (by first | exact D7.2.1 | exact D1.2.1) (fun M108 fM108 p108a => ?_)
                        replace fM := fM.tr fM108 (by intro o j hw; first | omega | exact hw | (dsimp only [wSub, wRun, wNar, wFil, wCan, wLst, wCar, wDr] at hw; dsimp only [wSub, wRun, wNar, wFil, wCan, wLst, wCar, wDr]; omega) | (dsimp only [wSub, wRun, wNar, wFil, wCan, wLst, wCar, wDr]; omega) | (dsimp only [wSub, wRun, wNar, wFil, wCan, wLst, wCar, wDr] at hw; omega) | (simp [wSub, wRun, wNar, wFil, wCan, wLst, wCar, wDr] at hw; simp [wSub, wRun, wNar, wFil, wCan, wLst, wCar, wDr]; omega))
                        have D8 := DJ_frw (by first | exact D7 | exact D1) fM108 p108a
                        refine uX1_standsAsFactor_165 ?_
                        intro M109 hM109
                        replace fM := fr.put fM hM109 (by first | omega | (dsimp only [wSub, wRun, wNar, wFil, wCan, wLst, wCar, wDr]; done) | (dsimp only [wSub, wRun, wNar, wFil, wCan, wLst, wCar, wDr]; omega) | (simp [wSub, wRun, wNar, wFil, wCan, wLst, wCar, wDr]; done) | (simp [wSub, wRun, wNar, wFil, wCan, wLst, wCar, wDr]; omega))
                        have D9 := DJ_put D8 hM109 (by omega)
                        refine uX1_standsAsFactor_170 ?_
                        exact k _ _ fM (by first | omega | assumption | with_reducible exact rng_ld _ _ _ | with_reducible exact rng_yand _ _ | with_reducible exact rng_yor _ _ | with_reducible exact rng_zcmp _ _ | with_reducible exact yand7 _ | with_reducible exact rng_toInt _ | with_reducible exact yarr23 (by omega) | with_reducible exact yarr57 (by omega) | with_reducible exact Or.inl rfl | with_reducible exact Or.inr rfl) (fun _ => D9)
                      · skip
                        refine uX1_standsAsFactor_145 ?_
                        intro M110 hM110
                        replace fM := fr.put fM hM110 (by first | omega | (dsimp only [wSub, wRun, wNar, wFil, wCan, wLst, wCar, wDr]; done) | (dsimp only [wSub, wRun, wNar, wFil, wCan, wLst, wCar, wDr]; omega) | (simp [wSub, wRun, wNar, wFil, wCan, wLst, wCar, wDr]; done) | (simp [wSub, wRun, wNar, wFil, wCan, wLst, wCar, wDr]; omega))
                        have D7 := DJ_put D1 hM110 (by omega)
                        refine uX1_standsAsFactor_160 ?_
                        refine c1_write  (by first | exact D7.2.1 | exact D1.2.1) (fun M111 fM111 p111a => ?_)
                        replace fM := fM.tr fM111 (by intro o j hw; first | omega | exact hw | (dsimp only [wSub, wRun, wNar, wFil, wCan, wLst, wCar, wDr] at hw; dsimp only [wSub, wRun, wNar, wFil, wCan, wLst, wCar, wDr]; omega) | (dsimp only [wSub, wRun, wNar, wFil, wCan, wLst, wCar, wDr]; omega) | (dsimp only [wSub, wRun, wNar, wFil, wCan, wLst, wCar, wDr] at hw; omega) | (simp [wSub, wRun, wNar, wFil, wCan, wLst, wCar, wDr] at hw; simp [wSub, wRun, wNar, wFil, wCan, wLst, wCar, wDr]; omega))
                        have D8 := DJ_frw (by first | exact D7 | exact D1) fM111 p111a
                        refine uX1_standsAsFactor_165 ?_
                        intro M112 hM112
                        replace fM := fr.put fM hM112 (by first | omega | (dsimp only [wSub, wRun, wNar, wFil, wCan, wLst, wCar, wDr]; done) | (dsimp only [wSub, wRun, wNar, wFil, wCan, wLst, wCar, wDr]; omega) | (simp [wSub, wRun, wNar, wFil, wCan, wLst, wCar, wDr]; done) | (simp [wSub, wRun, wNar, wFil, wCan, wLst, wCar, wDr]; omega))
                        have D9 := DJ_put D8 hM112 (by omega)
                        refine uX1_standsAsFactor_170 ?_
                        exact k _ _ fM (by first | omega | assumption | with_reducible exact rng_ld _ _ _ | with_reducible exact rng_yand _ _ | with_reducible exact rng_yor _ _ | with_reducible exact rng_zcmp _ _ | with_reducible exact yand7 _ | with_reducible exact rng_toInt _ | with_reducible exact yarr23 (by omega) | with_reducible exact yarr57 (by omega) | with_reducible exact Or.inl rfl | with_reducible exact Or.inr rfl) (fun _ => D9)
                    · skip
                      refine uX1_standsAsFactor_126 (by first | omega | assumption | with_reducible exact rng_ld _ _ _ | with_reducible exact rng_yand _ _ | with_reducible exact rng_yor _ _ | with_reducible exact rng_zcmp _ _ | with_reducible exact yand7 _ | with_reducible exact rng_toInt _ | with_reducible exact yarr23 (by omega) | with_reducible exact yarr57 (by omega) | with_reducible exact Or.inl rfl | with_reducible exact Or.inr rfl) (fun hc => ?_) (fun hc => ?_)
                      · skip
                        refine uX1_standsAsFactor_140 (by first | omega | assumption | with_reducible exact rng_ld _ _ _ | with_reducible exact rng_yand _ _ | with_reducible exact rng_yor _ _ | with_reducible exact rng_zcmp _ _ | with_reducible exact yand7 _ | with_reducible exact rng_toInt _ | with_reducible exact yarr23 (by omega) | with_reducible exact yarr57 (by omega) | with_reducible exact Or.inl rfl | with_reducible exact Or.inr rfl) (fun hc => ?_) (fun hc => ?_)
                        · skip
                          refine uX1_standsAsFactor_160 ?_
                          refine c1_write  (by first | exact D7.2.1 | exact D1.2.1) (fun M113 fM113 p113a => ?_)
                          replace fM := fM.tr fM113 (by intro o j hw; first | omega | exact hw | (dsimp only [wSub, wRun, wNar, wFil, wCan, wLst, wCar, wDr] at hw; dsimp only [wSub, wRun, wNar, wFil, wCan, wLst, wCar, wDr]; omega) | (dsimp only [wSub, wRun, wNar, wFil, wCan, wLst, wCar, wDr]; omega) | (dsimp only [wSub, wRun, wNar, wFil, wCan, wLst, wCar, wDr] at hw; omega) | (simp [wSub, wRun, wNar, wFil, wCan, wLst, wCar, wDr] at hw; simp [wSub, wRun, wNar, wFil, wCan, wLst, wCar, wDr]; omega))
                          have D8 := DJ_frw (by first | exact D7 | exact D1) fM113 p113a
                          refine uX1_standsAsFactor_165 ?_
                          intro M114 hM114
                          replace fM := fr.put fM hM114 (by first | omega | (dsimp only [wSub, wRun, wNar, wFil, wCan, wLst, wCar, wDr]; done) | (dsimp only [wSub, wRun, wNar, wFil, wCan, wLst, wCar, wDr]; omega) | (simp [wSub, wRun, wNar, wFil, wCan, wLst, wCar, wDr]; done) | (simp [wSub, wRun, wNar, wFil, wCan, wLst, wCar, wDr]; omega))
                          have D9 := DJ_put D8 hM114 (by omega)
                          refine uX1_standsAsFactor_170 ?_
                          exact k _ _ fM (by first | omega | assumption | with_reducible exact rng_ld _ _ _ | with_reducible exact rng_yand _ _ | with_reducible exact rng_yor _ _ | with_reducible exact rng_zcmp _ _ | with_reducible exact yand7 _ | with_reducible exact rng_toInt _ | with_reducible exact yarr23 (by omega) | with_reducible exact yarr57 (by omega) | with_reducible exact Or.inl rfl | with_reducible exact Or.inr rfl) (fun _ => D9)
                        · skip
                          refine uX1_standsAsFactor_145 ?_
                          intro M115 hM115
                          replace fM := fr.put fM hM115 (by first | omega | (dsimp only [wSub, wRun, wNar, wFil, wCan, wLst, wCar, wDr]; done) | (dsimp only [wSub, wRun, wNar, wFil, wCan, wLst, wCar, wDr]; omega) | (simp [wSub, wRun, wNar, wFil, wCan, wLst, wCar, wDr]; done) | (simp [wSub, wRun, wNar, wFil, wCan, wLst, wCar, wDr]; omega))
                          have D7 := DJ_put D1 hM115 (by omega)
                          refine uX1_standsAsFactor_160 ?_
                          refine c1_write  (by first | exact D7.2.1 | exact D1.2.1) (fun M116 fM116 p116a => ?_)
                          replace fM := fM.tr fM116 (by intro o j hw; first | omega | exact hw | (dsimp only [wSub, wRun, wNar, wFil, wCan, wLst, wCar, wDr] at hw; dsimp only [wSub, wRun, wNar, wFil, wCan, wLst, wCar, wDr]; omega) | (dsimp only [wSub, wRun, wNar, wFil, wCan, wLst, wCar, wDr]; omega) | (dsimp only [wSub, wRun, wNar, wFil, wCan, wLst, wCar, wDr] at hw; omega) | (simp [wSub, wRun, wNar, wFil, wCan, wLst, wCar, wDr] at hw; simp [wSub, wRun, wNar, wFil, wCan, wLst, wCar, wDr]; omega))
                          have D8 := DJ_frw (by first | exact D7 | exact D1) fM116 p116a
                          refine uX1_standsAsFactor_165 ?_
                          intro M117 hM117
                          replace fM := fr.put fM hM117 (by first | omega | (dsimp only [wSub, wRun, wNar, wFil, wCan, wLst, wCar, wDr]; done) | (dsimp only [wSub, wRun, wNar, wFil, wCan, wLst, wCar, wDr]; omega) | (simp [wSub, wRun, wNar, wFil, wCan, wLst, wCar, wDr]; done) | (simp [wSub, wRun, wNar, wFil, wCan, wLst, wCar, wDr]; omega))
                          have D9 := DJ_put D8 hM117 (by omega)
                          refine uX1_standsAsFactor_170 ?_
                          exact k _ _ fM (by first | omega | assumption | with_reducible exact rng_ld _ _ _ | with_reducible exact rng_yand _ _ | with_reducible exact rng_yor _ _ | with_reducible exact rng_zcmp _ _ | with_reducible exact yand7 _ | with_reducible exact rng_toInt _ | with_reducible exact yarr23 (by omega) | with_reducible exact yarr57 (by omega) | with_reducible exact Or.inl rfl | with_reducible exact Or.inr rfl) (fun _ => D9)
                      · skip
                        refine uX1_standsAsFactor_132 (by first | omega | assumption | with_reducible exact rng_ld _ _ _ | with_reducible exact rng_yand _ _ | with_reducible exact rng_yor _ _ | with_reducible exact rng_zcmp _ _ | with_reducible exact yand7 _ | with_reducible exact rng_toInt _ | with_reducible exact yarr23 (by omega) | with_reducible exact yarr57 (by omega) | with_reducible exact Or.inl rfl | with_reducible exact Or.inr rfl) (fun hc => ?_) (fun hc => ?_)
                        · skip
                          refine uX1_standsAsFactor_140 (by first | omega | assumption | with_reducible exact rng_ld _ _ _ | with_reducible exact rng_yand _ _ | with_reducible exact rng_yor _ _ | with_reducible exact rng_zcmp _ _ | with_reducible exact yand7 _ | with_reducible exact rng_toInt _ | with_reducible exact yarr23 (by omega) | with_reducible exact yarr57 (by omega) | with_reducible exact Or.inl rfl | with_reducible exact Or.inr rfl) (fun hc => ?_) (fun hc => ?_)
                          · skip
                            refine uX1_standsAsFactor_160 ?_
                            refine c1_write  (by first | exact D7.2.1 | exact D1.2.1) (fun M118 fM118 p118a => ?_)
                            replace fM := fM.tr fM118 (by intro o j hw; first | omega | exact hw | (dsimp only [wSub, wRun, wNar, wFil, wCan, wLst, wCar, wDr] at hw; dsimp only [wSub, wRun, wNar, wFil, wCan, wLst, wCar, wDr]; omega) | (dsimp only [wSub, wRun, wNar, wFil, wCan, wLst, wCar, wDr]; omega) | (dsimp only [wSub, wRun, wNar, wFil, wCan, wLst, wCar, wDr] at hw; omega) | (simp [wSub, wRun, wNar, wFil, wCan, wLst, wCar, wDr] at hw; simp [wSub, wRun, wNar, wFil, wCan, wLst, wCar, wDr]; omega))
                            have D8 := DJ_frw (by first | exact D7 | exact D1) fM118 p118a
                            refine uX1_standsAsFactor_165 ?_
                            intro M119 hM119
                            replace fM := fr.put fM hM119 (by first | omega | (dsimp only [wSub, wRun, wNar, wFil, wCan, wLst, wCar, wDr]; done) | (dsimp only [wSub, wRun, wNar, wFil, wCan, wLst, wCar, wDr]; omega) | (simp [wSub, wRun, wNar, wFil, wCan, wLst, wCar, wDr]; done) | (simp [wSub, wRun, wNar, wFil, wCan, wLst, wCar, wDr]; omega))
                            have D9 := DJ_put D8 hM119 (by omega)
                            refine uX1_standsAsFactor_170 ?_
                            exact k _ _ fM (by first | omega | assumption | with_reducible exact rng_ld _ _ _ | with_reducible exact rng_yand _ _ | with_reducible exact rng_yor _ _ | with_reducible exact rng_zcmp _ _ | with_reducible exact yand7 _ | with_reducible exact rng_toInt _ | with_reducible exact yarr23 (by omega) | with_reducible exact yarr57 (by omega) | with_reducible exact Or.inl rfl | with_reducible exact Or.inr rfl) (fun _ => D9)
                          · skip
                            refine uX1_standsAsFactor_145 ?_
                            intro M120 hM120
                            replace fM := fr.put fM hM120 (by first | omega | (dsimp only [wSub, wRun, wNar, wFil, wCan, wLst, wCar, wDr]; done) | (dsimp only [wSub, wRun, wNar, wFil, wCan, wLst, wCar, wDr]; omega) | (simp [wSub, wRun, wNar, wFil, wCan, wLst, wCar, wDr]; done) | (simp [wSub, wRun, wNar, wFil, wCan, wLst, wCar, wDr]; omega))
                            have D7 := DJ_put D1 hM120 (by omega)
                            refine uX1_standsAsFactor_160 ?_
                            refine c1_write  (by first | exact D7.2.1 | exact D1.2.1) (fun M121 fM121 p121a => ?_)
                            replace fM := fM.tr fM121 (by intro o j hw; first | omega | exact hw | (dsimp only [wSub, wRun, wNar, wFil, wCan, wLst, wCar, wDr] at hw; dsimp only [wSub, wRun, wNar, wFil, wCan, wLst, wCar, wDr]; omega) | (dsimp only [wSub, wRun, wNar, wFil, wCan, wLst, wCar, wDr]; omega) | (dsimp only [wSub, wRun, wNar, wFil, wCan, wLst, wCar, wDr] at hw; omega) | (simp [wSub, wRun, wNar, wFil, wCan, wLst, wCar, wDr] at hw; simp [wSub, wRun, wNar, wFil, wCan, wLst, wCar, wDr]; omega))
                            have D8 := DJ_frw (by first | exact D7 | exact D1) fM121 p121a
                            refine uX1_standsAsFactor_165 ?_
                            intro M122 hM122
                            replace fM := fr.put fM hM122 (by first | omega | (dsimp only [wSub, wRun, wNar, wFil, wCan, wLst, wCar, wDr]; done) | (dsimp only [wSub, wRun, wNar, wFil, wCan, wLst, wCar, wDr]; omega) | (simp [wSub, wRun, wNar, wFil, wCan, wLst, wCar, wDr]; done) | (simp [wSub, wRun, wNar, wFil, wCan, wLst, wCar, wDr]; omega))
                            have D9 := DJ_put D8 hM122 (by omega)
                            refine uX1_standsAsFactor_170 ?_
                            exact k _ _ fM (by first | omega | assumption | with_reducible exact rng_ld _ _ _ | with_reducible exact rng_yand _ _ | with_reducible exact rng_yor _ _ | with_reducible exact rng_zcmp _ _ | with_reducible exact yand7 _ | with_reducible exact rng_toInt _ | with_reducible exact yarr23 (by omega) | with_reducible exact yarr57 (by omega) | with_reducible exact Or.inl rfl | with_reducible exact Or.inr rfl) (fun _ => D9)
                        · skip
                          refine uX1_standsAsFactor_138 ?_
                          exact k _ _ fM (by first | omega | assumption | with_reducible exact rng_ld _ _ _ | with_reducible exact rng_yand _ _ | with_reducible exact rng_yor _ _ | with_reducible exact rng_zcmp _ _ | with_reducible exact yand7 _ | with_reducible exact rng_toInt _ | with_reducible exact yarr23 (by omega) | with_reducible exact yarr57 (by omega) | with_reducible exact Or.inl rfl | with_reducible exact Or.inr rfl) (fun e => absurd e (by decide))
            · skip
              refine uX1_standsAsFactor_92 ?_
              refine uX1_standsAsFactor_97 (by first | omega | assumption | with_reducible exact rng_ld _ _ _ | with_reducible exact rng_yand _ _ | with_reducible exact rng_yor _ _ | with_reducible exact rng_zcmp _ _ | with_reducible exact yand7 _ | with_reducible exact rng_toInt _ | with_reducible exact yarr23 (by omega) | with_reducible exact yarr57 (by omega) | with_reducible exact Or.inl rfl | with_reducible exact Or.inr rfl) (fun hc => ?_) (fun hc => ?_)
              · skip
                refine uX1_standsAsFactor_114 ?_
                refine uX1_standsAsFactor_115 (by first | omega | assumption | with_reducible exact rng_ld _ _ _ | with_reducible exact rng_yand _ _ | with_reducible exact rng_yor _ _ | with_reducible exact rng_zcmp _ _ | with_reducible exact yand7 _ | with_reducible exact rng_toInt _ | with_reducible exact yarr23 (by omega) | with_reducible exact yarr57 (by omega) | with_reducible exact Or.inl rfl | with_reducible exact Or.inr rfl) (fun hc => ?_) (fun hc => ?_)
                · skip
                  refine uX1_standsAsFactor_140 (by first | omega | assumption | with_reducible exact rng_ld _ _ _ | with_reducible exact rng_yand _ _ | with_reducible exact rng_yor _ _ | with_reducible exact rng_zcmp _ _ | with_reducible exact yand7 _ | with_reducible exact rng_toInt _ | with_reducible exact yarr23 (by omega) | with_reducible exact yarr57 (by omega) | with_reducible exact Or.inl rfl | with_reducible exact Or.inr rfl) (fun hc => ?_) (fun hc => ?_)
                  · skip
                    refine uX1_standsAsFactor_160 ?_
                    refine c1_write  (by first | exact D7.2.1 | exact D1.2.1) (fun M123 fM123 p123a => ?_)
                    replace fM := fM.tr fM123 (by intro o j hw; first | omega | exact hw | (dsimp only [wSub, wRun, wNar, wFil, wCan, wLst, wCar, wDr] at hw; dsimp only [wSub, wRun, wNar, wFil, wCan, wLst, wCar, wDr]; omega) | (dsimp only [wSub, wRun, wNar, wFil, wCan, wLst, wCar, wDr]; omega) | (dsimp only [wSub, wRun, wNar, wFil, wCan, wLst, wCar, wDr] at hw; omega) | (simp [wSub, wRun, wNar, wFil, wCan, wLst, wCar, wDr] at hw; simp [wSub, wRun, wNar, wFil, wCan, wLst, wCar, wDr]; omega))
                    have D8 := DJ_frw (by first | exact D7 | exact D1) fM123 p123a
                    refine uX1_standsAsFactor_165 ?_
                    intro M124 hM124
                    replace fM := fr.put fM hM124 (by first | omega | (dsimp only [wSub, wRun, wNar, wFil, wCan, wLst, wCar, wDr]; done) | (dsimp only [wSub, wRun, wNar, wFil, wCan, wLst, wCar, wDr]; omega) | (simp [wSub, wRun, wNar, wFil, wCan, wLst, wCar, wDr]; done) | (simp [wSub, wRun, wNar, wFil, wCan, wLst, wCar, wDr]; omega))
                    have D9 := DJ_put D8 hM124 (by omega)
                    refine uX1_standsAsFactor_170 ?_
                    exact k _ _ fM (by first | omega | assumption | with_reducible exact rng_ld _ _ _ | with_reducible exact rng_yand _ _ | with_reducible exact rng_yor _ _ | with_reducible exact rng_zcmp _ _ | with_reducible exact yand7 _ | with_reducible exact rng_toInt _ | with_reducible exact yarr23 (by omega) | with_reducible exact yarr57 (by omega) | with_reducible exact Or.inl rfl | with_reducible exact Or.inr rfl) (fun _ => D9)
                  · skip
                    refine uX1_standsAsFactor_145 ?_
                    intro M125 hM125
                    replace fM := fr.put fM hM125 (by first | omega | (dsimp only [wSub, wRun, wNar, wFil, wCan, wLst, wCar, wDr]; done) | (dsimp only [wSub, wRun, wNar, wFil, wCan, wLst, wCar, wDr]; omega) | (simp [wSub, wRun, wNar, wFil, wCan, wLst, wCar, wDr]; done) | (simp [wSub, wRun, wNar, wFil, wCan, wLst, wCar, wDr]; omega))
                    have D7 := DJ_put D1 hM125 (by omega)
                    refine uX1_standsAsFactor_160 ?_
                    refine c1_write  (by first | exact D7.2.1 | exact D1.2.1) (fun M126 fM126 p126a => ?_)
                    replace fM := fM.tr fM126 (by intro o j hw; first | omega | exact hw | (dsimp only [wSub, wRun, wNar, wFil, wCan, wLst, wCar, wDr] at hw; dsimp only [wSub, wRun, wNar, wFil, wCan, wLst, wCar, wDr]; omega) | (dsimp only [wSub, wRun, wNar, wFil, wCan, wLst, wCar, wDr]; omega) | (dsimp only [wSub, wRun, wNar, wFil, wCan, wLst, wCar, wDr] at hw; omega) | (simp [wSub, wRun, wNar, wFil, wCan, wLst, wCar, wDr] at hw; simp [wSub, wRun, wNar, wFil, wCan, wLst, wCar, wDr]; omega))
                    have D8 := DJ_frw (by first | exact D7 | exact D1) fM126 p126a
                    refine uX1_standsAsFactor_165 ?_
                    intro M127 hM127
                    replace fM := fr.put fM hM127 (by first | omega | (dsimp only [wSub, wRun, wNar, wFil, wCan, wLst, wCar, wDr]; done) | (dsimp only [wSub, wRun, wNar, wFil, wCan, wLst, wCar, wDr]; omega) | (simp [wSub, wRun, wNar, wFil, wCan, wLst, wCar, wDr]; done) | (simp [wSub, wRun, wNar, wFil, wCan, wLst, wCar, wDr]; omega))
                    have D9 := DJ_put D8 hM127 (by omega)
                    refine uX1_standsAsFactor_170 ?_
                    exact k _ _ fM (by first | omega | assumption | with_reducible exact rng_ld _ _ _ | with_reducible exact rng_yand _ _ | with_reducible exact rng_yor _ _ | with_reducible exact rng_zcmp _ _ | with_reducible exact yand7 _ | with_reducible exact rng_toInt _ | with_reducible exact yarr23 (by omega) | with_reducible exact yarr57 (by omega) | with_reducible exact Or.inl rfl | with_reducible exact Or.inr rfl) (fun _ => D9)
                · skip
                  refine uX1_standsAsFactor_121 (by first | omega | assumption | with_reducible exact rng_ld _ _ _ | with_reducible exact rng_yand _ _ | with_reducible exact rng_yor _ _ | with_reducible exact rng_zcmp _ _ | with_reducible exact yand7 _ | with_reducible exact rng_toInt _ | with_reducible exact yarr23 (by omega) | with_reducible exact yarr57 (by omega) | with_reducible exact Or.inl rfl | with_reducible exact Or.inr rfl) (fun hc => ?_) (fun hc => ?_)
                  · skip
                    refine uX1_standsAsFactor_140 (by first | omega | assumption | with_reducible exact rng_ld _ _ _ | with_reducible exact rng_yand _ _ | with_reducible exact rng_yor _ _ | with_reducible exact rng_zcmp _ _ | with_reducible exact yand7 _ | with_reducible exact rng_toInt _ | with_reducible exact yarr23 (by omega) | with_reducible exact yarr57 (by omega) | with_reducible exact Or.inl rfl | with_reducible exact Or.inr rfl) (fun hc => ?_) (fun hc => ?_)
                    · skip
                      refine uX1_standsAsFactor_160 ?_
                      refine c1_write  (by first | exact D7.2.1 | exact D1.2.1) (fun M128 fM128 p128a => ?_)
                      replace fM := fM.tr fM128 (by intro o j hw; first | omega | exact hw | (dsimp only [wSub, wRun, wNar, wFil, wCan, wLst, wCar, wDr] at hw; dsimp only [wSub, wRun, wNar, wFil, wCan, wLst, wCar, wDr]; omega) | (dsimp only [wSub, wRun, wNar, wFil, wCan, wLst, wCar, wDr]; omega) | (dsimp only [wSub, wRun, wNar, wFil, wCan, wLst, wCar, wDr] at hw; omega) | (simp [wSub, wRun, wNar, wFil, wCan, wLst, wCar, wDr] at hw; simp [wSub, wRun, wNar, wFil, wCan, wLst, wCar, wDr]; omega))
                      have D8 := DJ_frw (by first | exact D7 | exact D1) fM128 p128a
                      refine uX1_standsAsFactor_165 ?_
                      intro M129 hM129
                      replace fM := fr.put fM hM129 (by first | omega | (dsimp only [wSub, wRun, wNar, wFil, wCan, wLst, wCar, wDr]; done) | (dsimp only [wSub, wRun, wNar, wFil, wCan, wLst, wCar, wDr]; omega) | (simp [wSub, wRun, wNar, wFil, wCan, wLst, wCar, wDr]; done) | (simp [wSub, wRun, wNar, wFil, wCan, wLst, wCar, wDr]; omega))
                      have D9 := DJ_put D8 hM129 (by omega)
                      refine uX1_standsAsFactor_170 ?_
                      exact k _ _ fM (by first | omega | assumption | with_reducible exact rng_ld _ _ _ | with_reducible exact rng_yand _ _ | with_reducible exact rng_yor _ _ | with_reducible exact rng_zcmp _ _ | with_reducible exact yand7 _ | with_reducible exact rng_toInt _ | with_reducible exact yarr23 (by omega) | with_reducible exact yarr57 (by omega) | with_reducible exact Or.inl rfl | with_reducible exact Or.inr rfl) (fun _ => D9)
                    · skip
                      refine uX1_standsAsFactor_145 ?_
                      intro M130 hM130
                      replace fM := fr.put fM hM130 (by first | omega | (dsimp only [wSub, wRun, wNar, wFil, wCan, wLst, wCar, wDr]; done) | (dsimp only [wSub, wRun, wNar, wFil, wCan, wLst, wCar, wDr]; omega) | (simp [wSub, wRun, wNar, wFil, wCan, wLst, wCar, wDr]; done) | (simp [wSub, wRun, wNar, wFil, wCan, wLst, wCar, wDr]; omega))
                      have D7 := DJ_put D1 hM130 (by omega)
                      refine uX1_standsAsFactor_160 ?_
                      refine c1_write  (by first | exact D7.2.1 | exact D1.2.1) (fun M131 fM131 p131a => ?_)
                      replace fM := fM.tr fM131 (by intro o j hw; first | omega | exact hw | (dsimp only [wSub, wRun, wNar, wFil, wCan, wLst, wCar, wDr] at hw; dsimp only [wSub, wRun, wNar, wFil, wCan, wLst, wCar, wDr]; omega) | (dsimp only [wSub, wRun, wNar, wFil, wCan, wLst, wCar, wDr]; omega) | (dsimp only [wSub, wRun, wNar, wFil, wCan, wLst, wCar, wDr] at hw; omega) | (simp [wSub, wRun, wNar, wFil, wCan, wLst, wCar, wDr] at hw; simp [wSub, wRun, wNar, wFil, wCan, wLst, wCar, wDr]; omega))
                      have D8 := DJ_frw (by first | exact D7 | exact D1) fM131 p131a
                      refine uX1_standsAsFactor_165 ?_
                      intro M132 hM132
                      replace fM := fr.put fM hM132 (by first | omega | (dsimp only [wSub, wRun, wNar, wFil, wCan, wLst, wCar, wDr]; done) | (dsimp only [wSub, wRun, wNar, wFil, wCan, wLst, wCar, wDr]; omega) | (simp [wSub, wRun, wNar, wFil, wCan, wLst, wCar, wDr]; done) | (simp [wSub, wRun, wNar, wFil, wCan, wLst, wCar, wDr]; omega))
                      have D9 := DJ_put D8 hM132 (by omega)
                      refine uX1_standsAsFactor_170 ?_
                      exact k _ _ fM (by first | omega | assumption | with_reducible exact rng_ld _ _ _ | with_reducible exact rng_yand _ _ | with_reducible exact rng_yor _ _ | with_reducible exact rng_zcmp _ _ | with_reducible exact yand7 _ | with_reducible exact rng_toInt _ | with_reducible exact yarr23 (by omega) | with_reducible exact yarr57 (by omega) | with_reducible exact Or.inl rfl | with_reducible exact Or.inr rfl) (fun _ => D9)
                  · skip
                    refine uX1_standsAsFactor_126 (by first | omega | assumption | with_reducible exact rng_ld _ _ _ | with_reducible exact rng_yand _ _ | with_reducible exact rng_yor _ _ | with_reducible exact rng_zcmp _ _ | with_reducible exact yand7 _ | with_reducible exact rng_toInt _ | with_reducible exact yarr23 (by omega) | with_reducible exact yarr57 (by omega) | with_reducible exact Or.inl rfl | with_reducible exact Or.inr rfl) (fun hc => ?_) (fun hc => ?_)
                    · skip
                      refine uX1_standsAsFactor_140 (by first | omega | assumption | with_reducible exact rng_ld _ _ _ | with_reducible exact rng_yand _ _ | with_reducible exact rng_yor _ _ | with_reducible exact rng_zcmp _ _ | with_reducible exact yand7 _ | with_reducible exact rng_toInt _ | with_reducible exact yarr23 (by omega) | with_reducible exact yarr57 (by omega) | with_reducible exact Or.inl rfl | with_reducible exact Or.inr rfl) (fun hc => ?_) (fun hc => ?_)
                      · skip
                        refine uX1_standsAsFactor_160 ?_
                        refine c1_write  (by first | exact D7.2.1 | exact D1.2.1) (fun M133 fM133 p133a => ?_)
                        replace fM := fM.tr fM133 (by intro o j hw; first | omega | exact hw | (dsimp only [wSub, wRun, wNar, wFil, wCan, wLst, wCar, wDr] at hw; dsimp only [wSub, wRun, wNar, wFil, wCan, wLst, wCar, wDr]; omega) | (dsimp only [wSub, wRun, wNar, wFil, wCan, wLst, wCar, wDr]; omega) | (dsimp only [wSub, wRun, wNar, wFil, wCan, wLst, wCar, wDr] at hw; omega) | (simp [wSub, wRun, wNar, wFil, wCan, wLst, wCar, wDr] at hw; simp [wSub, wRun, wNar, wFil, wCan, wLst, wCar, wDr]; omega))
                        have D8 := DJ_frw (by first | exact D7 | exact D1) fM133 p133a
                        refine uX1_standsAsFactor_165 ?_
                        intro M134 hM134
                        replace fM := fr.put fM hM134 (by first | omega | (dsimp only [wSub, wRun, wNar, wFil, wCan, wLst, wCar, wDr]; done) | (dsimp only [wSub, wRun, wNar, wFil, wCan, wLst, wCar, wDr]; omega) | (simp [wSub, wRun, wNar, wFil, wCan, wLst, wCar, wDr]; done) | (simp [wSub, wRun, wNar, wFil, wCan, wLst, wCar, wDr]; omega))
                        have D9 := DJ_put D8 hM134 (by omega)
                        refine uX1_standsAsFactor_170 ?_
                        exact k _ _ fM (by first | omega | assumption | with_reducible exact rng_ld _ _ _ | with_reducible exact rng_yand _ _ | with_reducible exact rng_yor _ _ | with_reducible exact rng_zcmp _ _ | with_reducible exact yand7 _ | with_reducible exact rng_toInt _ | with_reducible exact yarr23 (by omega) | with_reducible exact yarr57 (by omega) | with_reducible exact Or.inl rfl | with_reducible exact Or.inr rfl) (fun _ => D9)
                      · skip
                        refine uX1_standsAsFactor_145 ?_
                        intro M135 hM135
                        replace fM := fr.put fM hM135 (by first | omega | (dsimp only [wSub, wRun, wNar, wFil, wCan, wLst, wCar, wDr]; done) | (dsimp only [wSub, wRun, wNar, wFil, wCan, wLst, wCar, wDr]; omega) | (simp [wSub, wRun, wNar, wFil, wCan, wLst, wCar, wDr]; done) | (simp [wSub, wRun, wNar, wFil, wCan, wLst, wCar, wDr]; omega))
                        have D7 := DJ_put D1 hM135 (by omega)
                        refine uX1_standsAsFactor_160 ?_
                        refine c1_write  (by first | exact D7.2.1 | exact D1.2.1) (fun M136 fM136 p136a => ?_)
                        replace fM := fM.tr fM136 (by intro o j hw; first | omega | exact hw | (dsimp only [wSub, wRun, wNar, wFil, wCan, wLst, wCar, wDr] at hw; dsimp only [wSub, wRun, wNar, wFil, wCan, wLst, wCar, wDr]; omega) | (dsimp only [wSub, wRun, wNar, wFil, wCan, wLst, wCar, wDr]; omega) | (dsimp only [wSub, wRun, wNar, wFil, wCan, wLst, wCar, wDr] at hw; omega) | (simp [wSub, wRun, wNar, wFil, wCan, wLst, wCar, wDr] at hw; simp [wSub, wRun, wNar, wFil, wCan, wLst, wCar, wDr]; omega))
                        have D8 := DJ_frw (by first | exact D7 | exact D1) fM136 p136a
                        refine uX1_standsAsFactor_165 ?_
                        intro M137 hM137
                        replace fM := fr.put fM hM137 (by first | omega | (dsimp only [wSub, wRun, wNar, wFil, wCan, wLst, wCar, wDr]; done) | (dsimp only [wSub, wRun, wNar, wFil, wCan, wLst, wCar, wDr]; omega) | (simp [wSub, wRun, wNar, wFil, wCan, wLst, wCar, wDr]; done) | (simp [wSub, wRun, wNar, wFil, wCan, wLst, wCar, wDr]; omega))
                        have D9 := DJ_put D8 hM137 (by omega)
                        refine uX1_standsAsFactor_170 ?_
                        exact k _ _ fM (by first | omega | assumption | with_reducible exact rng_ld _ _ _ | with_reducible exact rng_yand _ _ | with_reducible exact rng_yor _ _ | with_reducible exact rng_zcmp _ _ | with_reducible exact yand7 _ | with_reducible exact rng_toInt _ | with_reducible exact yarr23 (by omega) | with_reducible exact yarr57 (by omega) | with_reducible exact Or.inl rfl | with_reducible exact Or.inr rfl) (fun _ => D9)
                    · skip
                      refine uX1_standsAsFactor_132 (by first | omega | assumption | with_reducible exact rng_ld _ _ _ | with_reducible exact rng_yand _ _ | with_reducible exact rng_yor _ _ | with_reducible exact rng_zcmp _ _ | with_reducible exact yand7 _ | with_reducible exact rng_toInt _ | with_reducible exact yarr23 (by omega) | with_reducible exact yarr57 (by omega) | with_reducible exact Or.inl rfl | with_reducible exact Or.inr rfl) (fun hc => ?_) (fun hc => ?_)
                      · skip
                        refine uX1_standsAsFactor_140 (by first | omega | assumption | with_reducible exact rng_ld _ _ _ | with_reducible exact rng_yand _ _ | with_reducible exact rng_yor _ _ | with_reducible exact rng_zcmp _ _ | with_reducible exact yand7 _ | with_reducible exact rng_toInt _ | with_reducible exact yarr23 (by omega) | with_reducible exact yarr57 (by omega) | with_reducible exact Or.inl rfl | with_reducible exact Or.inr rfl) (fun hc => ?_) (fun hc => ?_)
                        · skip
                          refine uX1_standsAsFactor_160 ?_
                          refine c1_write  (by first | exact D7.2.1 | exact D1.2.1) (fun M138 fM138 p138a => ?_)
                          replace fM := fM.tr fM138 (by intro o j hw; first | omega | exact hw | (dsimp only [wSub, wRun, wNar, wFil, wCan, wLst, wCar, wDr] at hw; dsimp only [wSub, wRun, wNar, wFil, wCan, wLst, wCar, wDr]; omega) | (dsimp only [wSub, wRun, wNar, wFil, wCan, wLst, wCar, wDr]; omega) | (dsimp only [wSub, wRun, wNar, wFil, wCan, wLst, wCar, wDr] at hw; omega) | (simp [wSub, wRun, wNar, wFil, wCan, wLst, wCar, wDr] at hw; simp [wSub, wRun, wNar, wFil, wCan, wLst, wCar, wDr]; omega))
                          have D8 := DJ_frw (by first | exact D7 | exact D1) fM138 p138a
                          refine uX1_standsAsFactor_165 ?_
                          intro M139 hM139
                          replace fM := fr.put fM hM139 (by first | omega | (dsimp only [wSub, wRun, wNar, wFil, wCan, wLst, wCar, wDr]; done) | (dsimp only [wSub, wRun, wNar, wFil, wCan, wLst, wCar, wDr]; omega) | (simp [wSub, wRun, wNar, wFil, wCan, wLst, wCar, wDr]; done) | (simp [wSub, wRun, wNar, wFil, wCan, wLst, wCar, wDr]; omega))
                          have D9 := DJ_put D8 hM139 (by omega)
                          refine uX1_standsAsFactor_170 ?_
                          exact k _ _ fM (by first | omega | assumption | with_reducible exact rng_ld _ _ _ | with_reducible exact rng_yand _ _ | with_reducible exact rng_yor _ _ | with_reducible exact rng_zcmp _ _ | with_reducible exact yand7 _ | with_reducible exact rng_toInt _ | with_reducible exact yarr23 (by omega) | with_reducible exact yarr57 (by omega) | with_reducible exact Or.inl rfl | with_reducible exact Or.inr rfl) (fun _ => D9)
                        · skip
                          refine uX1_standsAsFactor_145 ?_
                          intro M140 hM140
                          replace fM := fr.put fM hM140 (by first | omega | (dsimp only [wSub, wRun, wNar, wFil, wCan, wLst, wCar, wDr]; done) | (dsimp only [wSub, wRun, wNar, wFil, wCan, wLst, wCar, wDr]; omega) | (simp [wSub, wRun, wNar, wFil, wCan, wLst, wCar, wDr]; done) | (simp [wSub, wRun, wNar, wFil, wCan, wLst, wCar, wDr]; omega))
                          have D7 := DJ_put D1 hM140 (by omega)
                          refine uX1_standsAsFactor_160 ?_
                          refine c1_write  (by first | exact D7.2.1 | exact D1.2.1) (fun M141 fM141 p141a => ?_)
                          replace fM := fM.tr fM141 (by intro o j hw; first | omega | exact hw | (dsimp only [wSub, wRun, wNar, wFil, wCan, wLst, wCar, wDr] at hw; dsimp only [wSub, wRun, wNar, wFil, wCan, wLst, wCar, wDr]; omega) | (dsimp only [wSub, wRun, wNar, wFil, wCan, wLst, wCar, wDr]; omega) | (dsimp only [wSub, wRun, wNar, wFil, wCan, wLst, wCar, wDr] at hw; omega) | (simp [wSub, wRun, wNar, wFil, wCan, wLst, wCar, wDr] at hw; simp [wSub, wRun, wNar, wFil, wCan, wLst, wCar, wDr]; omega))
                          have D8 := DJ_frw (by first | exact D7 | exact D1) fM141 p141a
                          refine uX1_standsAsFactor_165 ?_
                          intro M142 hM142
                          replace fM := fr.put fM hM142 (by first | omega | (dsimp only [wSub, wRun, wNar, wFil, wCan, wLst, wCar, wDr]; done) | (dsimp only [wSub, wRun, wNar, wFil, wCan, wLst, wCar, wDr]; omega) | (simp [wSub, wRun, wNar, wFil, wCan, wLst, wCar, wDr]; done) | (simp [wSub, wRun, wNar, wFil, wCan, wLst, wCar, wDr]; omega))
                          have D9 := DJ_put D8 hM142 (by omega)
                          refine uX1_standsAsFactor_170 ?_
                          exact k _ _ fM (by first | omega | assumption | with_reducible exact rng_ld _ _ _ | with_reducible exact rng_yand _ _ | with_reducible exact rng_yor _ _ | with_reducible exact rng_zcmp _ _ | with_reducible exact yand7 _ | with_reducible exact rng_toInt _ | with_reducible exact yarr23 (by omega) | with_reducible exact yarr57 (by omega) | with_reducible exact Or.inl rfl | with_reducible exact Or.inr rfl) (fun _ => D9)
                      · skip
                        refine uX1_standsAsFactor_138 ?_
                        exact k _ _ fM (by first | omega | assumption | with_reducible exact rng_ld _ _ _ | with_reducible exact rng_yand _ _ | with_reducible exact rng_yor _ _ | with_reducible exact rng_zcmp _ _ | with_reducible exact yand7 _ | with_reducible exact rng_toInt _ | with_reducible exact yarr23 (by omega) | with_reducible exact yarr57 (by omega) | with_reducible exact Or.inl rfl | with_reducible exact Or.inr rfl) (fun e => absurd e (by decide))
              · skip
                refine uX1_standsAsFactor_104 (by first | omega | assumption | with_reducible exact rng_ld _ _ _ | with_reducible exact rng_yand _ _ | with_reducible exact rng_yor _ _ | with_reducible exact rng_zcmp _ _ | with_reducible exact yand7 _ | with_reducible exact rng_toInt _ | with_reducible exact yarr23 (by omega) | with_reducible exact yarr57 (by omega) | with_reducible exact Or.inl rfl | with_reducible exact Or.inr rfl) (fun hc => ?_) (fun hc => ?_)
                · skip
                  refine uX1_standsAsFactor_114 ?_
                  refine uX1_standsAsFactor_115 (by first | omega | assumption | with_reducible exact rng_ld _ _ _ | with_reducible exact rng_yand _ _ | with_reducible exact rng_yor _ _ | with_reducible exact rng_zcmp _ _ | with_reducible exact yand7 _ | with_reducible exact rng_toInt _ | with_reducible exact yarr23 (by omega) | with_reducible exact yarr57 (by omega) | with_reducible exact Or.inl rfl | with_reducible exact Or.inr rfl) (fun hc => ?_) (fun hc => ?_)
                  · skip
                    refine uX1_standsAsFactor_140 (by first | omega | assumption | with_reducible exact rng_ld _ _ _ | with_reducible exact rng_yand _ _ | with_reducible exact rng_yor _ _ | with_reducible exact rng_zcmp _ _ | with_reducible exact yand7 _ | with_reducible exact rng_toInt _ | with_reducible exact yarr23 (by omega) | with_reducible exact yarr57 (by omega) | with_reducible exact Or.inl rfl | with_reducible exact Or.inr rfl) (fun hc => ?_) (fun hc => ?_)
                    · skip
                      refine uX1_standsAsFactor_160 ?_
                      refine c1_write  (by first | exact D7.2.1 | exact D1.2.1) (fun M143 fM143 p143a => ?_)
                      replace fM := fM.tr fM143 (by intro o j hw; first | omega | exact hw | (dsimp only [wSub, wRun, wNar, wFil, wCan, wLst, wCar, wDr] at hw; dsimp only [wSub, wRun, wNar, wFil, wCan, wLst, wCar, wDr]; omega) | (dsimp only [wSub, wRun, wNar, wFil, wCan, wLst, wCar, wDr]; omega) | (dsimp only [wSub, wRun, wNar, wFil, wCan, wLst, wCar, wDr] at hw; omega) | (simp [wSub, wRun, wNar, wFil, wCan, wLst, wCar, wDr] at hw; simp [wSub, wRun, wNar, wFil, wCan, wLst, wCar, wDr]; omega))
                      have D8 := DJ_frw (by first | exact D7 | exact D1) fM143 p143a
                      refine uX1_standsAsFactor_165 ?_
                      intro M144 hM144
                      replace fM := fr.put fM hM144 (by first | omega | (dsimp only [wSub, wRun, wNar, wFil, wCan, wLst, wCar, wDr]; done) | (dsimp only [wSub, wRun, wNar, wFil, wCan, wLst, wCar, wDr]; omega) | (simp [wSub, wRun, wNar, wFil, wCan, wLst, wCar, wDr]; done) | (simp [wSub, wRun, wNar, wFil, wCan, wLst, wCar, wDr]; omega))
                      have D9 := DJ_put D8 hM144 (by omega)
                      refine uX1_standsAsFactor_170 ?_
                      exact k _ _ fM (by first | omega | assumption | with_reducible exact rng_ld _ _ _ | with_reducible exact rng_yand _ _ | with_reducible exact rng_yor _ _ | with_reducible exact rng_zcmp _ _ | with_reducible exact yand7 _ | with_reducible exact rng_toInt _ | with_reducible exact yarr23 (by omega) | with_reducible exact yarr57 (by omega) | with_reducible exact Or.inl rfl | with_reducible exact Or.inr rfl) (fun _ => D9)
                    · skip
                      refine uX1_standsAsFactor_145 ?_
                      intro M145 hM145
                      replace fM := fr.put fM hM145 (by first | omega | (dsimp only [wSub, wRun, wNar, wFil, wCan, wLst, wCar, wDr]; done) | (dsimp only [wSub, wRun, wNar, wFil, wCan, wLst, wCar, wDr]; omega) | (simp [wSub, wRun, wNar, wFil, wCan, wLst, wCar, wDr]; done) | (simp [wSub, wRun, wNar, wFil, wCan, wLst, wCar, wDr]; omega))
                      have D7 := DJ_put D1 hM145 (by omega)
                      refine uX1_standsAsFactor_160 ?_
                      refine c1_write  (by first | exact D7.2.1 | exact D1.2.1) (fun M146 fM146 p146a => ?_)
                      replace fM := fM.tr fM146 (by intro o j hw; first | omega | exact hw | (dsimp only [wSub, wRun, wNar, wFil, wCan, wLst, wCar, wDr] at hw; dsimp only [wSub, wRun, wNar, wFil, wCan, wLst, wCar, wDr]; omega) | (dsimp only [wSub, wRun, wNar, wFil, wCan, wLst, wCar, wDr]; omega) | (dsimp only [wSub, wRun, wNar, wFil, wCan, wLst, wCar, wDr] at hw; omega) | (simp [wSub, wRun, wNar, wFil, wCan, wLst, wCar, wDr] at hw; simp [wSub, wRun, wNar, wFil, wCan, wLst, wCar, wDr]; omega))
                      have D8 := DJ_frw (by first | exact D7 | exact D1) fM146 p146a
                      refine uX1_standsAsFactor_165 ?_
                      intro M147 hM147
                      replace fM := fr.put fM hM147 (by first | omega | (dsimp only [wSub, wRun, wNar, wFil, wCan, wLst, wCar, wDr]; done) | (dsimp only [wSub, wRun, wNar, wFil, wCan, wLst, wCar, wDr]; omega) | (simp [wSub, wRun, wNar, wFil, wCan, wLst, wCar, wDr]; done) | (simp [wSub, wRun, wNar, wFil, wCan, wLst, wCar, wDr]; omega))
                      have D9 := DJ_put D8 hM147 (by omega)
                      refine uX1_standsAsFactor_170 ?_
                      exact k _ _ fM (by first | omega | assumption | with_reducible exact rng_ld _ _ _ | with_reducible exact rng_yand _ _ | with_reducible exact rng_yor _ _ | with_reducible exact rng_zcmp _ _ | with_reducible exact yand7 _ | with_reducible exact rng_toInt _ | with_reducible exact yarr23 (by omega) | with_reducible exact yarr57 (by omega) | with_reducible exact Or.inl rfl | with_reducible exact Or.inr rfl) (fun _ => D9)
                  · skip
                    refine uX1_standsAsFactor_121 (by first | omega | assumption | with_reducible exact rng_ld _ _ _ | with_reducible exact rng_yand _ _ | with_reducible exact rng_yor _ _ | with_reducible exact rng_zcmp _ _ | with_reducible exact yand7 _ | with_reducible exact rng_toInt _ | with_reducible exact yarr23 (by omega) | with_reducible exact yarr57 (by omega) | with_reducible exact Or.inl rfl | with_reducible exact Or.inr rfl) (fun hc => ?_) (fun hc => ?_)
                    · skip
                      refine uX1_standsAsFactor_140 (by first | omega | assumption | with_reducible exact rng_ld _ _ _ | with_reducible exact rng_yand _ _ | with_reducible exact rng_yor _ _ | with_reducible exact rng_zcmp _ _ | with_reducible exact yand7 _ | with_reducible exact rng_toInt _ | with_reducible exact yarr23 (by omega) | with_reducible exact yarr57 (by omega) | with_reducible exact Or.inl rfl | with_reducible exact Or.inr rfl) (fun hc => ?_) (fun hc => ?_)
                      · skip
                        refine uX1_standsAsFactor_160 ?_
                        refine c1_write  (by first | exact D7.2.1 | exact D1.2.1) (fun M148 fM148 p148a => ?_)
                        replace fM := fM.tr fM148 (by intro o j hw; first | omega | exact hw | (dsimp only [wSub, wRun, wNar, wFil, wCan, wLst, wCar, wDr] at hw; dsimp only [wSub, wRun, wNar, wFil, wCan, wLst, wCar, wDr]; omega) | (dsimp only [wSub, wRun, wNar, wFil, wCan, wLst, wCar, wDr]; omega) | (dsimp only [wSub, wRun, wNar, wFil, wCan, wLst, wCar, wDr] at hw; omega) | (simp [wSub, wRun, wNar, wFil, wCan, wLst, wCar, wDr] at hw; simp [wSub, wRun, wNar, wFil, wCan, wLst, wCar, wDr]; omega))
                        have D8 := DJ_frw (by first | exact D7 | exact D1) fM148 p148a
                        refine uX1_standsAsFactor_165 ?_
                        intro M149 hM149
                        replace fM := fr.put fM hM149 (by first | omega | (dsimp only [wSub, wRun, wNar, wFil, wCan, wLst, wCar, wDr]; done) | (dsimp only [wSub, wRun, wNar, wFil, wCan, wLst, wCar, wDr]; omega) | (simp [wSub, wRun, wNar, wFil, wCan, wLst, wCar, wDr]; done) | (simp [wSub, wRun, wNar, wFil, wCan, wLst, wCar, wDr]; omega))
                        have D9 := DJ_put D8 hM149 (by omega)
                        refine uX1_standsAsFactor_170 ?_
                        exact k _ _ fM (by first | omega | assumption | with_reducible exact rng_ld _ _ _ | with_reducible exact rng_yand _ _ | with_reducible exact rng_yor _ _ | with_reducible exact rng_zcmp _ _ | with_reducible exact yand7 _ | with_reducible exact rng_toInt _ | with_reducible exact yarr23 (by omega) | with_reducible exact yarr57 (by omega) | with_reducible exact Or.inl rfl | with_reducible exact Or.inr rfl) (fun _ => D9)
                      · skip
                        refine uX1_standsAsFactor_145 ?_
                        intro M150 hM150
                        replace fM := fr.put fM hM150 (by first | omega | (dsimp only [wSub, wRun, wNar, wFil, wCan, wLst, wCar, wDr]; done) | (dsimp only [wSub, wRun, wNar, wFil, wCan, wLst, wCar, wDr]; omega) | (simp [wSub, wRun, wNar, wFil, wCan, wLst, wCar, wDr]; done) | (simp [wSub, wRun, wNar, wFil, wCan, wLst, wCar, wDr]; omega))
                        have D7 := DJ_put D1 hM150 (by omega)
                        refine uX1_standsAsFactor_160 ?_
                        refine c1_write  (by first | exact D7.2.1 | exact D1.2.1) (fun M151 fM151 p151a => ?_)
                        replace fM := fM.tr fM151 (by intro o j hw; first | omega | exact hw | (dsimp only [wSub, wRun, wNar, wFil, wCan, wLst, wCar, wDr] at hw; dsimp only [wSub, wRun, wNar, wFil, wCan, wLst, wCar, wDr]; omega) | (dsimp only [wSub, wRun, wNar, wFil, wCan, wLst, wCar, wDr]; omega) | (dsimp only [wSub, wRun, wNar, wFil, wCan, wLst, wCar, wDr] at hw; omega) | (simp [wSub, wRun, wNar, wFil, wCan, wLst, wCar, wDr] at hw; simp [wSub, wRun, wNar, wFil, wCan, wLst, wCar, wDr]; omega))
                        have D8 := DJ_frw (by first | exact D7 | exact D1) fM151 p151a
                        refine uX1_standsAsFactor_165 ?_
                        intro M152 hM152
                        replace fM := fr.put fM hM152 (by first | omega | (dsimp only [wSub, wRun, wNar, wFil, wCan, wLst, wCar, wDr]; done) | (dsimp only [wSub, wRun, wNar, wFil, wCan, wLst, wCar, wDr]; omega) | (simp [wSub, wRun, wNar, wFil, wCan, wLst, wCar, wDr]; done) | (simp [wSub, wRun, wNar, wFil, wCan, wLst, wCar, wDr]; omega))
                        have D9 := DJ_put D8 hM152 (by omega)
                        refine uX1_standsAsFactor_170 ?_
                        exact k _ _ fM (by first | omega | assumption | with_reducible exact rng_ld _ _ _ | with_reducible exact rng_yand _ _ | with_reducible exact rng_yor _ _ | with_reducible exact rng_zcmp _ _ | with_reducible exact yand7 _ | with_reducible exact rng_toInt _ | with_reducible exact yarr23 (by omega) | with_reducible exact yarr57 (by omega) | with_reducible exact Or.inl rfl | with_reducible exact Or.inr rfl) (fun _ => D9)
                    · skip
                      refine uX1_standsAsFactor_126 (by first | omega | assumption | with_reducible exact rng_ld _ _ _ | with_reducible exact rng_yand _ _ | with_reducible exact rng_yor _ _ | with_reducible exact rng_zcmp _ _ | with_reducible exact yand7 _ | with_reducible exact rng_toInt _ | with_reducible exact yarr23 (by omega) | with_reducible exact yarr57 (by omega) | with_reducible exact Or.inl rfl | with_reducible exact Or.inr rfl) (fun hc => ?_) (fun hc => ?_)
                      · skip
                        refine uX1_standsAsFactor_140 (by first | omega | assumption | with_reducible exact rng_ld _ _ _ | with_reducible exact rng_yand _ _ | with_reducible exact rng_yor _ _ | with_reducible exact rng_zcmp _ _ | with_reducible exact yand7 _ | with_reducible exact rng_toInt _ | with_reducible exact yarr23 (by omega) | with_reducible exact yarr57 (by omega) | with_reducible exact Or.inl rfl | with_reducible exact Or.inr rfl) (fun hc => ?_) (fun hc => ?_)
                        · skip
                          refine uX1_standsAsFactor_160 ?_
                          refine c1_write  (by first | exact D7.2.1 | exact D1.2.1) (fun M153 fM153 p153a => ?_)
                          replace fM := fM.tr fM153 (by intro o j hw; first | omega | exact hw | (dsimp only [wSub, wRun, wNar, wFil, wCan, wLst, wCar, wDr] at hw; dsimp only [wSub, wRun, wNar, wFil, wCan, wLst, wCar, wDr]; omega) | (dsimp only [wSub, wRun, wNar, wFil, wCan, wLst, wCar, wDr]; omega) | (dsimp only [wSub, wRun, wNar, wFil, wCan, wLst, wCar, wDr] at hw; omega) | (simp [wSub, wRun, wNar, wFil, wCan, wLst, wCar, wDr] at hw; simp [wSub, wRun, wNar, wFil, wCan, wLst, wCar, wDr]; omega))
                          have D8 := DJ_frw (by first | exact D7 | exact D1) fM153 p153a
                          refine uX1_standsAsFactor_165 ?_
                          intro M154 hM154
                          replace fM := fr.put fM hM154 (by first | omega | (dsimp only [wSub, wRun, wNar, wFil, wCan, wLst, wCar, wDr]; done) | (dsimp only [wSub, wRun, wNar, wFil, wCan, wLst, wCar, wDr]; omega) | (simp [wSub, wRun, wNar, wFil, wCan, wLst, wCar, wDr]; done) | (simp [wSub, wRun, wNar, wFil, wCan, wLst, wCar, wDr]; omega))
                          have D9 := DJ_put D8 hM154 (by omega)
                          refine uX1_standsAsFactor_170 ?_
                          exact k _ _ fM (by first | omega | assumption | with_reducible exact rng_ld _ _ _ | with_reducible exact rng_yand _ _ | with_reducible exact rng_yor _ _ | with_reducible exact rng_zcmp _ _ | with_reducible exact yand7 _ | with_reducible exact rng_toInt _ | with_reducible exact yarr23 (by omega) | with_reducible exact yarr57 (by omega) | with_reducible exact Or.inl rfl | with_reducible exact Or.inr rfl) (fun _ => D9)
                        · skip
                          refine uX1_standsAsFactor_145 ?_
                          intro M155 hM155
                          replace fM := fr.put fM hM155 (by first | omega | (dsimp only [wSub, wRun, wNar, wFil, wCan, wLst, wCar, wDr]; done) | (dsimp only [wSub, wRun, wNar, wFil, wCan, wLst, wCar, wDr]; omega) | (simp [wSub, wRun, wNar, wFil, wCan, wLst, wCar, wDr]; done) | (simp [wSub, wRun, wNar, wFil, wCan, wLst, wCar, wDr]; omega))
                          have D7 := DJ_put D1 hM155 (by omega)
                          refine uX1_standsAsFactor_160 ?_
                          refine c1_write  (by first | exact D7.2.1 | exact D1.2.1) (fun M156 fM156 p156a => ?_)
                          replace fM := fM.tr fM156 (by intro o j hw; first | omega | exact hw | (dsimp only [wSub, wRun, wNar, wFil, wCan, wLst, wCar, wDr] at hw; dsimp only [wSub, wRun, wNar, wFil, wCan, wLst, wCar, wDr]; omega) | (dsimp only [wSub, wRun, wNar, wFil, wCan, wLst, wCar, wDr]; omega) | (dsimp only [wSub, wRun, wNar, wFil, wCan, wLst, wCar, wDr] at hw; omega) | (simp [wSub, wRun, wNar, wFil, wCan, wLst, wCar, wDr] at hw; simp [wSub, wRun, wNar, wFil, wCan, wLst, wCar, wDr]; omega))
                          have D8 := DJ_frw (by first | exact D7 | exact D1) fM156 p156a
                          refine uX1_standsAsFactor_165 ?_
                          intro M157 hM157
                          replace fM := fr.put fM hM157 (by first | omega | (dsimp only [wSub, wRun, wNar, wFil, wCan, wLst, wCar, wDr]; done) | (dsimp only [wSub, wRun, wNar, wFil, wCan, wLst, wCar, wDr]; omega) | (simp [wSub, wRun, wNar, wFil, wCan, wLst, wCar, wDr]; done) | (simp [wSub, wRun, wNar, wFil, wCan, wLst, wCar, wDr]; omega))
                          have D9 := DJ_put D8 hM157 (by omega)
                          refine uX1_standsAsFactor_170 ?_
                          exact k _ _ fM (by first | omega | assumption | with_reducible exact rng_ld _ _ _ | with_reducible exact rng_yand _ _ | with_reducible exact rng_yor _ _ | with_reducible exact rng_zcmp _ _ | with_reducible exact yand7 _ | with_reducible exact rng_toInt _ | with_reducible exact yarr23 (by omega) | with_reducible exact yarr57 (by omega) | with_reducible exact Or.inl rfl | with_reducible exact Or.inr rfl) (fun _ => D9)
                      · skip
                        refine uX1_standsAsFactor_132 (by first | omega | assumption | with_reducible exact rng_ld _ _ _ | with_reducible exact rng_yand _ _ | with_reducible exact rng_yor _ _ | with_reducible exact rng_zcmp _ _ | with_reducible exact yand7 _ | with_reducible exact rng_toInt _ | with_reducible exact yarr23 (by omega) | with_reducible exact yarr57 (by omega) | with_reducible exact Or.inl rfl | with_reducible exact Or.inr rfl) (fun hc => ?_) (fun hc => ?_)
                        · skip
                          refine uX1_standsAsFactor_140 (by first | omega | assumption | with_reducible exact rng_ld _ _ _ | with_reducible exact rng_yand _ _ | with_reducible exact rng_yor _ _ | with_reducible exact rng_zcmp _ _ | with_reducible exact yand7 _ | with_reducible exact rng_toInt _ | with_reducible exact yarr23 (by omega) | with_reducible exact yarr57 (by omega) | with_reducible exact Or.inl rfl | with_reducible exact Or.inr rfl) (fun hc => ?_) (fun hc => ?_)
                          · skip
                            refine uX1_standsAsFactor_160 ?_
                            refine c1_write  (by first | exact D7.2.1 | exact D1.2.1) (fun M158 fM158 p158a => ?_)
                            replace fM := fM.tr fM158 (by intro o j hw; first | omega | exact hw | (dsimp only [wSub, wRun, wNar, wFil, wCan, wLst, wCar, wDr] at hw; dsimp only [wSub, wRun, wNar, wFil, wCan, wLst, wCar, wDr]; omega) | (dsimp only [wSub, wRun, wNar, wFil, wCan, wLst, wCar, wDr]; omega) | (dsimp only [wSub, wRun, wNar, wFil, wCan, wLst, wCar, wDr] at hw; omega) | (simp [wSub, wRun, wNar, wFil, wCan, wLst, wCar, wDr] at hw; simp [wSub, wRun, wNar, wFil, wCan, wLst, wCar, wDr]; omega))
                            have D8 := DJ_frw (by first | exact D7 | exact D1) fM158 p158a
                            refine uX1_standsAsFactor_165 ?_
                            intro M159 hM159
                            replace fM := fr.put fM hM159 (by first | omega | (dsimp only [wSub, wRun, wNar, wFil, wCan, wLst, wCar, wDr]; done) | (dsimp only [wSub, wRun, wNar, wFil, wCan, wLst, wCar, wDr]; omega) | (simp [wSub, wRun, wNar, wFil, wCan, wLst, wCar, wDr]; done) | (simp [wSub, wRun, wNar, wFil, wCan, wLst, wCar, wDr]; omega))
                            have D9 := DJ_put D8 hM159 (by omega)
                            refine uX1_standsAsFactor_170 ?_
                            exact k _ _ fM (by first | omega | assumption | with_reducible exact rng_ld _ _ _ | with_reducible exact rng_yand _ _ | with_reducible exact rng_yor _ _ | with_reducible exact rng_zcmp _ _ | with_reducible exact yand7 _ | with_reducible exact rng_toInt _ | with_reducible exact yarr23 (by omega) | with_reducible exact yarr57 (by omega) | with_reducible exact Or.inl rfl | with_reducible exact Or.inr rfl) (fun _ => D9)
                          · skip
                            refine uX1_standsAsFactor_145 ?_
                            intro M160 hM160
                            replace fM := fr.put fM hM160 (by first | omega | (dsimp only [wSub, wRun, wNar, wFil, wCan, wLst, wCar, wDr]; done) | (dsimp only [wSub, wRun, wNar, wFil, wCan, wLst, wCar, wDr]; omega) | (simp [wSub, wRun, wNar, wFil, wCan, wLst, wCar, wDr]; done) | (simp [wSub, wRun, wNar, wFil, wCan, wLst, wCar, wDr]; omega))
                            have D7 := DJ_put D1 hM160 (by omega)
                            refine uX1_standsAsFactor_160 ?_
                            refine c1_write  (by first | exact D7.2.1 | exact D1.2.1) (fun M161 fM161 p161a => ?_)
                            replace fM := fM.tr fM161 (by intro o j hw; first | omega | exact hw | (dsimp only [wSub, wRun, wNar, wFil, wCan, wLst, wCar, wDr] at hw; dsimp only [wSub, wRun, wNar, wFil, wCan, wLst, wCar, wDr]; omega) | (dsimp only [wSub, wRun, wNar, wFil, wCan, wLst, wCar, wDr]; omega) | (dsimp only [wSub, wRun, wNar, wFil, wCan, wLst, wCar, wDr] at hw; omega) | (simp [wSub, wRun, wNar, wFil, wCan, wLst, wCar, wDr] at hw; simp [wSub, wRun, wNar, wFil, wCan, wLst, wCar, wDr]; omega))
                            have D8 := DJ_frw (by first | exact D7 | exact D1) fM161 p161a
                            refine uX1_standsAsFactor_165 ?_
                            intro M162 hM162
                            replace fM := fr.put fM hM162 (by first | omega | (dsimp only [wSub, wRun, wNar, wFil, wCan, wLst, wCar, wDr]; done) | (dsimp only [wSub, wRun, wNar, wFil, wCan, wLst, wCar, wDr]; omega) | (simp [wSub, wRun, wNar, wFil, wCan, wLst, wCar, wDr]; done) | (simp [wSub, wRun, wNar, wFil, wCan, wLst, wCar, wDr]; omega))
                            have D9 := DJ_put D8 hM162 (by omega)
                            refine uX1_standsAsFactor_170 ?_
                            exact k _ _ fM (by first | omega | assumption | with_reducible exact rng_ld _ _ _ | with_reducible exact rng_yand _ _ | with_reducible exact rng_yor _ _ | with_reducible exact rng_zcmp _ _ | with_reducible exact yand7 _ | with_reducible exact rng_toInt _ | with_reducible exact yarr23 (by omega) | with_reducible exact yarr57 (by omega) | with_reducible exact Or.inl rfl | with_reducible exact Or.inr rfl) (fun _ => D9)
                        · skip
                          refine uX1_standsAsFactor_138 ?_
                          exact k _ _ fM (by first | omega | assumption | with_reducible exact rng_ld _ _ _ | with_reducible exact rng_yand _ _ | with_reducible exact rng_yor _ _ | with_reducible exact rng_zcmp _ _ | with_reducible exact yand7 _ | with_reducible exact rng_toInt _ | with_reducible exact yarr23 (by omega) | with_reducible exact yarr57 (by omega) | with_reducible exact Or.inl rfl | with_reducible exact Or.inr rfl) (fun e => absurd e (by decide))
                · skip
                  refine uX1_standsAsFactor_110 ?_
                  refine uX1_standsAsFactor_115 (by first | omega | assumption | with_reducible exact rng_ld _ _ _ | with_reducible exact rng_yand _ _ | with_reducible exact rng_yor _ _ | with_reducible exact rng_zcmp _ _ | with_reducible exact yand7 _ | with_reducible exact rng_toInt _ | with_reducible exact yarr23 (by omega) | with_reducible exact yarr57 (by omega) | with_reducible exact Or.inl rfl | with_reducible exact Or.inr rfl) (fun hc => ?_) (fun hc => ?_)
                  · skip
                    refine uX1_standsAsFactor_140 (by first | omega | assumption | with_reducible exact rng_ld _ _ _ | with_reducible exact rng_yand _ _ | with_reducible exact rng_yor _ _ | with_reducible exact rng_zcmp _ _ | with_reducible exact yand7 _ | with_reducible exact rng_toInt _ | with_reducible exact yarr23 (by omega) | with_reducible exact yarr57 (by omega) | with_reducible exact Or.inl rfl | with_reducible exact Or.inr rfl) (fun hc => ?_) (fun hc => ?_)
                    · skip
                      refine uX1_standsAsFactor_160 ?_
                      refine c1_write  (by first | exact D7.2.1 | exact D1.2.1) (fun M163 fM163 p163a => ?_)
                      replace fM := fM.tr fM163 (by intro o j hw; first | omega | exact hw | (dsimp only [wSub, wRun, wNar, wFil, wCan, wLst, wCar, wDr] at hw; dsimp only [wSub, wRun, wNar, wFil, wCan, wLst, wCar, wDr]; omega) | (dsimp only [wSub, wRun, wNar, wFil, wCan, wLst, wCar, wDr]; omega) | (dsimp only [wSub, wRun, wNar, wFil, wCan, wLst, wCar, wDr] at hw; omega) | (simp [wSub, wRun, wNar, wFil, wCan, wLst, wCar, wDr] at hw; simp [wSub, wRun, wNar, wFil, wCan, wLst, wCar, wDr]; omega))
                      have D8 := DJ_frw (by first | exact D7 | exact D1) fM163 p163a
                      refine uX1_standsAsFactor_165 ?_
                      intro M164 hM164
                      replace fM := fr.put fM hM164 (by first | omega | (dsimp only [wSub, wRun, wNar, wFil, wCan, wLst, wCar, wDr]; done) | (dsimp only [wSub, wRun, wNar, wFil, wCan, wLst, wCar, wDr]; omega) | (simp [wSub, wRun, wNar, wFil, wCan, wLst, wCar, wDr]; done) | (simp [wSub, wRun, wNar, wFil, wCan, wLst, wCar, wDr]; omega))
                      have D9 := DJ_put D8 hM164 (by omega)
                      refine uX1_standsAsFactor_170 ?_
                      exact k _ _ fM (by first | omega | assumption | with_reducible exact rng_ld _ _ _ | with_reducible exact rng_yand _ _ | with_reducible exact rng_yor _ _ | with_reducible exact rng_zcmp _ _ | with_reducible exact yand7 _ | with_reducible exact rng_toInt _ | with_reducible exact yarr23 (by omega) | with_reducible exact yarr57 (by omega) | with_reducible exact Or.inl rfl | with_reducible exact Or.inr rfl) (fun _ => D9)
                    · skip
                      refine uX1_standsAsFactor_145 ?_
                      intro M165 hM165
                      replace fM := fr.put fM hM165 (by first | omega | (dsimp only [wSub, wRun, wNar, wFil, wCan, wLst, wCar, wDr]; done) | (dsimp only [wSub, wRun, wNar, wFil, wCan, wLst, wCar, wDr]; omega) | (simp [wSub, wRun, wNar, wFil, wCan, wLst, wCar, wDr]; done) | (simp [wSub, wRun, wNar, wFil, wCan, wLst, wCar, wDr]; omega))
                      have D7 := DJ_put D1 hM165 (by omega)
                      refine uX1_standsAsFactor_160 ?_
                      refine c1_write  (by first | exact D7.2.1 | exact D1.2.1) (fun M166 fM166 p166a => ?_)
                      replace fM := fM.tr fM166 (by intro o j hw; first | omega | exact hw | (dsimp only [wSub, wRun, wNar, wFil, wCan, wLst, wCar, wDr] at hw; dsimp only [wSub, wRun, wNar, wFil, wCan, wLst, wCar, wDr]; omega) | (dsimp only [wSub, wRun, wNar, wFil, wCan, wLst, wCar, wDr]; omega) | (dsimp only [wSub, wRun, wNar, wFil, wCan, wLst, wCar, wDr] at hw; omega) | (simp [wSub, wRun, wNar, wFil, wCan, wLst, wCar, wDr] at hw; simp [wSub, wRun, wNar, wFil, wCan, wLst, wCar, wDr]; omega))
                      have D8 := DJ_frw (by first | exact D7 | exact D1) fM166 p166a
                      refine uX1_standsAsFactor_165 ?_
                      intro M167 hM167
                      replace fM := fr.put fM hM167 (by first | omega | (dsimp only [wSub, wRun, wNar, wFil, wCan, wLst, wCar, wDr]; done) | (dsimp only [wSub, wRun, wNar, wFil, wCan, wLst, wCar, wDr]; omega) | (simp [wSub, wRun, wNar, wFil, wCan, wLst, wCar, wDr]; done) | (simp [wSub, wRun, wNar, wFil, wCan, wLst, wCar, wDr]; omega))
                      have D9 := DJ_put D8 hM167 (by omega)
                      refine uX1_standsAsFactor_170 ?_
                      exact k _ _ fM (by first | omega | assumption | with_reducible exact rng_ld _ _ _ | with_reducible exact rng_yand _ _ | with_reducible exact rng_yor _ _ | with_reducible exact rng_zcmp _ _ | with_reducible exact yand7 _ | with_reducible exact rng_toInt _ | with_reducible exact yarr23 (by omega) | with_reducible exact yarr57 (by omega) | with_reducible exact Or.inl rfl | with_reducible exact Or.inr rfl) (fun _ => D9)
                  · skip
                    refine uX1_standsAsFactor_121 (by first | omega | assumption | with_reducible exact rng_ld _ _ _ | with_reducible exact rng_yand _ _ | with_reducible exact rng_yor _ _ | with_reducible exact rng_zcmp _ _ | with_reducible exact yand7 _ | with_reducible exact rng_toInt _ | with_reducible exact yarr23 (by omega) | with_reducible exact yarr57 (by omega) | with_reducible exact Or.inl rfl | with_reducible exact Or.inr rfl) (fun hc => ?_) (fun hc => ?_)
                    · skip
                      refine uX1_standsAsFactor_140 (by first | omega | assumption | with_reducible exact rng_ld _ _ _ | with_reducible exact rng_yand _ _ | with_reducible exact rng_yor _ _ | with_reducible exact rng_zcmp _ _ | with_reducible exact yand7 _ | with_reducible exact rng_toInt _ | with_reducible exact yarr23 (by omega) | with_reducible exact yarr57 (by omega) | with_reducible exact Or.inl rfl | with_reducible exact Or.inr rfl) (fun hc => ?_) (fun hc => ?_)
                      · skip
                        refine uX1_standsAsFactor_160 ?_
                        refine c1_write  (by first | exact D7.2.1 | exact D1.2.1) (fun M168 fM168 p168a => ?_)
                        replace fM := fM.tr fM168 (by intro o j hw; first | omega | exact hw | (dsimp only [wSub, wRun, wNar, wFil, wCan, wLst, wCar, wDr] at hw; dsimp only [wSub, wRun, wNar, wFil, wCan, wLst, wCar, wDr]; omega) | (dsimp only [wSub, wRun, wNar, wFil, wCan, wLst, wCar, wDr]; omega) | (dsimp only [wSub, wRun, wNar, wFil, wCan, wLst, wCar, wDr] at hw; omega) | (simp [wSub, wRun, wNar, wFil, wCan, wLst, wCar, wDr] at hw; simp [wSub, wRun, wNar, wFil, wCan, wLst, wCar, wDr]; omega))
                        have D8 := DJ_frw (by first | exact D7 | exact D1) fM168 p168a
                        refine uX1_standsAsFactor_165 ?_
                        intro M169 hM169
                        replace fM := fr.put fM hM169 (by first | omega | (dsimp only [wSub, wRun, wNar, wFil, wCan, wLst, wCar, wDr]; done) | (dsimp only [wSub, wRun, wNar, wFil, wCan, wLst, wCar, wDr]; omega) | (simp [wSub, wRun, wNar, wFil, wCan, wLst, wCar, wDr]; done) | (simp [wSub, wRun, wNar, wFil, wCan, wLst, wCar, wDr]; omega))
                        have D9 := DJ_put D8 hM169 (by omega)
                        refine uX1_standsAsFactor_170 ?_
                        exact k _ _ fM (by first | omega | assumption | with_reducible exact rng_ld _ _ _ | with_reducible exact rng_yand _ _ | with_reducible exact rng_yor _ _ | with_reducible exact rng_zcmp _ _ | with_reducible exact yand7 _ | with_reducible exact rng_toInt _ | with_reducible exact yarr23 (by omega) | with_reducible exact yarr57 (by omega) | with_reducible exact Or.inl rfl | with_reducible exact Or.inr rfl) (fun _ => D9)
                      · skip
                        refine uX1_standsAsFactor_145 ?_
                        intro M170 hM170
                        replace fM := fr.put fM hM170 (by first | omega | (dsimp only [wSub, wRun, wNar, wFil, wCan, wLst, wCar, wDr]; done) | (dsimp only [wSub, wRun, wNar, wFil, wCan, wLst, wCar, wDr]; omega) | (simp [wSub, wRun, wNar, wFil, wCan, wLst, wCar, wDr]; done) | (simp [wSub, wRun, wNar, wFil, wCan, wLst, wCar, wDr]; omega))
                        have D7 := DJ_put D1 hM170 (by omega)
                        refine uX1_standsAsFactor_160 ?_
                        refine c1_write  (by first | exact D7.2.1 | exact D1.2.1) (fun M171 fM171 p171a => ?_)
                        replace fM := fM.tr fM171 (by intro o j hw; first | omega | exact hw | (dsimp only [wSub, wRun, wNar, wFil, wCan, wLst, wCar, wDr] at hw; dsimp only [wSub, wRun, wNar, wFil, wCan, wLst, wCar, wDr]; omega) | (dsimp only [wSub, wRun, wNar, wFil, wCan, wLst, wCar, wDr]; omega) | (dsimp only [wSub, wRun, wNar, wFil, wCan, wLst, wCar, wDr] at hw; omega) | (simp [wSub, wRun, wNar, wFil, wCan, wLst, wCar, wDr] at hw; simp [wSub, wRun, wNar, wFil, wCan, wLst, wCar, wDr]; omega))
                        have D8 := DJ_frw (by first | exact D7 | exact D1) fM171 p171a
                        refine uX1_standsAsFactor_165 ?_
                        intro M172 hM172
                        replace fM := fr.put fM hM172 (by first | omega | (dsimp only [wSub, wRun, wNar, wFil, wCan, wLst, wCar, wDr]; done) | (dsimp only [wSub, wRun, wNar, wFil, wCan, wLst, wCar, wDr]; omega) | (simp [wSub, wRun, wNar, wFil, wCan, wLst, wCar, wDr]; done) | (simp [wSub, wRun, wNar, wFil, wCan, wLst, wCar, wDr]; omega))
                        have D9 := DJ_put D8 hM172 (by omega)
                        refine uX1_standsAsFactor_170 ?_
                        exact k _ _ fM (by first | omega | assumption | with_reducible exact rng_ld _ _ _ | with_reducible exact rng_yand _ _ | with_reducible exact rng_yor _ _ | with_reducible exact rng_zcmp _ _ | with_reducible exact yand7 _ | with_reducible exact rng_toInt _ | with_reducible exact yarr23 (by omega) | with_reducible exact yarr57 (by omega) | with_reducible exact Or.inl rfl | with_reducible exact Or.inr rfl) (fun _ => D9)
                    · skip
                      refine uX1_standsAsFactor_126 (by first | omega | assumption | with_reducible exact rng_ld _ _ _ | with_reducible exact rng_yand _ _ | with_reducible exact rng_yor _ _ | with_reducible exact rng_zcmp _ _ | with_reducible exact yand7 _ | with_reducible exact rng_toInt _ | with_reducible exact yarr23 (by omega) | with_reducible exact yarr57 (by omega) | with_reducible exact Or.inl rfl | with_reducible exact Or.inr rfl) (fun hc => ?_) (fun hc => ?_)
                      · skip
                        refine uX1_standsAsFactor_140 (by first | omega | assumption | with_reducible exact rng_ld _ _ _ | with_reducible exact rng_yand _ _ | with_reducible exact rng_yor _ _ | with_reducible exact rng_zcmp _ _ | with_reducible exact yand7 _ | with_reducible exact rng_toInt _ | with_reducible exact yarr23 (by omega) | with_reducible exact yarr57 (by omega) | with_reducible exact Or.inl rfl | with_reducible exact Or.inr rfl) (fun hc => ?_) (fun hc => ?_)
                        · skip
                          refine uX1_standsAsFactor_160 ?_
                          refine c1_write  (by first | exact D7.2.1 | exact D1.2.1) (fun M173 fM173 p173a => ?_)
                          replace fM := fM.tr fM173 (by intro o j hw; first | omega | exact hw | (dsimp only [wSub, wRun, wNar, wFil, wCan, wLst, wCar, wDr] at hw; dsimp only [wSub, wRun, wNar, wFil, wCan, wLst, wCar, wDr]; omega) | (dsimp only [wSub, wRun, wNar, wFil, wCan, wLst, wCar, wDr]; omega) | (dsimp only [wSub, wRun, wNar, wFil, wCan, wLst, wCar, wDr] at hw; omega) | (simp [wSub, wRun, wNar, wFil, wCan, wLst, wCar, wDr] at hw; simp [wSub, wRun, wNar, wFil, wCan, wLst, wCar, wDr]; omega))
                          have D8 := DJ_frw (by first | exact D7 | exact D1) fM173 p173a
                          refine uX1_standsAsFactor_165 ?_
                          intro M174 hM174
                          replace fM := fr.put fM hM174 (by first | omega | (dsimp only [wSub, wRun, wNar, wFil, wCan, wLst, wCar, wDr]; done) | (dsimp only [wSub, wRun, wNar, wFil, wCan, wLst, wCar, wDr]; omega) | (simp [wSub, wRun, wNar, wFil, wCan, wLst, wCar, wDr]; done) | (simp [wSub, wRun, wNar, wFil, wCan, wLst, wCar, wDr]; omega))
                          have D9 := DJ_put D8 hM174 (by omega)
                          refine uX1_standsAsFactor_170 ?_
                          exact k _ _ fM (by first | omega | assumption | with_reducible exact rng_ld _ _ _ | with_reducible exact rng_yand _ _ | with_reducible exact rng_yor _ _ | with_reducible exact rng_zcmp _ _ | with_reducible exact yand7 _ | with_reducible exact rng_toInt _ | with_reducible exact yarr23 (by omega) | with_reducible exact yarr57 (by omega) | with_reducible exact Or.inl rfl | with_reducible exact Or.inr rfl) (fun _ => D9)
                        · skip
                          refine uX1_standsAsFactor_145 ?_
                          intro M175 hM175
                          replace fM := fr.put fM hM175 (by first | omega | (dsimp only [wSub, wRun, wNar, wFil, wCan, wLst, wCar, wDr]; done) | (dsimp only [wSub, wRun, wNar, wFil, wCan, wLst, wCar, wDr]; omega) | (simp [wSub, wRun, wNar, wFil, wCan, wLst, wCar, wDr]; done) | (simp [wSub, wRun, wNar, wFil, wCan, wLst, wCar, wDr]; omega))
                          have D7 := DJ_put D1 hM175 (by omega)
                          refine uX1_standsAsFactor_160 ?_
                          refine c1_write  (by first | exact D7.2.1 | exact D1.2.1) (fun M176 fM176 p176a => ?_)
                          replace fM := fM.tr fM176 (by intro o j hw; first | omega | exact hw | (dsimp only [wSub, wRun, wNar, wFil, wCan, wLst, wCar, wDr] at hw; dsimp only [wSub, wRun, wNar, wFil, wCan, wLst, wCar, wDr]; omega) | (dsimp only [wSub, wRun, wNar, wFil, wCan, wLst, wCar, wDr]; omega) | (dsimp only [wSub, wRun, wNar, wFil, wCan, wLst, wCar, wDr] at hw; omega) | (simp [wSub, wRun, wNar, wFil, wCan, wLst, wCar, wDr] at hw; simp [wSub, wRun, wNar, wFil, wCan, wLst, wCar, wDr]; omega))
                          have D8 := DJ_frw (by first | exact D7 | exact D1) fM176 p176a
                          refine uX1_standsAsFactor_165 ?_
                          intro M177 hM177
                          replace fM := fr.put fM hM177 (by first | omega | (dsimp only [wSub, wRun, wNar, wFil, wCan, wLst, wCar, wDr]; done) | (dsimp only [wSub, wRun, wNar, wFil, wCan, wLst, wCar, wDr]; omega) | (simp [wSub, wRun, wNar, wFil, wCan, wLst, wCar, wDr]; done) | (simp [wSub, wRun, wNar, wFil, wCan, wLst, wCar, wDr]; omega))
                          have D9 := DJ_put D8 hM177 (by omega)
                          refine uX1_standsAsFactor_170 ?_
                          exact k _ _ fM (by first | omega | assumption | with_reducible exact rng_ld _ _ _ | with_reducible exact rng_yand _ _ | with_reducible exact rng_yor _ _ | with_reducible exact rng_zcmp _ _ | with_reducible exact yand7 _ | with_reducible exact rng_toInt _ | with_reducible exact yarr23 (by omega) | with_reducible exact yarr57 (by omega) | with_reducible exact Or.inl rfl | with_reducible exact Or.inr rfl) (fun _ => D9)
                      · skip
                        refine uX1_standsAsFactor_132 (by first | omega | assumption | with_reducible exact rng_ld _ _ _ | with_reducible exact rng_yand _ _ | with_reducible exact rng_yor _ _ | with_reducible exact rng_zcmp _ _ | with_reducible exact yand7 _ | with_reducible exact rng_toInt _ | with_reducible exact yarr23 (by omega) | with_reducible exact yarr57 (by omega) | with_reducible exact Or.inl rfl | with_reducible exact Or.inr rfl) (fun hc => ?_) (fun hc => ?_)
                        · skip
                          refine uX1_standsAsFactor_140 (by first | omega | assumption | with_reducible exact rng_ld _ _ _ | with_reducible exact rng_yand _ _ | with_reducible exact rng_yor _ _ | with_reducible exact rng_zcmp _ _ | with_reducible exact yand7 _ | with_reducible exact rng_toInt _ | with_reducible exact yarr23 (by omega) | with_reducible exact yarr57 (by omega) | with_reducible exact Or.inl rfl | with_reducible exact Or.inr rfl) (fun hc => ?_) (fun hc => ?_)
                          · skip
                            refine uX1_standsAsFactor_160 ?_
                            refine c1_write  (by first | exact D7.2.1 | exact D1.2.1) (fun M178 fM178 p178a => ?_)
                            replace fM := fM.tr fM178 (by intro o j hw; first | omega | exact hw | (dsimp only [wSub, wRun, wNar, wFil, wCan, wLst, wCar, wDr] at hw; dsimp only [wSub, wRun, wNar, wFil, wCan, wLst, wCar, wDr]; omega) | (dsimp only [wSub, wRun, wNar, wFil, wCan, wLst, wCar, wDr]; omega) | (dsimp only [wSub, wRun, wNar, wFil, wCan, wLst, wCar, wDr] at hw; omega) | (simp [wSub, wRun, wNar, wFil, wCan, wLst, wCar, wDr] at hw; simp [wSub, wRun, wNar, wFil, wCan, wLst, wCar, wDr]; omega))
                            have D8 := DJ_frw (by first | exact D7 | exact D1) fM178 p178a
                            refine uX1_standsAsFactor_165 ?_
                            intro M179 hM179
                            replace fM := fr.put fM hM179 (by first | omega | (dsimp only [wSub, wRun, wNar, wFil, wCan, wLst, wCar, wDr]; done) | (dsimp only [wSub, wRun, wNar, wFil, wCan, wLst, wCar, wDr]; omega) | (simp [wSub, wRun, wNar, wFil, wCan, wLst, wCar, wDr]; done) | (simp [wSub, wRun, wNar, wFil, wCan, wLst, wCar, wDr]; omega))
                            have D9 := DJ_put D8 hM179 (by omega)
                            refine uX1_standsAsFactor_170 ?_
                            exact k _ _ fM (by first | omega | assumption | with_reducible exact rng_ld _ _ _ | with_reducible exact rng_yand _ _ | with_reducible exact rng_yor _ _ | with_reducible exact rng_zcmp _ _ | with_reducible exact yand7 _ | with_reducible exact rng_toInt _ | with_reducible exact yarr23 (by omega) | with_reducible exact yarr57 (by omega) | with_reducible exact Or.inl rfl | with_reducible exact Or.inr rfl) (fun _ => D9)
                          · skip
                            refine uX1_standsAsFactor_145 ?_
                            intro M180 hM180
                            replace fM := fr.put fM hM180 (by first | omega | (dsimp only [wSub, wRun, wNar, wFil, wCan, wLst, wCar, wDr]; done) | (dsimp only [wSub, wRun, wNar, wFil, wCan, wLst, wCar, wDr]; omega) | (simp [wSub, wRun, wNar, wFil, wCan, wLst, wCar, wDr]; done) | (simp [wSub, wRun, wNar, wFil, wCan, wLst, wCar, wDr]; omega))
                            have D7 := DJ_put D1 hM180 (by omega)
                            refine uX1_standsAsFactor_160 ?_
                            refine c1_write  (by first | exact D7.2.1 | exact D1.2.1) (fun M181 fM181 p181a => ?_)
                            replace fM := fM.tr fM181 (by intro o j hw; first | omega | exact hw | (dsimp only [wSub, wRun, wNar, wFil, wCan, wLst, wCar, wDr] at hw; dsimp only [wSub, wRun, wNar, wFil, wCan, wLst, wCar, wDr]; omega) | (dsimp only [wSub, wRun, wNar, wFil, wCan, wLst, wCar, wDr]; omega) | (dsimp only [wSub, wRun, wNar, wFil, wCan, wLst, wCar, wDr] at hw; omega) | (simp [wSub, wRun, wNar, wFil, wCan, wLst, wCar, wDr] at hw; simp [wSub, wRun, wNar, wFil, wCan, wLst, wCar, wDr]; omega))
                            have D8 := DJ_frw (by first | exact D7 | exact D1) fM181 p181a
                            refine uX1_standsAsFactor_165 ?_
                            intro M182 hM182
                            replace fM := fr.put fM hM182 (by first | omega | (dsimp only [wSub, wRun, wNar, wFil, wCan, wLst, wCar, wDr]; done) | (dsimp only [wSub, wRun, wNar, wFil, wCan, wLst, wCar, wDr]; omega) | (simp [wSub, wRun, wNar, wFil, wCan, wLst, wCar, wDr]; done) | (simp [wSub, wRun, wNar, wFil, wCan, wLst, wCar, wDr]; omega))
                            have D9 := DJ_put D8 hM182 (by omega)
                            refine uX1_standsAsFactor_170 ?_
                            exact k _ _ fM (by first | omega | assumption | with_reducible exact rng_ld _ _ _ | with_reducible exact rng_yand _ _ | with_reducible exact rng_yor _ _ | with_reducible exact rng_zcmp _ _ | with_reducible exact yand7 _ | with_reducible exact rng_toInt _ | with_reducible exact yarr23 (by omega) | with_reducible exact yarr57 (by omega) | with_reducible exact Or.inl rfl | with_reducible exact Or.inr rfl) (fun _ => D9)
                        · skip
                          refine uX1_standsAsFactor_138 ?_
                          exact k _ _ fM (by first | omega | assumption | with_reducible exact rng_ld _ _ _ | with_reducible exact rng_yand _ _ | with_reducible exact rng_yor _ _ | with_reducible exact rng_zcmp _ _ | with_reducible exact yand7 _ | with_reducible exact rng_toInt _ | with_reducible exact yarr23 (by omega) | with_reducible exact yarr57 (by omega) | with_reducible exact Or.inl rfl | with_reducible exact Or.inr rfl) (fun e => absurd e (by decide))
        · skip
          refine uX1_standsAsFactor_45 ?_
          intro M183 hM183
          replace fM := fr.put fM hM183 (by first | omega | (dsimp only [wSub, wRun, wNar, wFil, wCan, wLst, wCar, wDr]; done) | (dsimp only [wSub, wRun, wNar, wFil, wCan, wLst, wCar, wDr]; omega) | (simp [wSub, wRun, wNar, wFil, wCan, wLst, wCar, wDr]; done) | (simp [wSub, wRun, wNar, wFil, wCan, wLst, wCar, wDr]; omega))
          have D5 := DJ_open D1 hM183
          refine uX1_standsAsFactor_55 (fun hc => ?_) (fun hc => ?_)
          · skip
            refine uX1_standsAsFactor_76 ?_
            refine uX1_standsAsFactor_77 (by first | omega | assumption | with_reducible exact rng_ld _ _ _ | with_reducible exact rng_yand _ _ | with_reducible exact rng_yor _ _ | with_reducible exact rng_zcmp _ _ | with_reducible exact yand7 _ | with_reducible exact rng_toInt _ | with_reducible exact yarr23 (by omega) | with_reducible exact yarr57 (by omega) | with_reducible exact Or.inl rfl | with_reducible exact Or.inr rfl) ?_
            exact k _ _ fM (by first | omega | assumption | with_reducible exact rng_ld _ _ _ | with_reducible exact rng_yand _ _ | with_reducible exact rng_yor _ _ | with_reducible exact rng_zcmp _ _ | with_reducible exact yand7 _ | with_reducible exact rng_toInt _ | with_reducible exact yarr23 (by omega) | with_reducible exact yarr57 (by omega) | with_reducible exact Or.inl rfl | with_reducible exact Or.inr rfl) (by first | exact (fun e => absurd e (by decide)) | exact (fun _ => D6 (by omega)))
          · skip
            refine uX1_standsAsFactor_64 ?_
            refine c1_waits  D5.1 (fun v184 M184 fM184 p184a => ?_)
            replace fM := fM.tr fM184 (by intro o j hw; first | omega | exact hw | (dsimp only [wSub, wRun, wNar, wFil, wCan, wLst, wCar, wDr] at hw; dsimp only [wSub, wRun, wNar, wFil, wCan, wLst, wCar, wDr]; omega) | (dsimp only [wSub, wRun, wNar, wFil, wCan, wLst, wCar, wDr]; omega) | (dsimp only [wSub, wRun, wNar, wFil, wCan, wLst, wCar, wDr] at hw; omega) | (simp [wSub, wRun, wNar, wFil, wCan, wLst, wCar, wDr] at hw; simp [wSub, wRun, wNar, wFil, wCan, wLst, wCar, wDr]; omega))
            have hv : v184 = 0 ∨ v184 = 1 := p184a.imp id And.left
            have D6 : v184 = 1 → DJ M184 0 := fun e => by have q := DJ_wait p1 D5 (p184a.resolve_left (by omega)).2; rw [if_pos (by omega)] at q; simpa using q
            refine uX1_standsAsFactor_69 (by first | omega | assumption | with_reducible exact rng_ld _ _ _ | with_reducible exact rng_yand _ _ | with_reducible exact rng_yor _ _ | with_reducible exact rng_zcmp _ _ | with_reducible exact yand7 _ | with_reducible exact rng_toInt _ | with_reducible exact yarr23 (by omega) | with_reducible exact yarr57 (by omega) | with_reducible exact Or.inl rfl | with_reducible exact Or.inr rfl) (fun hc => ?_) (fun hc => ?_)
            · skip
              refine uX1_standsAsFactor_76 ?_
              refine uX1_standsAsFactor_77 (by first | omega | assumption | with_reducible exact rng_ld _ _ _ | with_reducible exact rng_yand _ _ | with_reducible exact rng_yor _ _ | with_reducible exact rng_zcmp _ _ | with_reducible exact yand7 _ | with_reducible exact rng_toInt _ | with_reducible exact yarr23 (by omega) | with_reducible exact yarr57 (by omega) | with_reducible exact Or.inl rfl | with_reducible exact Or.inr rfl) ?_
              exact k _ _ fM (by first | omega | assumption | with_reducible exact rng_ld _ _ _ | with_reducible exact rng_yand _ _ | with_reducible exact rng_yor _ _ | with_reducible exact rng_zcmp _ _ | with_reducible exact yand7 _ | with_reducible exact rng_toInt _ | with_reducible exact yarr23 (by omega) | with_reducible exact yarr57 (by omega) | with_reducible exact Or.inl rfl | with_reducible exact Or.inr rfl) (by first | exact (fun e => absurd e (by decide)) | exact (fun _ => D6 (by omega)))
            · skip
              refine uX1_standsAsFactor_72 ?_
              refine uX1_standsAsFactor_77 (by first | omega | assumption | with_reducible exact rng_ld _ _ _ | with_reducible exact rng_yand _ _ | with_reducible exact rng_yor _ _ | with_reducible exact rng_zcmp _ _ | with_reducible exact yand7 _ | with_reducible exact rng_toInt _ | with_reducible exact yarr23 (by omega) | with_reducible exact yarr57 (by omega) | with_reducible exact Or.inl rfl | with_reducible exact Or.inr rfl) ?_
              exact k _ _ fM (by first | omega | assumption | with_reducible exact rng_ld _ _ _ | with_reducible exact rng_yand _ _ | with_reducible exact rng_yor _ _ | with_reducible exact rng_zcmp _ _ | with_reducible exact yand7 _ | with_reducible exact rng_toInt _ | with_reducible exact yarr23 (by omega) | with_reducible exact yarr57 (by omega) | with_reducible exact Or.inl rfl | with_reducible exact Or.inr rfl) (by first | exact (fun e => absurd e (by decide)) | exact (fun _ => D6 (by omega)))
      · skip
        refine uX1_standsAsFactor_33 ?_
        refine c1_waits  D1.1 (fun v185 M185 fM185 p185a => ?_)
        replace fM := fM.tr fM185 (by intro o j hw; first | omega | exact hw | (dsimp only [wSub, wRun, wNar, wFil, wCan, wLst, wCar, wDr] at hw; dsimp only [wSub, wRun, wNar, wFil, wCan, wLst, wCar, wDr]; omega) | (dsimp only [wSub, wRun, wNar, wFil, wCan, wLst, wCar, wDr]; omega) | (dsimp only [wSub, wRun, wNar, wFil, wCan, wLst, wCar, wDr] at hw; omega) | (simp [wSub, wRun, wNar, wFil, wCan, wLst, wCar, wDr] at hw; simp [wSub, wRun, wNar, wFil, wCan, wLst, wCar, wDr]; omega))
        have hv : v185 = 0 ∨ v185 = 1 := p185a.imp id And.left
        have D4 : v185 = 1 → DJ M185 0 := fun e => by have q := DJ_wait p1 D1 (p185a.resolve_left (by omega)).2; rw [if_neg (by omega)] at q; simpa using q
        refine uX1_standsAsFactor_38 (by first | omega | assumption | with_reducible exact rng_ld _ _ _ | with_reducible exact rng_yand _ _ | with_reducible exact rng_yor _ _ | with_reducible exact rng_zcmp _ _ | with_reducible exact yand7 _ | with_reducible exact rng_toInt _ | with_reducible exact yarr23 (by omega) | with_reducible exact yarr57 (by omega) | with_reducible exact Or.inl rfl | with_reducible exact Or.inr rfl) ?_
        exact k _ _ fM (by first | omega | assumption | with_reducible exact rng_ld _ _ _ | with_reducible exact rng_yand _ _ | with_reducible exact rng_yor _ _ | with_reducible exact rng_zcmp _ _ | with_reducible exact yand7 _ | with_reducible exact rng_toInt _ | with_reducible exact yarr23 (by omega) | with_reducible exact yarr57 (by omega) | with_reducible exact Or.inl rfl | with_reducible exact Or.inr rfl) D4
  · skip
    refine uX1_standsAsFactor_9 ?_
    exact k _ _ fM (by first | omega | assumption | with_reducible exact rng_ld _ _ _ | with_reducible exact rng_yand _ _ | with_reducible exact rng_yor _ _ | with_reducible exact rng_zcmp _ _ | with_reducible exact yand7 _ | with_reducible exact rng_toInt _ | with_reducible exact yarr23 (by omega) | with_reducible exact yarr57 (by omega) | with_reducible exact Or.inl rfl | with_reducible exact Or.inr rfl) (fun e => absurd e (by decide))
theorem c1_firstFault {d : Nat} {Q : Int → yM → Prop} {M : yM} {x1 : Int}  (p1 : 1 ≤ x1 ∧ x1 ≤ 8) (hl : 0 ≤ ld M 77 1 ∧ ld M 77 1 ≤ 60) (k : ∀ (v : Int) (M' : yM), fr (wDr) M M' → (v = -9 ∨ 0 ≤ v ∧ v ≤ 60) → Q v M') : XCi (d + 3) 7 [.inr (.inr 77), .inl x1] M Q := by
  refine eX1_firstFault ?_
  have fM : fr (wDr) M M := fr.rf
  have go : ∀ N : Nat, (∀ (x2 : Int) (wx3 : Option yV) (wx4 : Option yV) (M9 : yM), fr (wDr) M M9 → (0 ≤ x2 ∧ x2 ≤ 60) → (DJ M9 0) → (60 - x2 < (N : Int)) → XW kX1_firstFault (d + 3) (some .int) (wQi Q) 32 [some (.inr (.inr 77)), some (.inl x1), some (.inl x2), wx3, wx4] [] M9) := by
    intro N
    induction N with
    | zero => intros; exfalso; omega
    | succ N ih =>
      have ih0 := ih
      clear fM
      intro x2 wx3 wx4 M1 fM i0 i1 hm
      have k77_1 := fM.ld (o := 77) (j := 1) (by intro hw; first | omega | (dsimp only [wSub, wRun, wNar, wFil, wCan, wLst, wCar, wDr] at hw; omega) | (simp [wSub, wRun, wNar, wFil, wCan, wLst, wCar, wDr] at hw; done) | (simp [wSub, wRun, wNar, wFil, wCan, wLst, wCar, wDr] at hw; omega))
      refine uX1_firstFault_32 (by first | omega | assumption | with_reducible exact rng_ld _ _ _ | with_reducible exact rng_yand _ _ | with_reducible exact rng_yor _ _ | with_reducible exact rng_zcmp _ _ | with_reducible exact yand7 _ | with_reducible exact rng_toInt _ | with_reducible exact yarr23 (by omega) | with_reducible exact yarr57 (by omega) | with_reducible exact Or.inl rfl | with_reducible exact Or.inr rfl) (fun hc => ?_) (fun hc => ?_)
      · skip
        refine uX1_firstFault_89 (fun hc => ?_) (fun hc => ?_)
        · skip
          refine uX1_firstFault_103 ?_
          exact k _ _ fM (by first | omega | assumption | with_reducible exact rng_ld _ _ _ | with_reducible exact rng_yand _ _ | with_reducible exact rng_yor _ _ | with_reducible exact rng_zcmp _ _ | with_reducible exact yand7 _ | with_reducible exact rng_toInt _ | with_reducible exact yarr23 (by omega) | with_reducible exact yarr57 (by omega) | with_reducible exact Or.inl rfl | with_reducible exact Or.inr rfl)
        · skip
          refine uX1_firstFault_96 (fun hc => ?_) (fun hc => ?_)
          · skip
            refine uX1_firstFault_108 ?_
            refine XC.deep (c1_writeWaiting  (d := 0) i1 (by first | omega | assumption | with_reducible exact rng_ld _ _ _ | with_reducible exact rng_yand _ _ | with_reducible exact rng_yor _ _ | with_reducible exact rng_zcmp _ _ | with_reducible exact yand7 _ | with_reducible exact rng_toInt _ | with_reducible exact yarr23 (by omega) | with_reducible exact yarr57 (by omega) | with_reducible exact Or.inl rfl | with_reducible exact Or.inr rfl) (fun M2 fM2 p2a p2b p2c => ?_)) (by omega)
            replace fM := fM.tr fM2 (by intro o j hw; first | omega | exact hw | (dsimp only [wSub, wRun, wNar, wFil, wCan, wLst, wCar, wDr] at hw; dsimp only [wSub, wRun, wNar, wFil, wCan, wLst, wCar, wDr]; omega) | (dsimp only [wSub, wRun, wNar, wFil, wCan, wLst, wCar, wDr]; omega) | (dsimp only [wSub, wRun, wNar, wFil, wCan, wLst, wCar, wDr] at hw; omega) | (simp [wSub, wRun, wNar, wFil, wCan, wLst, wCar, wDr] at hw; simp [wSub, wRun, wNar, wFil, wCan, wLst, wCar, wDr]; omega))
            have k77_1 := fM.ld (o := 77) (j := 1) (by intro hw; first | omega | (dsimp only [wSub, wRun, wNar, wFil, wCan, wLst, wCar, wDr] at hw; omega) | (simp [wSub, wRun, wNar, wFil, wCan, wLst, wCar, wDr] at hw; done) | (simp [wSub, wRun, wNar, wFil, wCan, wLst, wCar, wDr] at hw; omega))
            refine uX1_firstFault_113 ?_
            exact k _ _ fM (by first | omega | assumption | with_reducible exact rng_ld _ _ _ | with_reducible exact rng_yand _ _ | with_reducible exact rng_yor _ _ | with_reducible exact rng_zcmp _ _ | with_reducible exact yand7 _ | with_reducible exact rng_toInt _ | with_reducible exact yarr23 (by omega) | with_reducible exact yarr57 (by omega) | with_reducible exact Or.inl rfl | with_reducible exact Or.inr rfl)
          · skip
            refine uX1_firstFault_103 ?_
            exact k _ _ fM (by first | omega | assumption | with_reducible exact rng_ld _ _ _ | with_reducible exact rng_yand _ _ | with_reducible exact rng_yor _ _ | with_reducible exact rng_zcmp _ _ | with_reducible exact yand7 _ | with_reducible exact rng_toInt _ | with_reducible exact yarr23 (by omega) | with_reducible exact yarr57 (by omega) | with_reducible exact Or.inl rfl | with_reducible exact Or.inr rfl)
      · skip
        refine uX1_firstFault_40 (by first | omega | assumption | with_reducible exact rng_ld _ _ _ | with_reducible exact rng_yand _ _ | with_reducible exact rng_yor _ _ | with_reducible exact rng_zcmp _ _ | with_reducible exact yand7 _ | with_reducible exact rng_toInt _ | with_reducible exact yarr23 (by omega) | with_reducible exact yarr57 (by omega) | with_reducible exact Or.inl rfl | with_reducible exact Or.inr rfl) (fun hc => ?_) (fun hc => ?_)
        · skip
          refine uX1_firstFault_89 (fun hc => ?_) (fun hc => ?_)
          · skip
            refine uX1_firstFault_103 ?_
            exact k _ _ fM (by first | omega | assumption | with_reducible exact rng_ld _ _ _ | with_reducible exact rng_yand _ _ | with_reducible exact rng_yor _ _ | with_reducible exact rng_zcmp _ _ | with_reducible exact yand7 _ | with_reducible exact rng_toInt _ | with_reducible exact yarr23 (by omega) | with_reducible exact yarr57 (by omega) | with_reducible exact Or.inl rfl | with_reducible exact Or.inr rfl)
          · skip
            refine uX1_firstFault_96 (fun hc => ?_) (fun hc => ?_)
            · skip
              refine uX1_firstFault_108 ?_
              refine XC.deep (c1_writeWaiting  (d := 0) i1 (by first | omega | assumption | with_reducible exact rng_ld _ _ _ | with_reducible exact rng_yand _ _ | with_reducible exact rng_yor _ _ | with_reducible exact rng_zcmp _ _ | with_reducible exact yand7 _ | with_reducible exact rng_toInt _ | with_reducible exact yarr23 (by omega) | with_reducible exact yarr57 (by omega) | with_reducible exact Or.inl rfl | with_reducible exact Or.inr rfl) (fun M3 fM3 p3a p3b p3c => ?_)) (by omega)
              replace fM := fM.tr fM3 (by intro o j hw; first | omega | exact hw | (dsimp only [wSub, wRun, wNar, wFil, wCan, wLst, wCar, wDr] at hw; dsimp only [wSub, wRun, wNar, wFil, wCan, wLst, wCar, wDr]; omega) | (dsimp only [wSub, wRun, wNar, wFil, wCan, wLst, wCar, wDr]; omega) | (dsimp only [wSub, wRun, wNar, wFil, wCan, wLst, wCar, wDr] at hw; omega) | (simp [wSub, wRun, wNar, wFil, wCan, wLst, wCar, wDr] at hw; simp [wSub, wRun, wNar, wFil, wCan, wLst, wCar, wDr]; omega))
              have k77_1 := fM.ld (o := 77) (j := 1) (by intro hw; first | omega | (dsimp only [wSub, wRun, wNar, wFil, wCan, wLst, wCar, wDr] at hw; omega) | (simp [wSub, wRun, wNar, wFil, wCan, wLst, wCar, wDr] at hw; done) | (simp [wSub, wRun, wNar, wFil, wCan, wLst, wCar, wDr] at hw; omega))
              refine uX1_firstFault_113 ?_
              exact k _ _ fM (by first | omega | assumption | with_reducible exact rng_ld _ _ _ | with_reducible exact rng_yand _ _ | with_reducible exact rng_yor _ _ | with_reducible exact rng_zcmp _ _ | with_reducible exact yand7 _ | with_reducible exact rng_toInt _ | with_reducible exact yarr23 (by omega) | with_reducible exact yarr57 (by omega) | with_reducible exact Or.inl rfl | with_reducible exact Or.inr rfl)
            · skip
              refine uX1_firstFault_103 ?_
              exact k _ _ fM (by first | omega | assumption | with_reducible exact rng_ld _ _ _ | with_reducible exact rng_yand _ _ | with_reducible exact rng_yor _ _ | with_reducible exact rng_zcmp _ _ | with_reducible exact yand7 _ | with_reducible exact rng_toInt _ | with_reducible exact yarr23 (by omega) | with_reducible exact yarr57 (by omega) | with_reducible exact Or.inl rfl | with_reducible exact Or.inr rfl)
        · skip
          refine uX1_firstFault_46 (by first | omega | assumption | with_reducible exact rng_ld _ _ _ | with_reducible exact rng_yand _ _ | with_reducible exact rng_yor _ _ | with_reducible exact rng_zcmp _ _ | with_reducible exact yand7 _ | with_reducible exact rng_toInt _ | with_reducible exact yarr23 (by omega) | with_reducible exact yarr57 (by omega) | with_reducible exact Or.inl rfl | with_reducible exact Or.inr rfl) (fun hc => ?_) (fun hc => ?_)
          · skip
            refine uX1_firstFault_68 ?_
            refine XC.deep (c1_standsAsFactor  (d := 0) i1 (by first | omega | assumption | with_reducible exact rng_ld _ _ _ | with_reducible exact rng_yand _ _ | with_reducible exact rng_yor _ _ | with_reducible exact rng_zcmp _ _ | with_reducible exact yand7 _ | with_reducible exact rng_toInt _ | with_reducible exact yarr23 (by omega) | with_reducible exact yarr57 (by omega) | with_reducible exact Or.inl rfl | with_reducible exact Or.inr rfl) (by first | omega | assumption | with_reducible exact rng_ld _ _ _ | with_reducible exact rng_yand _ _ | with_reducible exact rng_yor _ _ | with_reducible exact rng_zcmp _ _ | with_reducible exact yand7 _ | with_reducible exact rng_toInt _ | with_reducible exact yarr23 (by omega) | with_reducible exact yarr57 (by omega) | with_reducible exact Or.inl rfl | with_reducible exact Or.inr rfl) (fun v4 M4 fM4 p4a p4b => ?_)) (by omega)
            replace fM := fM.tr fM4 (by intro o j hw; first | omega | exact hw | (dsimp only [wSub, wRun, wNar, wFil, wCan, wLst, wCar, wDr] at hw; dsimp only [wSub, wRun, wNar, wFil, wCan, wLst, wCar, wDr]; omega) | (dsimp only [wSub, wRun, wNar, wFil, wCan, wLst, wCar, wDr]; omega) | (dsimp only [wSub, wRun, wNar, wFil, wCan, wLst, wCar, wDr] at hw; omega) | (simp [wSub, wRun, wNar, wFil, wCan, wLst, wCar, wDr] at hw; simp [wSub, wRun, wNar, wFil, wCan, wLst, wCar, wDr]; omega))
            have k77_1 := fM.ld (o := 77) (j := 1) (by intro hw; first | omega | (dsimp only [wSub, wRun, wNar, wFil, wCan, wLst, wCar, wDr] at hw; omega) | (simp [wSub, wRun, wNar, wFil, wCan, wLst, wCar, wDr] at hw; done) | (simp [wSub, wRun, wNar, wFil, wCan, wLst, wCar, wDr] at hw; omega))
            have hv := p4a
            have D4 := p4b
            refine uX1_firstFault_74 (by first | omega | assumption | with_reducible exact rng_ld _ _ _ | with_reducible exact rng_yand _ _ | with_reducible exact rng_yor _ _ | with_reducible exact rng_zcmp _ _ | with_reducible exact yand7 _ | with_reducible exact rng_toInt _ | with_reducible exact yarr23 (by omega) | with_reducible exact yarr57 (by omega) | with_reducible exact Or.inl rfl | with_reducible exact Or.inr rfl) (fun hc => ?_) (fun hc => ?_)
            · skip
              refine uX1_firstFault_83 ?_
              exact ih0 _ _ _ M4 fM (by first | omega | assumption | with_reducible exact rng_ld _ _ _ | with_reducible exact rng_yand _ _ | with_reducible exact rng_yor _ _ | with_reducible exact rng_zcmp _ _ | with_reducible exact yand7 _ | with_reducible exact rng_toInt _ | with_reducible exact yarr23 (by omega) | with_reducible exact yarr57 (by omega) | with_reducible exact Or.inl rfl | with_reducible exact Or.inr rfl) (by first | exact D | exact D4 (by omega)) (by omega)
            · skip
              refine uX1_firstFault_81 ?_
              exact k _ _ fM (by first | omega | assumption | with_reducible exact rng_ld _ _ _ | with_reducible exact rng_yand _ _ | with_reducible exact rng_yor _ _ | with_reducible exact rng_zcmp _ _ | with_reducible exact yand7 _ | with_reducible exact rng_toInt _ | with_reducible exact yarr23 (by omega) | with_reducible exact yarr57 (by omega) | with_reducible exact Or.inl rfl | with_reducible exact Or.inr rfl)
          · skip
            refine uX1_firstFault_60 ?_
            refine XC.deep (c1_standsAfter  (d := 0) i1 (by first | omega | assumption | with_reducible exact rng_ld _ _ _ | with_reducible exact rng_yand _ _ | with_reducible exact rng_yor _ _ | with_reducible exact rng_zcmp _ _ | with_reducible exact yand7 _ | with_reducible exact rng_toInt _ | with_reducible exact yarr23 (by omega) | with_reducible exact yarr57 (by omega) | with_reducible exact Or.inl rfl | with_reducible exact Or.inr rfl) (fun v5 M5 fM5 p5a p5b => ?_)) (by omega)
            replace fM := fM.tr fM5 (by intro o j hw; first | omega | exact hw | (dsimp only [wSub, wRun, wNar, wFil, wCan, wLst, wCar, wDr] at hw; dsimp only [wSub, wRun, wNar, wFil, wCan, wLst, wCar, wDr]; omega) | (dsimp only [wSub, wRun, wNar, wFil, wCan, wLst, wCar, wDr]; omega) | (dsimp only [wSub, wRun, wNar, wFil, wCan, wLst, wCar, wDr] at hw; omega) | (simp [wSub, wRun, wNar, wFil, wCan, wLst, wCar, wDr] at hw; simp [wSub, wRun, wNar, wFil, wCan, wLst, wCar, wDr]; omega))
            have k77_1 := fM.ld (o := 77) (j := 1) (by intro hw; first | omega | (dsimp only [wSub, wRun, wNar, wFil, wCan, wLst, wCar, wDr] at hw; omega) | (simp [wSub, wRun, wNar, wFil, wCan, wLst, wCar, wDr] at hw; done) | (simp [wSub, wRun, wNar, wFil, wCan, wLst, wCar, wDr] at hw; omega))
            have hv := p5a
            have D4 := p5b
            refine uX1_firstFault_65 ?_
            refine uX1_firstFault_74 (by first | omega | assumption | with_reducible exact rng_ld _ _ _ | with_reducible exact rng_yand _ _ | with_reducible exact rng_yor _ _ | with_reducible exact rng_zcmp _ _ | with_reducible exact yand7 _ | with_reducible exact rng_toInt _ | with_reducible exact yarr23 (by omega) | with_reducible exact yarr57 (by omega) | with_reducible exact Or.inl rfl | with_reducible exact Or.inr rfl) (fun hc => ?_) (fun hc => ?_)
            · skip
              refine uX1_firstFault_83 ?_
              exact ih0 _ _ _ M5 fM (by first | omega | assumption | with_reducible exact rng_ld _ _ _ | with_reducible exact rng_yand _ _ | with_reducible exact rng_yor _ _ | with_reducible exact rng_zcmp _ _ | with_reducible exact yand7 _ | with_reducible exact rng_toInt _ | with_reducible exact yarr23 (by omega) | with_reducible exact yarr57 (by omega) | with_reducible exact Or.inl rfl | with_reducible exact Or.inr rfl) (by first | exact D | exact D4 (by omega)) (by omega)
            · skip
              refine uX1_firstFault_81 ?_
              exact k _ _ fM (by first | omega | assumption | with_reducible exact rng_ld _ _ _ | with_reducible exact rng_yand _ _ | with_reducible exact rng_yor _ _ | with_reducible exact rng_zcmp _ _ | with_reducible exact yand7 _ | with_reducible exact rng_toInt _ | with_reducible exact yarr23 (by omega) | with_reducible exact yarr57 (by omega) | with_reducible exact Or.inl rfl | with_reducible exact Or.inr rfl)
  refine uX1_firstFault_0 ?_
  intro M6 hM6
  replace fM := fr.put fM hM6 (by first | omega | (dsimp only [wSub, wRun, wNar, wFil, wCan, wLst, wCar, wDr]; done) | (dsimp only [wSub, wRun, wNar, wFil, wCan, wLst, wCar, wDr]; omega) | (simp [wSub, wRun, wNar, wFil, wCan, wLst, wCar, wDr]; done) | (simp [wSub, wRun, wNar, wFil, wCan, wLst, wCar, wDr]; omega))
  have k77_1 := fM.ld (o := 77) (j := 1) (by intro hw; first | omega | (dsimp only [wSub, wRun, wNar, wFil, wCan, wLst, wCar, wDr] at hw; omega) | (simp [wSub, wRun, wNar, wFil, wCan, wLst, wCar, wDr] at hw; done) | (simp [wSub, wRun, wNar, wFil, wCan, wLst, wCar, wDr] at hw; omega))
  have a3 : ld M6 77 3 = 0 := by rw [hM6]; exact ld_same (by omega)
  refine uX1_firstFault_5 ?_
  intro M7 hM7
  replace fM := fr.put fM hM7 (by first | omega | (dsimp only [wSub, wRun, wNar, wFil, wCan, wLst, wCar, wDr]; done) | (dsimp only [wSub, wRun, wNar, wFil, wCan, wLst, wCar, wDr]; omega) | (simp [wSub, wRun, wNar, wFil, wCan, wLst, wCar, wDr]; done) | (simp [wSub, wRun, wNar, wFil, wCan, wLst, wCar, wDr]; omega))
  have k77_1 := fM.ld (o := 77) (j := 1) (by intro hw; first | omega | (dsimp only [wSub, wRun, wNar, wFil, wCan, wLst, wCar, wDr] at hw; omega) | (simp [wSub, wRun, wNar, wFil, wCan, wLst, wCar, wDr] at hw; done) | (simp [wSub, wRun, wNar, wFil, wCan, wLst, wCar, wDr] at hw; omega))
  replace a3 : ld M7 77 3 = 0 := by rw [hM7, ld_putne (by omega)]; exact a3
  refine uX1_firstFault_10 ?_
  intro M8 hM8
  replace fM := fr.put fM hM8 (by first | omega | (dsimp only [wSub, wRun, wNar, wFil, wCan, wLst, wCar, wDr]; done) | (dsimp only [wSub, wRun, wNar, wFil, wCan, wLst, wCar, wDr]; omega) | (simp [wSub, wRun, wNar, wFil, wCan, wLst, wCar, wDr]; done) | (simp [wSub, wRun, wNar, wFil, wCan, wLst, wCar, wDr]; omega))
  have k77_1 := fM.ld (o := 77) (j := 1) (by intro hw; first | omega | (dsimp only [wSub, wRun, wNar, wFil, wCan, wLst, wCar, wDr] at hw; omega) | (simp [wSub, wRun, wNar, wFil, wCan, wLst, wCar, wDr] at hw; done) | (simp [wSub, wRun, wNar, wFil, wCan, wLst, wCar, wDr] at hw; omega))
  replace a3 : ld M8 77 3 = 0 := by rw [hM8, ld_putne (by omega)]; exact a3
  have a6 : ld M8 77 6 = 0 := by rw [hM8]; exact ld_same (by omega)
  refine uX1_firstFault_15 ?_
  intro M9 hM9
  replace fM := fr.put fM hM9 (by first | omega | (dsimp only [wSub, wRun, wNar, wFil, wCan, wLst, wCar, wDr]; done) | (dsimp only [wSub, wRun, wNar, wFil, wCan, wLst, wCar, wDr]; omega) | (simp [wSub, wRun, wNar, wFil, wCan, wLst, wCar, wDr]; done) | (simp [wSub, wRun, wNar, wFil, wCan, wLst, wCar, wDr]; omega))
  have k77_1 := fM.ld (o := 77) (j := 1) (by intro hw; first | omega | (dsimp only [wSub, wRun, wNar, wFil, wCan, wLst, wCar, wDr] at hw; omega) | (simp [wSub, wRun, wNar, wFil, wCan, wLst, wCar, wDr] at hw; done) | (simp [wSub, wRun, wNar, wFil, wCan, wLst, wCar, wDr] at hw; omega))
  replace a3 : ld M9 77 3 = 0 := by rw [hM9, ld_putne (by omega)]; exact a3
  replace a6 : ld M9 77 6 = 0 := by rw [hM9, ld_putne (by omega)]; exact a6
  refine uX1_firstFault_20 ?_
  intro M10 hM10
  replace fM := fr.put fM hM10 (by first | omega | (dsimp only [wSub, wRun, wNar, wFil, wCan, wLst, wCar, wDr]; done) | (dsimp only [wSub, wRun, wNar, wFil, wCan, wLst, wCar, wDr]; omega) | (simp [wSub, wRun, wNar, wFil, wCan, wLst, wCar, wDr]; done) | (simp [wSub, wRun, wNar, wFil, wCan, wLst, wCar, wDr]; omega))
  have k77_1 := fM.ld (o := 77) (j := 1) (by intro hw; first | omega | (dsimp only [wSub, wRun, wNar, wFil, wCan, wLst, wCar, wDr] at hw; omega) | (simp [wSub, wRun, wNar, wFil, wCan, wLst, wCar, wDr] at hw; done) | (simp [wSub, wRun, wNar, wFil, wCan, wLst, wCar, wDr] at hw; omega))
  replace a3 : ld M10 77 3 = 0 := by rw [hM10, ld_putne (by omega)]; exact a3
  replace a6 : ld M10 77 6 = 0 := by rw [hM10, ld_putne (by omega)]; exact a6
  have a8 : ld M10 77 8 = 0 := by rw [hM10]; exact ld_same (by omega)
  refine uX1_firstFault_25 ?_
  intro M11 hM11
  replace fM := fr.put fM hM11 (by first | omega | (dsimp only [wSub, wRun, wNar, wFil, wCan, wLst, wCar, wDr]; done) | (dsimp only [wSub, wRun, wNar, wFil, wCan, wLst, wCar, wDr]; omega) | (simp [wSub, wRun, wNar, wFil, wCan, wLst, wCar, wDr]; done) | (simp [wSub, wRun, wNar, wFil, wCan, wLst, wCar, wDr]; omega))
  have k77_1 := fM.ld (o := 77) (j := 1) (by intro hw; first | omega | (dsimp only [wSub, wRun, wNar, wFil, wCan, wLst, wCar, wDr] at hw; omega) | (simp [wSub, wRun, wNar, wFil, wCan, wLst, wCar, wDr] at hw; done) | (simp [wSub, wRun, wNar, wFil, wCan, wLst, wCar, wDr] at hw; omega))
  replace a3 : ld M11 77 3 = 0 := by rw [hM11, ld_putne (by omega)]; exact a3
  replace a6 : ld M11 77 6 = 0 := by rw [hM11, ld_putne (by omega)]; exact a6
  replace a8 : ld M11 77 8 = 0 := by rw [hM11, ld_putne (by omega)]; exact a8
  have D : DJ M11 0 := ⟨by omega, by omega, by rw [a8, a6]; rfl⟩
  refine uX1_firstFault_30 ?_
  exact (go 1000000) _ _ _ M11 fM (by first | omega | assumption | with_reducible exact rng_ld _ _ _ | with_reducible exact rng_yand _ _ | with_reducible exact rng_yor _ _ | with_reducible exact rng_zcmp _ _ | with_reducible exact yand7 _ | with_reducible exact rng_toInt _ | with_reducible exact yarr23 (by omega) | with_reducible exact yarr57 (by omega) | with_reducible exact Or.inl rfl | with_reducible exact Or.inr rfl) (by first | exact D | exact D4 (by omega)) (by omega)
