/-! CLASS: KEEP, SHELF -/
theorem c11_keep {d : Nat} {Q : Int → yM → Prop} {M : yM}   (hk : 1 ≤ ld M 1 0 ∧ ld M 1 0 ≤ 8) (hT8 : T8 M 2) (h10 : ld M 10 0 = 0) (k : ∀ (v : Int) (M' : yM), fr (fun o j => o = 7 ∧ j = 0 ∨ 8 ≤ o ∧ o ≤ 11) M M' → (v = ld M' 7 0) → (ld M' 7 0 = ld M 1 0) → (∀ j, 0 ≤ j → j < 8 → ld M' 8 j = ld M 2 j) → (ld M' 10 0 = 0) → (∀ j, 0 ≤ j → j < 64 → ld M' 9 j = ld M 3 j) → Q v M') : XCi (d + 5) 91 [.inr (.inr 0)] M Q := by
  refine eX11_keep ?_
  have fM : fr (fun o j => o = 7 ∧ j = 0 ∨ 8 ≤ o ∧ o ≤ 11) M M := fr.rf
  have ts1 := tabSh1
  have ts7 := tabSh7
  have ts13 := tabSh13
  refine uX11_keep_0 ?_
  refine XC.deep (c9_copyFrom  (d := 0) (by first | assumption | exact tabSh1 | exact tabSh7 | exact tabSh13 | with_reducible exact yterm83 (by omega)) (by first | omega | assumption | with_reducible exact rng_ld _ _ _ | with_reducible exact rng_yand _ _ | with_reducible exact rng_yor _ _ | with_reducible exact rng_zcmp _ _ | with_reducible exact yand7 _ | with_reducible exact rng_toInt _ | with_reducible exact yarr23 (by omega) | with_reducible exact yarr57 (by omega) | with_reducible exact Or.inl rfl | with_reducible exact Or.inr rfl) (by first | omega | assumption | with_reducible exact rng_ld _ _ _ | with_reducible exact rng_yand _ _ | with_reducible exact rng_yor _ _ | with_reducible exact rng_zcmp _ _ | with_reducible exact yand7 _ | with_reducible exact rng_toInt _ | with_reducible exact yarr23 (by omega) | with_reducible exact yarr57 (by omega) | with_reducible exact Or.inl rfl | with_reducible exact Or.inr rfl) (by first | omega | assumption | with_reducible exact rng_ld _ _ _ | with_reducible exact rng_yand _ _ | with_reducible exact rng_yor _ _ | with_reducible exact rng_zcmp _ _ | with_reducible exact yand7 _ | with_reducible exact rng_toInt _ | with_reducible exact yarr23 (by omega) | with_reducible exact yarr57 (by omega) | with_reducible exact Or.inl rfl | with_reducible exact Or.inr rfl) h10 hT8 (fun M1 fM1 p1a p1b p1c p1d p1e p1f => ?_)) (by omega)
  replace fM := fM.tr fM1 (by intro o j hw; first | omega | exact hw | (dsimp only [wSub, wRun, wNar, wFil, wCan, wLst, wCar, wDr, wFl, wMq, wRd, wRx, wCr, wTab, wTr, wNew, wKi, wKn, wTn, wOb] at hw; dsimp only [wSub, wRun, wNar, wFil, wCan, wLst, wCar, wDr, wFl, wMq, wRd, wRx, wCr, wTab, wTr, wNew, wKi, wKn, wTn, wOb]; omega) | (dsimp only [wSub, wRun, wNar, wFil, wCan, wLst, wCar, wDr, wFl, wMq, wRd, wRx, wCr, wTab, wTr, wNew, wKi, wKn, wTn, wOb]; omega) | (dsimp only [wSub, wRun, wNar, wFil, wCan, wLst, wCar, wDr, wFl, wMq, wRd, wRx, wCr, wTab, wTr, wNew, wKi, wKn, wTn, wOb] at hw; omega) | (simp [wSub, wRun, wNar, wFil, wCan, wLst, wCar, wDr, wFl, wMq, wRd, wRx, wCr, wTab, wTr, wNew, wKi, wKn, wTn, wOb] at hw; simp [wSub, wRun, wNar, wFil, wCan, wLst, wCar, wDr, wFl, wMq, wRd, wRx, wCr, wTab, wTr, wNew, wKi, wKn, wTn, wOb]; omega))
  have z1 := p1a
  have z2 : ∀ j, 0 ≤ j → j < 8 → ld M1 8 j = ld M 2 j := p1b
  have z3 : ld M1 10 0 = 0 := p1c
  have z4 : ∀ j, 0 ≤ j → j < 64 → ld M1 9 j = ld M 3 j := p1f
  refine uX11_keep_11 ?_
  exact k _ _ fM rfl (by first | omega | assumption | with_reducible exact rng_ld _ _ _ | with_reducible exact rng_yand _ _ | with_reducible exact rng_yor _ _ | with_reducible exact rng_zcmp _ _ | with_reducible exact yand7 _ | with_reducible exact rng_toInt _ | with_reducible exact yarr23 (by omega) | with_reducible exact yarr57 (by omega) | with_reducible exact Or.inl rfl | with_reducible exact Or.inr rfl) (by first | omega | assumption | with_reducible exact rng_ld _ _ _ | with_reducible exact rng_yand _ _ | with_reducible exact rng_yor _ _ | with_reducible exact rng_zcmp _ _ | with_reducible exact yand7 _ | with_reducible exact rng_toInt _ | with_reducible exact yarr23 (by omega) | with_reducible exact yarr57 (by omega) | with_reducible exact Or.inl rfl | with_reducible exact Or.inr rfl) z3 z4
theorem c11_shelf {d : Nat} {Q : Int → yM → Prop} {M : yM} {x1 : Int}  (hk : 1 ≤ ld M 1 0 ∧ ld M 1 0 ≤ 8) (hn : 1 ≤ ld M 19 0 ∧ ld M 19 0 ≤ 8) (hT8 : T8 M 2) (hI : ∀ j, 0 ≤ j → j < ld M 1 0 → (0 ≤ ld M 2 j ∧ ld M 2 j < ld M 1 0) ∧ ld M 2 (ld M 2 j) = j) (h7 : 0 ≤ ld M 7 0 ∧ ld M 7 0 ≤ 8) (hI7 : ∀ j, 0 ≤ j → j < ld M 7 0 → (0 ≤ ld M 8 j ∧ ld M 8 j < ld M 7 0) ∧ ld M 8 (ld M 8 j) = j) (r1 : yR x1) (h88 : T8 M 8) (h04 : ld M 4 0 = 0) (h16 : ld M 16 0 = 0) (k : ∀ (v : Int) (M' : yM), fr (wKi) M M' → (v = -1 ∧ ¬ (x1 = 0 ∨ x1 = 1) ∧ M' = M ∨ v = -2 ∧ (x1 = 0 ∨ x1 = 1) ∧ ld M 7 0 = 0 ∧ M' = M ∨ v = -3 ∧ x1 = 1 ∧ ld M 7 0 ≠ 0 ∧ ld M 1 0 * ld M 7 0 > 8 ∧ M' = M ∨ v = ld M' 1 0 ∧ ld M 7 0 ≠ 0 ∧ (x1 = 0 ∧ ld M' 1 0 = ld M 7 0 ∧ (∀ j, 0 ≤ j → j < 8 → ld M' 2 j = ld M 8 j) ∨ x1 = 1 ∧ ld M 1 0 * ld M 7 0 ≤ 8 ∧ ld M' 1 0 = ld M 1 0 * ld M 7 0 ∧ TW (ld M 2) (ld M 8) (ld M 1 0) (ld M 7 0) 0 (ld M' 2) ∧ T8 M' 2) ∧ ld M' 19 0 = ld M 19 0 ∧ NF M' ∧ ld M' 4 0 = 0 ∧ ld M' 16 0 = 0 ∧ TS M' ∧ HJA M' 1 ∧ (x1 = 0 → ∀ j, 0 ≤ j → j < 64 → ld M' 3 j = ld M 9 j) ∧ (x1 = 1 → T2 (ld M 3) (ld M 9) (ld M 1 0) (ld M 7 0) (ld M 7 0) 0 0 0 (ld M' 3))) → (M' = M ∨ FGn M') → Q v M') : XCi (d + 5) 92 [.inr (.inr 0), .inl x1] M Q := by
  refine eX11_shelf ?_
  have fM : fr (wKi) M M := fr.rf
  have ts1 := tabSh1
  have ts7 := tabSh7
  have ts13 := tabSh13
  have mb := mulb (a := ld M 1 0) (b := ld M 7 0) (by omega) (by omega)
  refine uX11_shelf_0 ?_
  refine c11_isChoice  (by first | omega | assumption | with_reducible exact rng_ld _ _ _ | with_reducible exact rng_yand _ _ | with_reducible exact rng_yor _ _ | with_reducible exact rng_zcmp _ _ | with_reducible exact yand7 _ | with_reducible exact rng_toInt _ | with_reducible exact yarr23 (by omega) | with_reducible exact yarr57 (by omega) | with_reducible exact Or.inl rfl | with_reducible exact Or.inr rfl) (fun v1 p1a => ?_)
  refine uX11_shelf_4 (by first | omega | assumption | with_reducible exact rng_ld _ _ _ | with_reducible exact rng_yand _ _ | with_reducible exact rng_yor _ _ | with_reducible exact rng_zcmp _ _ | with_reducible exact yand7 _ | with_reducible exact rng_toInt _ | with_reducible exact yarr23 (by omega) | with_reducible exact yarr57 (by omega) | with_reducible exact Or.inl rfl | with_reducible exact Or.inr rfl) (fun hc => ?_) (fun hc => ?_)
  · skip
    refine uX11_shelf_9 (fun hc => ?_) (fun hc => ?_)
    · skip
      refine uX11_shelf_22 (by first | omega | assumption | with_reducible exact rng_ld _ _ _ | with_reducible exact rng_yand _ _ | with_reducible exact rng_yor _ _ | with_reducible exact rng_zcmp _ _ | with_reducible exact yand7 _ | with_reducible exact rng_toInt _ | with_reducible exact yarr23 (by omega) | with_reducible exact yarr57 (by omega) | with_reducible exact Or.inl rfl | with_reducible exact Or.inr rfl) (fun hc => ?_) (fun hc => ?_)
      · skip
        refine uX11_shelf_40 (by first | omega | assumption | with_reducible exact rng_ld _ _ _ | with_reducible exact rng_yand _ _ | with_reducible exact rng_yor _ _ | with_reducible exact rng_zcmp _ _ | with_reducible exact yand7 _ | with_reducible exact rng_toInt _ | with_reducible exact yarr23 (by omega) | with_reducible exact yarr57 (by omega) | with_reducible exact Or.inl rfl | with_reducible exact Or.inr rfl) (fun hc => ?_) (fun hc => ?_)
        · skip
          refine uX11_shelf_63 ?_
          refine XC.deep (c9_copyFrom  (d := 0) (by first | assumption | exact tabSh1 | exact tabSh7 | exact tabSh13 | with_reducible exact yterm83 (by omega)) (by first | omega | assumption | with_reducible exact rng_ld _ _ _ | with_reducible exact rng_yand _ _ | with_reducible exact rng_yor _ _ | with_reducible exact rng_zcmp _ _ | with_reducible exact yand7 _ | with_reducible exact rng_toInt _ | with_reducible exact yarr23 (by omega) | with_reducible exact yarr57 (by omega) | with_reducible exact Or.inl rfl | with_reducible exact Or.inr rfl) (by first | omega | assumption | with_reducible exact rng_ld _ _ _ | with_reducible exact rng_yand _ _ | with_reducible exact rng_yor _ _ | with_reducible exact rng_zcmp _ _ | with_reducible exact yand7 _ | with_reducible exact rng_toInt _ | with_reducible exact yarr23 (by omega) | with_reducible exact yarr57 (by omega) | with_reducible exact Or.inl rfl | with_reducible exact Or.inr rfl) (by first | omega | assumption | with_reducible exact rng_ld _ _ _ | with_reducible exact rng_yand _ _ | with_reducible exact rng_yor _ _ | with_reducible exact rng_zcmp _ _ | with_reducible exact yand7 _ | with_reducible exact rng_toInt _ | with_reducible exact yarr23 (by omega) | with_reducible exact yarr57 (by omega) | with_reducible exact Or.inl rfl | with_reducible exact Or.inr rfl) h16 hT8 (fun M2 fM2 p2a p2b p2c p2d p2e p2f => ?_)) (by omega)
          replace fM := fM.tr fM2 in_Ki3
          have r63 : ∀ j, 0 ≤ j → j < 64 → ld M2 15 j = ld M 3 j := p2f
          have v63 : ∀ j, ld M2 9 j = ld M 9 j := fun j => fM2.ld (by omega)
          have y16 : ld M2 16 0 = 0 := p2c
          have y4 : ld M2 4 0 = 0 := by rw [fM2.ld (by omega)]; exact h04
          have s63 := p2a
          have e63 : ∀ j, 0 ≤ j → j < 8 → ld M2 14 j = ld M 2 j := p2b
          have c63 : ld M2 19 0 = ld M 19 0 := fM2.ld (by omega)
          have u63 : T8 M2 2 := hT8.fr fM2 (fun _ _ _ => by omega)
          have y63 : ld M2 7 0 = ld M 7 0 := fM2.ld (by omega)
          have w63 : ∀ j, ld M2 8 j = ld M 8 j := fun j => fM2.ld (by omega)
          have g63 : ∀ j, 0 ≤ j → j < ld M2 13 0 → 0 ≤ ld M2 14 j ∧ ld M2 14 j < ld M2 13 0 := fun j h1 h2 => by
            rw [s63] at h2 ⊢
            rw [e63 j h1 (by omega)]
            exact (hI j h1 h2).1
          have l63 : ∀ j, 0 ≤ j → j < ld M2 7 0 → 0 ≤ ld M2 8 j ∧ ld M2 8 j < ld M2 7 0 := fun j h1 h2 => by
            rw [y63] at h2 ⊢
            rw [w63]
            exact (hI7 j h1 h2).1
          have m63 : ld M2 13 0 * ld M2 7 0 ≤ 8 := by rw [s63, y63]; omega
          refine uX11_shelf_74 ?_
          refine XC.deep (c9_becomeMadeOfTwo  (d := 0) (by omega) (by omega) m63 g63 l63 u63 y4 (fun M3 fM3 p3a p3b p3c p3d p3e p3f p3g => ?_)) (by omega)
          replace fM := fM.tr fM3 in_Ki1
          have j89 : HJA M3 1 := p3f
          have g89 : (x1 = 0 → ∀ j, 0 ≤ j → j < 64 → ld M3 3 j = ld M 9 j) ∧ (x1 = 1 → T2 (ld M 3) (ld M 9) (ld M 1 0) (ld M 7 0) (ld M 7 0) 0 0 0 (ld M3 3)) := ⟨fun q => absurd q (by omega), fun _ => by
            have q := p3g
            rw [s63, y63] at q
            exact q.cg (fun a b a1 a2 b1 b2 => (r63 _ (by omega) (by omega)).symm) (fun a b a1 a2 b1 b2 => (v63 _).symm)⟩
          have w16 : ld M3 16 0 = 0 := by rw [fM3.ld (by dsimp only [wTab]; omega)]; exact y16
          have w4 : ld M3 4 0 = 0 := p3d
          have wT : TS M3 := p3e
          have b63 := ixb (k := ld M2 13 0) (m := ld M2 7 0) (x := 0) (y := 0) (by omega) (by omega) m63
          have c89 : ld M3 19 0 = ld M 19 0 := by rw [fM3.ld (by dsimp only [wTab]; omega)]; exact c63
          have k89 : 1 ≤ ld M3 1 0 ∧ ld M3 1 0 ≤ 8 := by omega
          have d89 : x1 = 0 ∧ ld M3 1 0 = ld M 7 0 ∧ (∀ j, 0 ≤ j → j < 8 → ld M3 2 j = ld M 8 j) ∨ x1 = 1 ∧ ld M 1 0 * ld M 7 0 ≤ 8 ∧ ld M3 1 0 = ld M 1 0 * ld M 7 0 ∧ TW (ld M 2) (ld M 8) (ld M 1 0) (ld M 7 0) 0 (ld M3 2) ∧ T8 M3 2 := Or.inr ⟨by omega, by omega, by rw [p3a, s63, y63], by
            have q := p3b
            rw [s63, y63] at q
            exact q.cg (m := ld M 7 0) (by omega) (by omega) (by omega) e63 (fun j _ _ => w63 j) (fun _ => rfl), p3c⟩
          refine uX11_shelf_89 ?_
          refine XC.deep (c11_startAnew  (d := 0) (by first | omega | assumption | with_reducible exact rng_ld _ _ _ | with_reducible exact rng_yand _ _ | with_reducible exact rng_yor _ _ | with_reducible exact rng_zcmp _ _ | with_reducible exact yand7 _ | with_reducible exact rng_toInt _ | with_reducible exact yarr23 (by omega) | with_reducible exact yarr57 (by omega) | with_reducible exact Or.inl rfl | with_reducible exact Or.inr rfl) (by first | omega | assumption | with_reducible exact rng_ld _ _ _ | with_reducible exact rng_yand _ _ | with_reducible exact rng_yor _ _ | with_reducible exact rng_zcmp _ _ | with_reducible exact yand7 _ | with_reducible exact rng_toInt _ | with_reducible exact yarr23 (by omega) | with_reducible exact yarr57 (by omega) | with_reducible exact Or.inl rfl | with_reducible exact Or.inr rfl) (fun M4 fM4 p4a p4b p4c => ?_)) (by omega)
          replace fM := fM.tr fM4 in_Ki2
          have zF := p4c
          have z9 : HJA M4 1 := j89.fr fM4 (by (first | (dsimp only [wNew]; omega) | omega)) (fun _ => by (first | (dsimp only [wNew]; omega) | omega)) (fun _ => by (first | (dsimp only [wNew]; omega) | omega))
          have z10 : (x1 = 0 → ∀ j, 0 ≤ j → j < 64 → ld M4 3 j = ld M 9 j) ∧ (x1 = 1 → T2 (ld M 3) (ld M 9) (ld M 1 0) (ld M 7 0) (ld M 7 0) 0 0 0 (ld M4 3)) := by
            rw [show ld M4 3 = ld M3 3 from funext fun j => fM4.ld (by (first | (dsimp only [wNew]; omega) | omega))]
            exact g89
          have z6 : ld M4 4 0 = 0 := by rw [fM4.ld (by (first | (dsimp only [wNew]; omega) | omega))]; exact w4
          have z7 : ld M4 16 0 = 0 := by rw [fM4.ld (by (first | (dsimp only [wNew]; omega) | omega))]; exact w16
          have z8 : TS M4 := wT.fr fM4 (by (first | (dsimp only [wNew]; omega) | omega)) (fun _ => by (first | (dsimp only [wNew]; omega) | omega)) (fun _ => by (first | (dsimp only [wNew]; omega) | omega))
          have z1 : ld M4 19 0 = ld M 19 0 := by omega
          have z2 := p4b
          have z3 : x1 = 0 ∧ ld M4 1 0 = ld M 7 0 ∧ (∀ j, 0 ≤ j → j < 8 → ld M4 2 j = ld M 8 j) ∨ x1 = 1 ∧ ld M 1 0 * ld M 7 0 ≤ 8 ∧ ld M4 1 0 = ld M 1 0 * ld M 7 0 ∧ TW (ld M 2) (ld M 8) (ld M 1 0) (ld M 7 0) 0 (ld M4 2) ∧ T8 M4 2 := by
            rcases d89 with q | q
            · exact Or.inl ⟨q.1, by rw [fM4.ld (by omega)]; exact q.2.1, fun j h1 h2 => by rw [fM4.ld (by omega)]; exact q.2.2 j h1 h2⟩
            · exact Or.inr ⟨q.1, q.2.1, by rw [fM4.ld (by omega)]; exact q.2.2.1, q.2.2.2.1.cg (m := ld M 7 0) (by omega) (by omega) (by omega) (fun _ _ _ => rfl) (fun _ _ _ => rfl) (fun j => fM4.ld (by omega)), q.2.2.2.2.fr fM4 (fun _ _ _ => by omega)⟩
          refine uX11_shelf_93 ?_
          exact k _ _ fM (Or.inr (Or.inr (Or.inr ⟨rfl, by omega, z3, z1, z2, z6, z7, z8, z9, z10⟩))) (Or.inr zF)
        · skip
          refine uX11_shelf_60 ?_
          exact k _ _ fM (Or.inr (Or.inr (Or.inl ⟨rfl, by omega, by omega, by omega, rfl⟩))) (Or.inl rfl)
      · skip
        refine uX11_shelf_26 ?_
        refine XC.deep (c9_copyFrom  (d := 0) (by first | assumption | exact tabSh1 | exact tabSh7 | exact tabSh13 | with_reducible exact yterm83 (by omega)) (by first | omega | assumption | with_reducible exact rng_ld _ _ _ | with_reducible exact rng_yand _ _ | with_reducible exact rng_yor _ _ | with_reducible exact rng_zcmp _ _ | with_reducible exact yand7 _ | with_reducible exact rng_toInt _ | with_reducible exact yarr23 (by omega) | with_reducible exact yarr57 (by omega) | with_reducible exact Or.inl rfl | with_reducible exact Or.inr rfl) (by first | omega | assumption | with_reducible exact rng_ld _ _ _ | with_reducible exact rng_yand _ _ | with_reducible exact rng_yor _ _ | with_reducible exact rng_zcmp _ _ | with_reducible exact yand7 _ | with_reducible exact rng_toInt _ | with_reducible exact yarr23 (by omega) | with_reducible exact yarr57 (by omega) | with_reducible exact Or.inl rfl | with_reducible exact Or.inr rfl) (by first | omega | assumption | with_reducible exact rng_ld _ _ _ | with_reducible exact rng_yand _ _ | with_reducible exact rng_yor _ _ | with_reducible exact rng_zcmp _ _ | with_reducible exact yand7 _ | with_reducible exact rng_toInt _ | with_reducible exact yarr23 (by omega) | with_reducible exact yarr57 (by omega) | with_reducible exact Or.inl rfl | with_reducible exact Or.inr rfl) h04 h88 (fun M5 fM5 p5a p5b p5c p5d p5e p5f => ?_)) (by omega)
        replace fM := fM.tr fM5 in_Ki4
        have j89 : HJA M5 1 := p5e
        have r26 : ∀ j, 0 ≤ j → j < 64 → ld M5 3 j = ld M 9 j := p5f
        have g89 : (x1 = 0 → ∀ j, 0 ≤ j → j < 64 → ld M5 3 j = ld M 9 j) ∧ (x1 = 1 → T2 (ld M 3) (ld M 9) (ld M 1 0) (ld M 7 0) (ld M 7 0) 0 0 0 (ld M5 3)) := ⟨fun _ => r26, fun q => absurd q (by omega)⟩
        have w16 : ld M5 16 0 = 0 := by rw [fM5.ld (by omega)]; exact h16
        have w4 : ld M5 4 0 = 0 := p5c
        have wT : TS M5 := p5d
        have c89 : ld M5 19 0 = ld M 19 0 := fM5.ld (by omega)
        have k89 : 1 ≤ ld M5 1 0 ∧ ld M5 1 0 ≤ 8 := by omega
        have d89 : x1 = 0 ∧ ld M5 1 0 = ld M 7 0 ∧ (∀ j, 0 ≤ j → j < 8 → ld M5 2 j = ld M 8 j) ∨ x1 = 1 ∧ ld M 1 0 * ld M 7 0 ≤ 8 ∧ ld M5 1 0 = ld M 1 0 * ld M 7 0 ∧ TW (ld M 2) (ld M 8) (ld M 1 0) (ld M 7 0) 0 (ld M5 2) ∧ T8 M5 2 := Or.inl ⟨by omega, p5a, p5b⟩
        refine uX11_shelf_37 ?_
        refine uX11_shelf_89 ?_
        refine XC.deep (c11_startAnew  (d := 0) (by first | omega | assumption | with_reducible exact rng_ld _ _ _ | with_reducible exact rng_yand _ _ | with_reducible exact rng_yor _ _ | with_reducible exact rng_zcmp _ _ | with_reducible exact yand7 _ | with_reducible exact rng_toInt _ | with_reducible exact yarr23 (by omega) | with_reducible exact yarr57 (by omega) | with_reducible exact Or.inl rfl | with_reducible exact Or.inr rfl) (by first | omega | assumption | with_reducible exact rng_ld _ _ _ | with_reducible exact rng_yand _ _ | with_reducible exact rng_yor _ _ | with_reducible exact rng_zcmp _ _ | with_reducible exact yand7 _ | with_reducible exact rng_toInt _ | with_reducible exact yarr23 (by omega) | with_reducible exact yarr57 (by omega) | with_reducible exact Or.inl rfl | with_reducible exact Or.inr rfl) (fun M6 fM6 p6a p6b p6c => ?_)) (by omega)
        replace fM := fM.tr fM6 in_Ki2
        have zF := p6c
        have z9 : HJA M6 1 := j89.fr fM6 (by (first | (dsimp only [wNew]; omega) | omega)) (fun _ => by (first | (dsimp only [wNew]; omega) | omega)) (fun _ => by (first | (dsimp only [wNew]; omega) | omega))
        have z10 : (x1 = 0 → ∀ j, 0 ≤ j → j < 64 → ld M6 3 j = ld M 9 j) ∧ (x1 = 1 → T2 (ld M 3) (ld M 9) (ld M 1 0) (ld M 7 0) (ld M 7 0) 0 0 0 (ld M6 3)) := by
          rw [show ld M6 3 = ld M5 3 from funext fun j => fM6.ld (by (first | (dsimp only [wNew]; omega) | omega))]
          exact g89
        have z6 : ld M6 4 0 = 0 := by rw [fM6.ld (by (first | (dsimp only [wNew]; omega) | omega))]; exact w4
        have z7 : ld M6 16 0 = 0 := by rw [fM6.ld (by (first | (dsimp only [wNew]; omega) | omega))]; exact w16
        have z8 : TS M6 := wT.fr fM6 (by (first | (dsimp only [wNew]; omega) | omega)) (fun _ => by (first | (dsimp only [wNew]; omega) | omega)) (fun _ => by (first | (dsimp only [wNew]; omega) | omega))
        have z1 : ld M6 19 0 = ld M 19 0 := by omega
        have z2 := p6b
        have z3 : x1 = 0 ∧ ld M6 1 0 = ld M 7 0 ∧ (∀ j, 0 ≤ j → j < 8 → ld M6 2 j = ld M 8 j) ∨ x1 = 1 ∧ ld M 1 0 * ld M 7 0 ≤ 8 ∧ ld M6 1 0 = ld M 1 0 * ld M 7 0 ∧ TW (ld M 2) (ld M 8) (ld M 1 0) (ld M 7 0) 0 (ld M6 2) ∧ T8 M6 2 := by
          rcases d89 with q | q
          · exact Or.inl ⟨q.1, by rw [fM6.ld (by omega)]; exact q.2.1, fun j h1 h2 => by rw [fM6.ld (by omega)]; exact q.2.2 j h1 h2⟩
          · exact Or.inr ⟨q.1, q.2.1, by rw [fM6.ld (by omega)]; exact q.2.2.1, q.2.2.2.1.cg (m := ld M 7 0) (by omega) (by omega) (by omega) (fun _ _ _ => rfl) (fun _ _ _ => rfl) (fun j => fM6.ld (by omega)), q.2.2.2.2.fr fM6 (fun _ _ _ => by omega)⟩
        refine uX11_shelf_93 ?_
        exact k _ _ fM (Or.inr (Or.inr (Or.inr ⟨rfl, by omega, z3, z1, z2, z6, z7, z8, z9, z10⟩))) (Or.inr zF)
    · skip
      refine uX11_shelf_19 ?_
      exact k _ _ fM (Or.inr (Or.inl ⟨rfl, by omega, by omega, rfl⟩)) (Or.inl rfl)
  · skip
    refine uX11_shelf_7 ?_
    exact k _ _ fM (Or.inl ⟨rfl, by omega, rfl⟩) (Or.inl rfl)
