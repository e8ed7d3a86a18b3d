/-! CLASS: THE CALLS -/
theorem mulb {a b : Int} (ha : 0 ≤ a ∧ a ≤ 8) (hb : 0 ≤ b ∧ b ≤ 64) : 0 ≤ a * b ∧ a * b ≤ 512 := by
  have h1 := Int.mul_nonneg ha.1 hb.1
  have h2 := Int.mul_le_mul_of_nonneg_right ha.2 hb.1
  omega
/-- what is kept of the net is forgotten -/
def FGn (M : yM) : Prop := (∀ w : Int, 0 ≤ w → w < 3 → ld M 62 w = 0) ∧ ld M 65 6 = 0 ∧ ld M 65 8 = 0 ∧ ld M 65 9 = 0 ∧ ld M 69 9 = 0
/-- the net told anew -/
def NF (M : yM) : Prop := ∀ i c, 0 ≤ i → i < 8 → 0 ≤ c → c < 8 → ld M 20 (8 * i + c) = if i = c then 1 else al (ld M 1 0)
theorem TSl.fr {W : Nat → Int → Prop} {M M' : yM} {n : Int} (h : TSl M 1 n) (f : fr W M M') (h1 : ¬ W 1 0) (h2 : ∀ j, ¬ W 2 j) (h3 : ∀ j, ¬ W 4 j) : TSl M' 1 n := fun s q1 q2 => by
  have e1 : ld M' (1 + 1) = ld M (1 + 1) := funext fun j => f.ld (h2 j)
  have e2 : ld M' (1 + 3) s = ld M (1 + 3) s := f.ld (h3 s)
  have e3 : ld M' 1 0 = ld M 1 0 := f.ld h1
  rw [e1, e2, e3]
  exact h s q1 q2
theorem TS.fr {W : Nat → Int → Prop} {M M' : yM} (h : TS M) (f : fr W M M') (h1 : ¬ W 1 0) (h2 : ∀ j, ¬ W 2 j) (h3 : ∀ j, ¬ W 4 j) : TS M' := by
  have e3 : ld M' 1 0 = ld M 1 0 := f.ld h1
  unfold TS
  rw [e3]
  exact TSl.fr h f h1 h2 h3
theorem NF.fr {W : Nat → Int → Prop} {M M' : yM} (h : NF M) (f : fr W M M') (h1 : ¬ W 1 0) (h2 : ∀ j, ¬ W 20 j) : NF M' := fun i c a1 a2 a3 a4 => by
  rw [f.ld (h2 _), f.ld h1]
  exact h i c a1 a2 a3 a4
abbrev wNew (o : Nat) (j : Int) : Prop := (o = 19 ∧ j = 0) ∨ o = 20 ∨ (84 ≤ o ∧ o ≤ 91) ∨ o = 75 ∨ o = 76 ∨ o = 62 ∨ (o = 65 ∧ 6 ≤ j ∧ j ≠ 7) ∨ (o = 69 ∧ j = 9)
abbrev wKi (o : Nat) (j : Int) : Prop := (o = 1 ∧ j = 0) ∨ (2 ≤ o ∧ o ≤ 4) ∨ (o = 5 ∧ 17 ≤ j % 256 ∧ j % 16 ≠ 0) ∨ o = 6 ∨ (13 ≤ o ∧ o ≤ 17) ∨ (o = 19 ∧ j = 0) ∨ o = 20 ∨ (84 ≤ o ∧ o ≤ 91) ∨ o = 75 ∨ o = 76 ∨ o = 62 ∨ (o = 65 ∧ 6 ≤ j ∧ j ≠ 7) ∨ (o = 69 ∧ j = 9)
abbrev wKn (o : Nat) (j : Int) : Prop := (o = 1 ∧ j = 0) ∨ (2 ≤ o ∧ o ≤ 4) ∨ (o = 5 ∧ 17 ≤ j % 256 ∧ j % 16 ≠ 0) ∨ o = 6 ∨ (o = 19 ∧ j = 0) ∨ o = 20 ∨ (84 ≤ o ∧ o ≤ 91) ∨ o = 75 ∨ o = 76 ∨ o = 62 ∨ (o = 65 ∧ 6 ≤ j ∧ j ≠ 7) ∨ (o = 69 ∧ j = 9)
abbrev wTn (o : Nat) (j : Int) : Prop := (2 ≤ o ∧ o ≤ 4) ∨ (o = 5 ∧ 17 ≤ j % 256 ∧ j % 16 ≠ 0) ∨ o = 6 ∨ (o = 19 ∧ j = 0) ∨ o = 20 ∨ (84 ≤ o ∧ o ≤ 91) ∨ o = 75 ∨ o = 76 ∨ o = 62 ∨ (o = 65 ∧ 6 ≤ j ∧ j ≠ 7) ∨ (o = 69 ∧ j = 9)
abbrev wOb (o : Nat) (j : Int) : Prop := (o = 0 ∧ j = 11) ∨ (o = 22 ∧ 6 ≤ j) ∨ (24 ≤ o ∧ o ≤ 57) ∨ (65 ≤ o ∧ o ≤ 76) ∨ (o = 77 ∧ j ≠ 1) ∨ o = 79 ∨ o = 80 ∨ o = 82
theorem c11_forgetNet {d : Nat} {Q : yM → Prop} {M : yM}    (k : ∀ (M' : yM), fr (fun o j => o = 62 ∨ (o = 65 ∧ 6 ≤ j ∧ j ≠ 7) ∨ (o = 69 ∧ j = 9)) M M' → (FGn M') → Q M') : XCv (d + 1) 115 [.inr (.inr 0)] M Q := by
  refine eX11_forgetNet ?_
  have fM : fr (fun o j => o = 62 ∨ (o = 65 ∧ 6 ≤ j ∧ j ≠ 7) ∨ (o = 69 ∧ j = 9)) M M := fr.rf
  refine uX11_forgetNet_0 ?_
  refine c4_forget   (fun M1 fM1 p1a => ?_)
  replace fM := fM.tr fM1 (by intro o j hw; first | omega | exact hw | (dsimp only [wSub, wRun, wNar, wFil, wCan, wLst, wCar, wDr, wFl, wMq, wRd, wRx, wCr, wTab, wTr, wNew, wKi, wKn, wTn, wOb] at hw; dsimp only [wSub, wRun, wNar, wFil, wCan, wLst, wCar, wDr, wFl, wMq, wRd, wRx, wCr, wTab, wTr, wNew, wKi, wKn, wTn, wOb]; omega) | (dsimp only [wSub, wRun, wNar, wFil, wCan, wLst, wCar, wDr, wFl, wMq, wRd, wRx, wCr, wTab, wTr, wNew, wKi, wKn, wTn, wOb]; omega) | (dsimp only [wSub, wRun, wNar, wFil, wCan, wLst, wCar, wDr, wFl, wMq, wRd, wRx, wCr, wTab, wTr, wNew, wKi, wKn, wTn, wOb] at hw; omega) | (simp [wSub, wRun, wNar, wFil, wCan, wLst, wCar, wDr, wFl, wMq, wRd, wRx, wCr, wTab, wTr, wNew, wKi, wKn, wTn, wOb] at hw; simp [wSub, wRun, wNar, wFil, wCan, wLst, wCar, wDr, wFl, wMq, wRd, wRx, wCr, wTab, wTr, wNew, wKi, wKn, wTn, wOb]; omega))
  have z62 := p1a
  refine uX11_forgetNet_7 ?_
  refine c3_forget   (fun M2 fM2 p2a => ?_)
  replace fM := fM.tr fM2 (by intro o j hw; first | omega | exact hw | (dsimp only [wSub, wRun, wNar, wFil, wCan, wLst, wCar, wDr, wFl, wMq, wRd, wRx, wCr, wTab, wTr, wNew, wKi, wKn, wTn, wOb] at hw; dsimp only [wSub, wRun, wNar, wFil, wCan, wLst, wCar, wDr, wFl, wMq, wRd, wRx, wCr, wTab, wTr, wNew, wKi, wKn, wTn, wOb]; omega) | (dsimp only [wSub, wRun, wNar, wFil, wCan, wLst, wCar, wDr, wFl, wMq, wRd, wRx, wCr, wTab, wTr, wNew, wKi, wKn, wTn, wOb]; omega) | (dsimp only [wSub, wRun, wNar, wFil, wCan, wLst, wCar, wDr, wFl, wMq, wRd, wRx, wCr, wTab, wTr, wNew, wKi, wKn, wTn, wOb] at hw; omega) | (simp [wSub, wRun, wNar, wFil, wCan, wLst, wCar, wDr, wFl, wMq, wRd, wRx, wCr, wTab, wTr, wNew, wKi, wKn, wTn, wOb] at hw; simp [wSub, wRun, wNar, wFil, wCan, wLst, wCar, wDr, wFl, wMq, wRd, wRx, wCr, wTab, wTr, wNew, wKi, wKn, wTn, wOb]; omega))
  have y62 : ∀ w : Int, 0 ≤ w → w < 3 → ld M2 62 w = 0 := fun w a1 a2 => by rw [fM2.ld (by omega)]; exact z62 w a1 a2
  have z65 := p2a
  refine uX11_forgetNet_14 ?_
  refine c6_forget   (fun M3 fM3 p3a => ?_)
  replace fM := fM.tr fM3 (by intro o j hw; first | omega | exact hw | (dsimp only [wSub, wRun, wNar, wFil, wCan, wLst, wCar, wDr, wFl, wMq, wRd, wRx, wCr, wTab, wTr, wNew, wKi, wKn, wTn, wOb] at hw; dsimp only [wSub, wRun, wNar, wFil, wCan, wLst, wCar, wDr, wFl, wMq, wRd, wRx, wCr, wTab, wTr, wNew, wKi, wKn, wTn, wOb]; omega) | (dsimp only [wSub, wRun, wNar, wFil, wCan, wLst, wCar, wDr, wFl, wMq, wRd, wRx, wCr, wTab, wTr, wNew, wKi, wKn, wTn, wOb]; omega) | (dsimp only [wSub, wRun, wNar, wFil, wCan, wLst, wCar, wDr, wFl, wMq, wRd, wRx, wCr, wTab, wTr, wNew, wKi, wKn, wTn, wOb] at hw; omega) | (simp [wSub, wRun, wNar, wFil, wCan, wLst, wCar, wDr, wFl, wMq, wRd, wRx, wCr, wTab, wTr, wNew, wKi, wKn, wTn, wOb] at hw; simp [wSub, wRun, wNar, wFil, wCan, wLst, wCar, wDr, wFl, wMq, wRd, wRx, wCr, wTab, wTr, wNew, wKi, wKn, wTn, wOb]; omega))
  have zz : FGn M3 := ⟨fun w a1 a2 => by rw [fM3.ld (by omega)]; exact y62 w a1 a2, by rw [fM3.ld (by omega)]; exact z65.1, by rw [fM3.ld (by omega)]; exact z65.2.1, by rw [fM3.ld (by omega)]; exact z65.2.2, p3a⟩
  refine uX11_forgetNet_21 ?_
  exact k _ fM zz
theorem c11_forgetTable {d : Nat} {Q : yM → Prop} {M : yM}    (k : ∀ (M' : yM), fr (fun o j => o = 75 ∨ o = 76 ∨ o = 62 ∨ (o = 65 ∧ 6 ≤ j ∧ j ≠ 7) ∨ (o = 69 ∧ j = 9)) M M' → (FGn M') → Q M') : XCv (d + 2) 114 [.inr (.inr 0)] M Q := by
  refine eX11_forgetTable ?_
  have fM : fr (fun o j => o = 75 ∨ o = 76 ∨ o = 62 ∨ (o = 65 ∧ 6 ≤ j ∧ j ≠ 7) ∨ (o = 69 ∧ j = 9)) M M := fr.rf
  refine uX11_forgetTable_0 ?_
  refine XC.deep (c0_forget  (d := 0)  (fun M1 fM1 => ?_)) (by omega)
  replace fM := fM.tr fM1 (by intro o j hw; first | omega | exact hw | (dsimp only [wSub, wRun, wNar, wFil, wCan, wLst, wCar, wDr, wFl, wMq, wRd, wRx, wCr, wTab, wTr, wNew, wKi, wKn, wTn, wOb] at hw; dsimp only [wSub, wRun, wNar, wFil, wCan, wLst, wCar, wDr, wFl, wMq, wRd, wRx, wCr, wTab, wTr, wNew, wKi, wKn, wTn, wOb]; omega) | (dsimp only [wSub, wRun, wNar, wFil, wCan, wLst, wCar, wDr, wFl, wMq, wRd, wRx, wCr, wTab, wTr, wNew, wKi, wKn, wTn, wOb]; omega) | (dsimp only [wSub, wRun, wNar, wFil, wCan, wLst, wCar, wDr, wFl, wMq, wRd, wRx, wCr, wTab, wTr, wNew, wKi, wKn, wTn, wOb] at hw; omega) | (simp [wSub, wRun, wNar, wFil, wCan, wLst, wCar, wDr, wFl, wMq, wRd, wRx, wCr, wTab, wTr, wNew, wKi, wKn, wTn, wOb] at hw; simp [wSub, wRun, wNar, wFil, wCan, wLst, wCar, wDr, wFl, wMq, wRd, wRx, wCr, wTab, wTr, wNew, wKi, wKn, wTn, wOb]; omega))
  refine uX11_forgetTable_7 ?_
  refine XC.deep (c11_forgetNet  (d := 0)  (fun M2 fM2 p2a => ?_)) (by omega)
  replace fM := fM.tr fM2 (by intro o j hw; first | omega | exact hw | (dsimp only [wSub, wRun, wNar, wFil, wCan, wLst, wCar, wDr, wFl, wMq, wRd, wRx, wCr, wTab, wTr, wNew, wKi, wKn, wTn, wOb] at hw; dsimp only [wSub, wRun, wNar, wFil, wCan, wLst, wCar, wDr, wFl, wMq, wRd, wRx, wCr, wTab, wTr, wNew, wKi, wKn, wTn, wOb]; omega) | (dsimp only [wSub, wRun, wNar, wFil, wCan, wLst, wCar, wDr, wFl, wMq, wRd, wRx, wCr, wTab, wTr, wNew, wKi, wKn, wTn, wOb]; omega) | (dsimp only [wSub, wRun, wNar, wFil, wCan, wLst, wCar, wDr, wFl, wMq, wRd, wRx, wCr, wTab, wTr, wNew, wKi, wKn, wTn, wOb] at hw; omega) | (simp [wSub, wRun, wNar, wFil, wCan, wLst, wCar, wDr, wFl, wMq, wRd, wRx, wCr, wTab, wTr, wNew, wKi, wKn, wTn, wOb] at hw; simp [wSub, wRun, wNar, wFil, wCan, wLst, wCar, wDr, wFl, wMq, wRd, wRx, wCr, wTab, wTr, wNew, wKi, wKn, wTn, wOb]; omega))
  have zz := p2a
  refine uX11_forgetTable_11 ?_
  exact k _ fM zz
theorem c11_startAnew {d : Nat} {Q : yM → Prop} {M : yM}   (hk : 1 ≤ ld M 1 0 ∧ ld M 1 0 ≤ 8) (hn : 1 ≤ ld M 19 0 ∧ ld M 19 0 ≤ 8) (k : ∀ (M' : yM), fr (wNew) M M' → (ld M' 19 0 = ld M 19 0) → (NF M') → (FGn M') → Q M') : XCv (d + 3) 113 [.inr (.inr 0)] M Q := by
  refine eX11_startAnew ?_
  have fM : fr (wNew) M M := fr.rf
  have hal := al_le hk
  have go : ∀ N : Nat, (∀ (x1 : Int) (M9 : yM), fr (wNew) M M9 → (0 ≤ x1 ∧ x1 ≤ 4) → (ld M9 19 0 = ld M 19 0) → (NF M9) → (4 - x1 < (N : Int)) → XW kX11_startAnew (d + 3) none (wQv Q) 23 [some (.inr (.inr 0)), some (.inl x1)] [] M9) := by
    intro N
    induction N with
    | zero => intros; exfalso; omega
    | succ N ih =>
      have ih0 := ih
      clear fM
      intro x1 M1 fM i0 i1 i2 hm
      have k1_0 := fM.ld (o := 1) (j := 0) (by intro hw; first | omega | (dsimp only [wSub, wRun, wNar, wFil, wCan, wLst, wCar, wDr, wFl, wMq, wRd, wRx, wCr, wTab, wTr, wNew, wKi, wKn, wTn, wOb] at hw; omega) | (simp [wSub, wRun, wNar, wFil, wCan, wLst, wCar, wDr, wFl, wMq, wRd, wRx, wCr, wTab, wTr, wNew, wKi, wKn, wTn, wOb] at hw; done) | (simp [wSub, wRun, wNar, wFil, wCan, wLst, wCar, wDr, wFl, wMq, wRd, wRx, wCr, wTab, wTr, wNew, wKi, wKn, wTn, wOb] at hw; omega))
      refine uX11_startAnew_23 (by first | omega | assumption | with_reducible exact rng_ld _ _ _ | with_reducible exact rng_yand _ _ | with_reducible exact rng_yor _ _ | with_reducible exact rng_zcmp _ _ | with_reducible exact yand7 _ | with_reducible exact rng_toInt _ | with_reducible exact yarr23 (by omega) | with_reducible exact yarr57 (by omega) | with_reducible exact Or.inl rfl | with_reducible exact Or.inr rfl) (fun hc => ?_) (fun hc => ?_)
      · skip
        refine uX11_startAnew_43 ?_
        refine XC.deep (c11_forgetTable  (d := 0)  (fun M2 fM2 p2a => ?_)) (by omega)
        replace fM := fM.tr fM2 (by intro o j hw; first | omega | exact hw | (dsimp only [wSub, wRun, wNar, wFil, wCan, wLst, wCar, wDr, wFl, wMq, wRd, wRx, wCr, wTab, wTr, wNew, wKi, wKn, wTn, wOb] at hw; dsimp only [wSub, wRun, wNar, wFil, wCan, wLst, wCar, wDr, wFl, wMq, wRd, wRx, wCr, wTab, wTr, wNew, wKi, wKn, wTn, wOb]; omega) | (dsimp only [wSub, wRun, wNar, wFil, wCan, wLst, wCar, wDr, wFl, wMq, wRd, wRx, wCr, wTab, wTr, wNew, wKi, wKn, wTn, wOb]; omega) | (dsimp only [wSub, wRun, wNar, wFil, wCan, wLst, wCar, wDr, wFl, wMq, wRd, wRx, wCr, wTab, wTr, wNew, wKi, wKn, wTn, wOb] at hw; omega) | (simp [wSub, wRun, wNar, wFil, wCan, wLst, wCar, wDr, wFl, wMq, wRd, wRx, wCr, wTab, wTr, wNew, wKi, wKn, wTn, wOb] at hw; simp [wSub, wRun, wNar, wFil, wCan, wLst, wCar, wDr, wFl, wMq, wRd, wRx, wCr, wTab, wTr, wNew, wKi, wKn, wTn, wOb]; omega))
        have k1_0 := fM.ld (o := 1) (j := 0) (by intro hw; first | omega | (dsimp only [wSub, wRun, wNar, wFil, wCan, wLst, wCar, wDr, wFl, wMq, wRd, wRx, wCr, wTab, wTr, wNew, wKi, wKn, wTn, wOb] at hw; omega) | (simp [wSub, wRun, wNar, wFil, wCan, wLst, wCar, wDr, wFl, wMq, wRd, wRx, wCr, wTab, wTr, wNew, wKi, wKn, wTn, wOb] at hw; done) | (simp [wSub, wRun, wNar, wFil, wCan, wLst, wCar, wDr, wFl, wMq, wRd, wRx, wCr, wTab, wTr, wNew, wKi, wKn, wTn, wOb] at hw; omega))
        have f43 := p2a
        have e43 : ld M2 19 0 = ld M 19 0 := by rw [fM2.ld (by omega)]; exact i1
        have n43 : NF M2 := i2.fr fM2 (by omega) (fun _ => by omega)
        refine uX11_startAnew_47 ?_
        exact k _ fM e43 n43 f43
      · skip
        refine uX11_startAnew_28 (by first | omega | assumption | with_reducible exact rng_ld _ _ _ | with_reducible exact rng_yand _ _ | with_reducible exact rng_yor _ _ | with_reducible exact rng_zcmp _ _ | with_reducible exact yand7 _ | with_reducible exact rng_toInt _ | with_reducible exact yarr23 (by omega) | with_reducible exact yarr57 (by omega) | with_reducible exact Or.inl rfl | with_reducible exact Or.inr rfl) ?_
        refine c10_empty  (by first | assumption | exact tabSh1 | exact tabSh7 | exact tabSh13 | with_reducible exact yterm83 (by omega))  (fun M3 fM3 => ?_)
        replace fM := fM.tr fM3 (by intro o j hw; first | omega | exact hw | (dsimp only [wSub, wRun, wNar, wFil, wCan, wLst, wCar, wDr, wFl, wMq, wRd, wRx, wCr, wTab, wTr, wNew, wKi, wKn, wTn, wOb] at hw; dsimp only [wSub, wRun, wNar, wFil, wCan, wLst, wCar, wDr, wFl, wMq, wRd, wRx, wCr, wTab, wTr, wNew, wKi, wKn, wTn, wOb]; omega) | (dsimp only [wSub, wRun, wNar, wFil, wCan, wLst, wCar, wDr, wFl, wMq, wRd, wRx, wCr, wTab, wTr, wNew, wKi, wKn, wTn, wOb]; omega) | (dsimp only [wSub, wRun, wNar, wFil, wCan, wLst, wCar, wDr, wFl, wMq, wRd, wRx, wCr, wTab, wTr, wNew, wKi, wKn, wTn, wOb] at hw; omega) | (simp [wSub, wRun, wNar, wFil, wCan, wLst, wCar, wDr, wFl, wMq, wRd, wRx, wCr, wTab, wTr, wNew, wKi, wKn, wTn, wOb] at hw; simp [wSub, wRun, wNar, wFil, wCan, wLst, wCar, wDr, wFl, wMq, wRd, wRx, wCr, wTab, wTr, wNew, wKi, wKn, wTn, wOb]; omega))
        have k1_0 := fM.ld (o := 1) (j := 0) (by intro hw; first | omega | (dsimp only [wSub, wRun, wNar, wFil, wCan, wLst, wCar, wDr, wFl, wMq, wRd, wRx, wCr, wTab, wTr, wNew, wKi, wKn, wTn, wOb] at hw; omega) | (simp [wSub, wRun, wNar, wFil, wCan, wLst, wCar, wDr, wFl, wMq, wRd, wRx, wCr, wTab, wTr, wNew, wKi, wKn, wTn, wOb] at hw; done) | (simp [wSub, wRun, wNar, wFil, wCan, wLst, wCar, wDr, wFl, wMq, wRd, wRx, wCr, wTab, wTr, wNew, wKi, wKn, wTn, wOb] at hw; omega))
        have e28 : ld M3 19 0 = ld M 19 0 := by rw [fM3.ld (by omega)]; exact i1
        have n28 : NF M3 := i2.fr fM3 (by omega) (fun _ => by omega)
        refine uX11_startAnew_37 ?_
        exact ih0 _ M3 fM (by first | omega | assumption | with_reducible exact rng_ld _ _ _ | with_reducible exact rng_yand _ _ | with_reducible exact rng_yor _ _ | with_reducible exact rng_zcmp _ _ | with_reducible exact yand7 _ | with_reducible exact rng_toInt _ | with_reducible exact yarr23 (by omega) | with_reducible exact yarr57 (by omega) | with_reducible exact Or.inl rfl | with_reducible exact Or.inr rfl) (by first | exact e18 | exact e28) (by first | exact n18 | exact n28) (by omega)
  refine uX11_startAnew_0 ?_
  refine c9_all  (by first | omega | assumption | with_reducible exact rng_ld _ _ _ | with_reducible exact rng_yand _ _ | with_reducible exact rng_yor _ _ | with_reducible exact rng_zcmp _ _ | with_reducible exact yand7 _ | with_reducible exact rng_toInt _ | with_reducible exact yarr23 (by omega) | with_reducible exact yarr57 (by omega) | with_reducible exact Or.inl rfl | with_reducible exact Or.inr rfl) ?_
  refine uX11_startAnew_18 ?_
  refine c5_free  (by first | omega | assumption | with_reducible exact rng_ld _ _ _ | with_reducible exact rng_yand _ _ | with_reducible exact rng_yor _ _ | with_reducible exact rng_zcmp _ _ | with_reducible exact yand7 _ | with_reducible exact rng_toInt _ | with_reducible exact yarr23 (by omega) | with_reducible exact yarr57 (by omega) | with_reducible exact Or.inl rfl | with_reducible exact Or.inr rfl) (by first | omega | assumption | with_reducible exact rng_ld _ _ _ | with_reducible exact rng_yand _ _ | with_reducible exact rng_yor _ _ | with_reducible exact rng_zcmp _ _ | with_reducible exact yand7 _ | with_reducible exact rng_toInt _ | with_reducible exact yarr23 (by omega) | with_reducible exact yarr57 (by omega) | with_reducible exact Or.inl rfl | with_reducible exact Or.inr rfl) (fun M5 fM5 p5a p5b => ?_)
  replace fM := fM.tr fM5 (by intro o j hw; first | omega | exact hw | (dsimp only [wSub, wRun, wNar, wFil, wCan, wLst, wCar, wDr, wFl, wMq, wRd, wRx, wCr, wTab, wTr, wNew, wKi, wKn, wTn, wOb] at hw; dsimp only [wSub, wRun, wNar, wFil, wCan, wLst, wCar, wDr, wFl, wMq, wRd, wRx, wCr, wTab, wTr, wNew, wKi, wKn, wTn, wOb]; omega) | (dsimp only [wSub, wRun, wNar, wFil, wCan, wLst, wCar, wDr, wFl, wMq, wRd, wRx, wCr, wTab, wTr, wNew, wKi, wKn, wTn, wOb]; omega) | (dsimp only [wSub, wRun, wNar, wFil, wCan, wLst, wCar, wDr, wFl, wMq, wRd, wRx, wCr, wTab, wTr, wNew, wKi, wKn, wTn, wOb] at hw; omega) | (simp [wSub, wRun, wNar, wFil, wCan, wLst, wCar, wDr, wFl, wMq, wRd, wRx, wCr, wTab, wTr, wNew, wKi, wKn, wTn, wOb] at hw; simp [wSub, wRun, wNar, wFil, wCan, wLst, wCar, wDr, wFl, wMq, wRd, wRx, wCr, wTab, wTr, wNew, wKi, wKn, wTn, wOb]; omega))
  have k1_0 := fM.ld (o := 1) (j := 0) (by intro hw; first | omega | (dsimp only [wSub, wRun, wNar, wFil, wCan, wLst, wCar, wDr, wFl, wMq, wRd, wRx, wCr, wTab, wTr, wNew, wKi, wKn, wTn, wOb] at hw; omega) | (simp [wSub, wRun, wNar, wFil, wCan, wLst, wCar, wDr, wFl, wMq, wRd, wRx, wCr, wTab, wTr, wNew, wKi, wKn, wTn, wOb] at hw; done) | (simp [wSub, wRun, wNar, wFil, wCan, wLst, wCar, wDr, wFl, wMq, wRd, wRx, wCr, wTab, wTr, wNew, wKi, wKn, wTn, wOb] at hw; omega))
  have e18 : ld M5 19 0 = ld M 19 0 := by assumption
  have n18 : NF M5 := fun i c a1 a2 a3 a4 => by rw [k1_0]; exact p5b i c a1 a2 a3 a4
  refine uX11_startAnew_21 ?_
  exact (go 1000000) _ M5 fM (by first | omega | assumption | with_reducible exact rng_ld _ _ _ | with_reducible exact rng_yand _ _ | with_reducible exact rng_yor _ _ | with_reducible exact rng_zcmp _ _ | with_reducible exact yand7 _ | with_reducible exact rng_toInt _ | with_reducible exact yarr23 (by omega) | with_reducible exact yarr57 (by omega) | with_reducible exact Or.inl rfl | with_reducible exact Or.inr rfl) (by first | exact e18 | exact e28) (by first | exact n18 | exact n28) (by omega)
theorem c11_kinds {d : Nat} {Q : Int → yM → Prop} {M : yM} {x1 : Int}  (hk : 1 ≤ ld M 1 0 ∧ ld M 1 0 ≤ 8) (hn : 1 ≤ ld M 19 0 ∧ ld M 19 0 ≤ 8) (r1 : yR x1) (h04 : ld M 4 0 = 0) (k : ∀ (v : Int) (M' : yM), fr (wKn) M M' → (v = -1 ∧ ¬ (1 ≤ x1 ∧ x1 ≤ 8) ∧ M' = M ∨ v = ld M 1 0 ∧ (1 ≤ x1 ∧ x1 ≤ 8) ∧ ld M' 1 0 = x1 ∧ (∀ a, 0 ≤ a → a < 8 → ld M' 2 a = a) ∧ ld M' 19 0 = ld M 19 0 ∧ NF M' ∧ ld M' 4 0 = 0 ∧ TS M' ∧ HJA M' 1 ∧ OPN M') → (M' = M ∨ FGn M') → Q v M') : XCi (d + 6) 84 [.inr (.inr 0), .inl x1] M Q := by
  refine eX11_kinds ?_
  have fM : fr (wKn) M M := fr.rf
  refine uX11_kinds_0 (by first | omega | assumption | with_reducible exact rng_ld _ _ _ | with_reducible exact rng_yand _ _ | with_reducible exact rng_yor _ _ | with_reducible exact rng_zcmp _ _ | with_reducible exact yand7 _ | with_reducible exact rng_toInt _ | with_reducible exact yarr23 (by omega) | with_reducible exact yarr57 (by omega) | with_reducible exact Or.inl rfl | with_reducible exact Or.inr rfl) (fun hc => ?_) (fun hc => ?_)
  · skip
    refine uX11_kinds_11 ?_
    exact k _ _ fM (Or.inl ⟨rfl, by omega, rfl⟩) (Or.inl rfl)
  · skip
    refine uX11_kinds_5 (by first | omega | assumption | with_reducible exact rng_ld _ _ _ | with_reducible exact rng_yand _ _ | with_reducible exact rng_yor _ _ | with_reducible exact rng_zcmp _ _ | with_reducible exact yand7 _ | with_reducible exact rng_toInt _ | with_reducible exact yarr23 (by omega) | with_reducible exact yarr57 (by omega) | with_reducible exact Or.inl rfl | with_reducible exact Or.inr rfl) (fun hc => ?_) (fun hc => ?_)
    · skip
      refine uX11_kinds_13 ?_
      refine XC.deep (c9_restart  (d := 0) (by first | omega | assumption | with_reducible exact rng_ld _ _ _ | with_reducible exact rng_yand _ _ | with_reducible exact rng_yor _ _ | with_reducible exact rng_zcmp _ _ | with_reducible exact yand7 _ | with_reducible exact rng_toInt _ | with_reducible exact yarr23 (by omega) | with_reducible exact yarr57 (by omega) | with_reducible exact Or.inl rfl | with_reducible exact Or.inr rfl) (by first | omega | assumption | with_reducible exact rng_ld _ _ _ | with_reducible exact rng_yand _ _ | with_reducible exact rng_yor _ _ | with_reducible exact rng_zcmp _ _ | with_reducible exact yand7 _ | with_reducible exact rng_toInt _ | with_reducible exact yarr23 (by omega) | with_reducible exact yarr57 (by omega) | with_reducible exact Or.inl rfl | with_reducible exact Or.inr rfl) (fun M1 fM1 p1a p1b p1c p1d p1e p1f => ?_)) (by omega)
      replace fM := fM.tr fM1 (by intro o j hw; first | omega | exact hw | (dsimp only [wSub, wRun, wNar, wFil, wCan, wLst, wCar, wDr, wFl, wMq, wRd, wRx, wCr, wTab, wTr, wNew, wKi, wKn, wTn, wOb] at hw; dsimp only [wSub, wRun, wNar, wFil, wCan, wLst, wCar, wDr, wFl, wMq, wRd, wRx, wCr, wTab, wTr, wNew, wKi, wKn, wTn, wOb]; omega) | (dsimp only [wSub, wRun, wNar, wFil, wCan, wLst, wCar, wDr, wFl, wMq, wRd, wRx, wCr, wTab, wTr, wNew, wKi, wKn, wTn, wOb]; omega) | (dsimp only [wSub, wRun, wNar, wFil, wCan, wLst, wCar, wDr, wFl, wMq, wRd, wRx, wCr, wTab, wTr, wNew, wKi, wKn, wTn, wOb] at hw; omega) | (simp [wSub, wRun, wNar, wFil, wCan, wLst, wCar, wDr, wFl, wMq, wRd, wRx, wCr, wTab, wTr, wNew, wKi, wKn, wTn, wOb] at hw; simp [wSub, wRun, wNar, wFil, wCan, wLst, wCar, wDr, wFl, wMq, wRd, wRx, wCr, wTab, wTr, wNew, wKi, wKn, wTn, wOb]; omega))
      have y9 := p1e
      have y10 := p1f
      have z5 := p1c
      have z6 : TS M1 := p1d
      have e13 : ld M1 19 0 = ld M 19 0 := fM1.ld (by dsimp only [wTab]; omega)
      have s13 := p1a
      have t13 := p1b
      refine uX11_kinds_29 ?_
      refine XC.deep (c11_startAnew  (d := 0) (by first | omega | assumption | with_reducible exact rng_ld _ _ _ | with_reducible exact rng_yand _ _ | with_reducible exact rng_yor _ _ | with_reducible exact rng_zcmp _ _ | with_reducible exact yand7 _ | with_reducible exact rng_toInt _ | with_reducible exact yarr23 (by omega) | with_reducible exact yarr57 (by omega) | with_reducible exact Or.inl rfl | with_reducible exact Or.inr rfl) (by first | omega | assumption | with_reducible exact rng_ld _ _ _ | with_reducible exact rng_yand _ _ | with_reducible exact rng_yor _ _ | with_reducible exact rng_zcmp _ _ | with_reducible exact yand7 _ | with_reducible exact rng_toInt _ | with_reducible exact yarr23 (by omega) | with_reducible exact yarr57 (by omega) | with_reducible exact Or.inl rfl | with_reducible exact Or.inr rfl) (fun M2 fM2 p2a p2b p2c => ?_)) (by omega)
      replace fM := fM.tr fM2 (by intro o j hw; first | omega | exact hw | (dsimp only [wSub, wRun, wNar, wFil, wCan, wLst, wCar, wDr, wFl, wMq, wRd, wRx, wCr, wTab, wTr, wNew, wKi, wKn, wTn, wOb] at hw; dsimp only [wSub, wRun, wNar, wFil, wCan, wLst, wCar, wDr, wFl, wMq, wRd, wRx, wCr, wTab, wTr, wNew, wKi, wKn, wTn, wOb]; omega) | (dsimp only [wSub, wRun, wNar, wFil, wCan, wLst, wCar, wDr, wFl, wMq, wRd, wRx, wCr, wTab, wTr, wNew, wKi, wKn, wTn, wOb]; omega) | (dsimp only [wSub, wRun, wNar, wFil, wCan, wLst, wCar, wDr, wFl, wMq, wRd, wRx, wCr, wTab, wTr, wNew, wKi, wKn, wTn, wOb] at hw; omega) | (simp [wSub, wRun, wNar, wFil, wCan, wLst, wCar, wDr, wFl, wMq, wRd, wRx, wCr, wTab, wTr, wNew, wKi, wKn, wTn, wOb] at hw; simp [wSub, wRun, wNar, wFil, wCan, wLst, wCar, wDr, wFl, wMq, wRd, wRx, wCr, wTab, wTr, wNew, wKi, wKn, wTn, wOb]; omega))
      have zF := p2c
      have z1 : ld M2 1 0 = x1 := by rw [fM2.ld (by dsimp only [wNew]; omega)]; exact s13
      have z2 : ∀ a, 0 ≤ a → a < 8 → ld M2 2 a = a := fun a h1 h2 => by rw [fM2.ld (by dsimp only [wNew]; omega)]; exact t13 a h1 h2
      have z3 : ld M2 19 0 = ld M 19 0 := by omega
      have z4 := p2b
      have z7 : ld M2 4 0 = 0 := by rw [fM2.ld (by dsimp only [wNew]; omega)]; exact z5
      have z8 : TS M2 := z6.fr fM2 (by dsimp only [wNew]; omega) (fun _ => by dsimp only [wNew]; omega) (fun _ => by dsimp only [wNew]; omega)
      have z9 : HJA M2 1 := y9.fr fM2 (by dsimp only [wNew]; omega) (fun _ => by dsimp only [wNew]; omega) (fun _ => by dsimp only [wNew]; omega)
      have z10 : OPN M2 := y10.fr fM2 (by dsimp only [wNew]; omega) (fun _ => by dsimp only [wNew]; omega) (fun _ => by dsimp only [wNew]; omega)
      refine uX11_kinds_33 ?_
      exact k _ _ fM (Or.inr ⟨rfl, by omega, z1, z2, z3, z4, z7, z8, z9, z10⟩) (Or.inr zF)
    · skip
      refine uX11_kinds_11 ?_
      exact k _ _ fM (Or.inl ⟨rfl, by omega, rfl⟩) (Or.inl rfl)
theorem c11_turn {d : Nat} {Q : Int → yM → Prop} {M : yM} {x1 : Int} {x2 : Int}  (hk : 1 ≤ ld M 1 0 ∧ ld M 1 0 ≤ 8) (hn : 1 ≤ ld M 19 0 ∧ ld M 19 0 ≤ 8) (hT8 : T8 M 2) (r1 : yR x1) (r2 : yR x2) (h04 : ld M 4 0 = 0) (k : ∀ (v : Int) (M' : yM), fr (wTn) M M' → (v = -1 ∧ ¬ ((1 ≤ x1 ∧ x1 < ld M 1 0) ∧ 1 ≤ x2 ∧ x2 < ld M 1 0) ∧ M' = M ∨ v = 1 ∧ ((1 ≤ x1 ∧ x1 < ld M 1 0) ∧ 1 ≤ x2 ∧ x2 < ld M 1 0) ∧ ld M' 1 0 = ld M 1 0 ∧ (∀ j, ld M' 2 j = mt (ld M 2) x1 x2 j) ∧ ld M' 19 0 = ld M 19 0 ∧ NF M' ∧ ld M' 4 0 = 0 ∧ TS M' ∧ HJA M' 1 ∧ OPN M') → (M' = M ∨ FGn M') → Q v M') : XCi (d + 6) 85 [.inr (.inr 0), .inl x1, .inl x2] M Q := by
  refine eX11_turn ?_
  have fM : fr (wTn) M M := fr.rf
  have hal := al_le hk
  refine uX11_turn_0 ?_
  refine c11_isOther  (by first | omega | assumption | with_reducible exact rng_ld _ _ _ | with_reducible exact rng_yand _ _ | with_reducible exact rng_yor _ _ | with_reducible exact rng_zcmp _ _ | with_reducible exact yand7 _ | with_reducible exact rng_toInt _ | with_reducible exact yarr23 (by omega) | with_reducible exact yarr57 (by omega) | with_reducible exact Or.inl rfl | with_reducible exact Or.inr rfl) (fun v1 p1a => ?_)
  refine uX11_turn_5 (by first | omega | assumption | with_reducible exact rng_ld _ _ _ | with_reducible exact rng_yand _ _ | with_reducible exact rng_yor _ _ | with_reducible exact rng_zcmp _ _ | with_reducible exact yand7 _ | with_reducible exact rng_toInt _ | with_reducible exact yarr23 (by omega) | with_reducible exact yarr57 (by omega) | with_reducible exact Or.inl rfl | with_reducible exact Or.inr rfl) (fun hc => ?_) (fun hc => ?_)
  · skip
    refine uX11_turn_16 ?_
    exact k _ _ fM (Or.inl ⟨rfl, by omega, rfl⟩) (Or.inl rfl)
  · skip
    refine uX11_turn_8 ?_
    refine c11_isOther  (by first | omega | assumption | with_reducible exact rng_ld _ _ _ | with_reducible exact rng_yand _ _ | with_reducible exact rng_yor _ _ | with_reducible exact rng_zcmp _ _ | with_reducible exact yand7 _ | with_reducible exact rng_toInt _ | with_reducible exact yarr23 (by omega) | with_reducible exact yarr57 (by omega) | with_reducible exact Or.inl rfl | with_reducible exact Or.inr rfl) (fun v2 p2a => ?_)
    refine uX11_turn_13 (by first | omega | assumption | with_reducible exact rng_ld _ _ _ | with_reducible exact rng_yand _ _ | with_reducible exact rng_yor _ _ | with_reducible exact rng_zcmp _ _ | with_reducible exact yand7 _ | with_reducible exact rng_toInt _ | with_reducible exact yarr23 (by omega) | with_reducible exact yarr57 (by omega) | with_reducible exact Or.inl rfl | with_reducible exact Or.inr rfl) (fun hc => ?_) (fun hc => ?_)
    · skip
      refine uX11_turn_18 ?_
      refine XC.deep (c9_makeTurns  (d := 0) (by first | omega | assumption | with_reducible exact rng_ld _ _ _ | with_reducible exact rng_yand _ _ | with_reducible exact rng_yor _ _ | with_reducible exact rng_zcmp _ _ | with_reducible exact yand7 _ | with_reducible exact rng_toInt _ | with_reducible exact yarr23 (by omega) | with_reducible exact yarr57 (by omega) | with_reducible exact Or.inl rfl | with_reducible exact Or.inr rfl) (by first | omega | assumption | with_reducible exact rng_ld _ _ _ | with_reducible exact rng_yand _ _ | with_reducible exact rng_yor _ _ | with_reducible exact rng_zcmp _ _ | with_reducible exact yand7 _ | with_reducible exact rng_toInt _ | with_reducible exact yarr23 (by omega) | with_reducible exact yarr57 (by omega) | with_reducible exact Or.inl rfl | with_reducible exact Or.inr rfl) (by first | omega | assumption | with_reducible exact rng_ld _ _ _ | with_reducible exact rng_yand _ _ | with_reducible exact rng_yor _ _ | with_reducible exact rng_zcmp _ _ | with_reducible exact yand7 _ | with_reducible exact rng_toInt _ | with_reducible exact yarr23 (by omega) | with_reducible exact yarr57 (by omega) | with_reducible exact Or.inl rfl | with_reducible exact Or.inr rfl) (by first | omega | assumption | with_reducible exact rng_ld _ _ _ | with_reducible exact rng_yand _ _ | with_reducible exact rng_yor _ _ | with_reducible exact rng_zcmp _ _ | with_reducible exact yand7 _ | with_reducible exact rng_toInt _ | with_reducible exact yarr23 (by omega) | with_reducible exact yarr57 (by omega) | with_reducible exact Or.inl rfl | with_reducible exact Or.inr rfl) (by first | omega | assumption | with_reducible exact rng_ld _ _ _ | with_reducible exact rng_yand _ _ | with_reducible exact rng_yor _ _ | with_reducible exact rng_zcmp _ _ | with_reducible exact yand7 _ | with_reducible exact rng_toInt _ | with_reducible exact yarr23 (by omega) | with_reducible exact yarr57 (by omega) | with_reducible exact Or.inl rfl | with_reducible exact Or.inr rfl) (fun M3 fM3 p3a p3b p3c p3d p3e => ?_)) (by omega)
      replace fM := fM.tr fM3 (by intro o j hw; first | omega | exact hw | (dsimp only [wSub, wRun, wNar, wFil, wCan, wLst, wCar, wDr, wFl, wMq, wRd, wRx, wCr, wTab, wTr, wNew, wKi, wKn, wTn, wOb] at hw; dsimp only [wSub, wRun, wNar, wFil, wCan, wLst, wCar, wDr, wFl, wMq, wRd, wRx, wCr, wTab, wTr, wNew, wKi, wKn, wTn, wOb]; omega) | (dsimp only [wSub, wRun, wNar, wFil, wCan, wLst, wCar, wDr, wFl, wMq, wRd, wRx, wCr, wTab, wTr, wNew, wKi, wKn, wTn, wOb]; omega) | (dsimp only [wSub, wRun, wNar, wFil, wCan, wLst, wCar, wDr, wFl, wMq, wRd, wRx, wCr, wTab, wTr, wNew, wKi, wKn, wTn, wOb] at hw; omega) | (simp [wSub, wRun, wNar, wFil, wCan, wLst, wCar, wDr, wFl, wMq, wRd, wRx, wCr, wTab, wTr, wNew, wKi, wKn, wTn, wOb] at hw; simp [wSub, wRun, wNar, wFil, wCan, wLst, wCar, wDr, wFl, wMq, wRd, wRx, wCr, wTab, wTr, wNew, wKi, wKn, wTn, wOb]; omega))
      have k1_0 := fM.ld (o := 1) (j := 0) (by intro hw; first | omega | (dsimp only [wSub, wRun, wNar, wFil, wCan, wLst, wCar, wDr, wFl, wMq, wRd, wRx, wCr, wTab, wTr, wNew, wKi, wKn, wTn, wOb] at hw; omega) | (simp [wSub, wRun, wNar, wFil, wCan, wLst, wCar, wDr, wFl, wMq, wRd, wRx, wCr, wTab, wTr, wNew, wKi, wKn, wTn, wOb] at hw; done) | (simp [wSub, wRun, wNar, wFil, wCan, wLst, wCar, wDr, wFl, wMq, wRd, wRx, wCr, wTab, wTr, wNew, wKi, wKn, wTn, wOb] at hw; omega))
      have y9 := p3d
      have y10 := p3e
      have t18 := p3a
      have z5 := p3b
      have z6 : TS M3 := p3c
      have e18 : ld M3 19 0 = ld M 19 0 := fM3.ld (by omega)
      have hal2 := al_le (k := ld M3 1 0) (by omega)
      refine uX11_turn_27 ?_
      refine c9_all  (by first | omega | assumption | with_reducible exact rng_ld _ _ _ | with_reducible exact rng_yand _ _ | with_reducible exact rng_yor _ _ | with_reducible exact rng_zcmp _ _ | with_reducible exact yand7 _ | with_reducible exact rng_toInt _ | with_reducible exact yarr23 (by omega) | with_reducible exact yarr57 (by omega) | with_reducible exact Or.inl rfl | with_reducible exact Or.inr rfl) ?_
      refine uX11_turn_45 ?_
      refine c5_free  (by first | omega | assumption | with_reducible exact rng_ld _ _ _ | with_reducible exact rng_yand _ _ | with_reducible exact rng_yor _ _ | with_reducible exact rng_zcmp _ _ | with_reducible exact yand7 _ | with_reducible exact rng_toInt _ | with_reducible exact yarr23 (by omega) | with_reducible exact yarr57 (by omega) | with_reducible exact Or.inl rfl | with_reducible exact Or.inr rfl) (by first | omega | assumption | with_reducible exact rng_ld _ _ _ | with_reducible exact rng_yand _ _ | with_reducible exact rng_yor _ _ | with_reducible exact rng_zcmp _ _ | with_reducible exact yand7 _ | with_reducible exact rng_toInt _ | with_reducible exact yarr23 (by omega) | with_reducible exact yarr57 (by omega) | with_reducible exact Or.inl rfl | with_reducible exact Or.inr rfl) (fun M5 fM5 p5a p5b => ?_)
      replace fM := fM.tr fM5 (by intro o j hw; first | omega | exact hw | (dsimp only [wSub, wRun, wNar, wFil, wCan, wLst, wCar, wDr, wFl, wMq, wRd, wRx, wCr, wTab, wTr, wNew, wKi, wKn, wTn, wOb] at hw; dsimp only [wSub, wRun, wNar, wFil, wCan, wLst, wCar, wDr, wFl, wMq, wRd, wRx, wCr, wTab, wTr, wNew, wKi, wKn, wTn, wOb]; omega) | (dsimp only [wSub, wRun, wNar, wFil, wCan, wLst, wCar, wDr, wFl, wMq, wRd, wRx, wCr, wTab, wTr, wNew, wKi, wKn, wTn, wOb]; omega) | (dsimp only [wSub, wRun, wNar, wFil, wCan, wLst, wCar, wDr, wFl, wMq, wRd, wRx, wCr, wTab, wTr, wNew, wKi, wKn, wTn, wOb] at hw; omega) | (simp [wSub, wRun, wNar, wFil, wCan, wLst, wCar, wDr, wFl, wMq, wRd, wRx, wCr, wTab, wTr, wNew, wKi, wKn, wTn, wOb] at hw; simp [wSub, wRun, wNar, wFil, wCan, wLst, wCar, wDr, wFl, wMq, wRd, wRx, wCr, wTab, wTr, wNew, wKi, wKn, wTn, wOb]; omega))
      have k1_0 := fM.ld (o := 1) (j := 0) (by intro hw; first | omega | (dsimp only [wSub, wRun, wNar, wFil, wCan, wLst, wCar, wDr, wFl, wMq, wRd, wRx, wCr, wTab, wTr, wNew, wKi, wKn, wTn, wOb] at hw; omega) | (simp [wSub, wRun, wNar, wFil, wCan, wLst, wCar, wDr, wFl, wMq, wRd, wRx, wCr, wTab, wTr, wNew, wKi, wKn, wTn, wOb] at hw; done) | (simp [wSub, wRun, wNar, wFil, wCan, wLst, wCar, wDr, wFl, wMq, wRd, wRx, wCr, wTab, wTr, wNew, wKi, wKn, wTn, wOb] at hw; omega))
      have y11 : HJA M5 1 := y9.fr fM5 (by omega) (fun _ => by omega) (fun _ => by omega)
      have y12 : OPN M5 := y10.fr fM5 (by omega) (fun _ => by omega) (fun _ => by omega)
      have z7 : ld M5 4 0 = 0 := by rw [fM5.ld (by omega)]; exact z5
      have z8 : TS M5 := z6.fr fM5 (by omega) (fun _ => by omega) (fun _ => by omega)
      have t45 : ∀ j, ld M5 2 j = mt (ld M 2) x1 x2 j := fun j => by rw [fM5.ld (by omega)]; exact t18 j
      have e45 := p5a
      have n45 : NF M5 := fun i c a1 a2 a3 a4 => by rw [fM5.ld (o := 1) (j := 0) (by omega)]; exact p5b i c a1 a2 a3 a4
      refine uX11_turn_48 ?_
      refine XC.deep (c11_forgetTable  (d := 0)  (fun M6 fM6 p6a => ?_)) (by omega)
      replace fM := fM.tr fM6 (by intro o j hw; first | omega | exact hw | (dsimp only [wSub, wRun, wNar, wFil, wCan, wLst, wCar, wDr, wFl, wMq, wRd, wRx, wCr, wTab, wTr, wNew, wKi, wKn, wTn, wOb] at hw; dsimp only [wSub, wRun, wNar, wFil, wCan, wLst, wCar, wDr, wFl, wMq, wRd, wRx, wCr, wTab, wTr, wNew, wKi, wKn, wTn, wOb]; omega) | (dsimp only [wSub, wRun, wNar, wFil, wCan, wLst, wCar, wDr, wFl, wMq, wRd, wRx, wCr, wTab, wTr, wNew, wKi, wKn, wTn, wOb]; omega) | (dsimp only [wSub, wRun, wNar, wFil, wCan, wLst, wCar, wDr, wFl, wMq, wRd, wRx, wCr, wTab, wTr, wNew, wKi, wKn, wTn, wOb] at hw; omega) | (simp [wSub, wRun, wNar, wFil, wCan, wLst, wCar, wDr, wFl, wMq, wRd, wRx, wCr, wTab, wTr, wNew, wKi, wKn, wTn, wOb] at hw; simp [wSub, wRun, wNar, wFil, wCan, wLst, wCar, wDr, wFl, wMq, wRd, wRx, wCr, wTab, wTr, wNew, wKi, wKn, wTn, wOb]; omega))
      have k1_0 := fM.ld (o := 1) (j := 0) (by intro hw; first | omega | (dsimp only [wSub, wRun, wNar, wFil, wCan, wLst, wCar, wDr, wFl, wMq, wRd, wRx, wCr, wTab, wTr, wNew, wKi, wKn, wTn, wOb] at hw; omega) | (simp [wSub, wRun, wNar, wFil, wCan, wLst, wCar, wDr, wFl, wMq, wRd, wRx, wCr, wTab, wTr, wNew, wKi, wKn, wTn, wOb] at hw; done) | (simp [wSub, wRun, wNar, wFil, wCan, wLst, wCar, wDr, wFl, wMq, wRd, wRx, wCr, wTab, wTr, wNew, wKi, wKn, wTn, wOb] at hw; omega))
      have zF := p6a
      have z11 : HJA M6 1 := y11.fr fM6 (by omega) (fun _ => by omega) (fun _ => by omega)
      have z12 : OPN M6 := y12.fr fM6 (by omega) (fun _ => by omega) (fun _ => by omega)
      have t48 : ∀ j, ld M6 2 j = mt (ld M 2) x1 x2 j := fun j => by rw [fM6.ld (by omega)]; exact t45 j
      have e48 : ld M6 19 0 = ld M 19 0 := by rw [fM6.ld (by omega)]; omega
      have n48 := n45.fr fM6 (by omega) (fun _ => by omega)
      have z9 : ld M6 4 0 = 0 := by rw [fM6.ld (by omega)]; exact z7
      have z10 : TS M6 := z8.fr fM6 (by omega) (fun _ => by omega) (fun _ => by omega)
      refine uX11_turn_52 ?_
      exact k _ _ fM (Or.inr ⟨rfl, by omega, k1_0, t48, e48, n48, z9, z10, z11, z12⟩) (Or.inr zF)
    · skip
      refine uX11_turn_16 ?_
      exact k _ _ fM (Or.inl ⟨rfl, by omega, rfl⟩) (Or.inl rfl)
