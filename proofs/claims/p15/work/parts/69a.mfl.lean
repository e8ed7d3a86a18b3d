/-! MODEL: FILLINGS EXACTLY -/
/-- up to a place all is as told -/
def TK (n x y : Int) (G S0 S : Int → Int) : Prop := ∀ p q : Int, 0 ≤ p → p < n → 0 ≤ q → q < n → S (8 * p + q) = if p < x ∨ p = x ∧ q < y then G (8 * p + q) else S0 (8 * p + q)
section
variable {n x y : Int} {G S0 S S' : Int → Int}
theorem TK.z : TK n 0 0 G S S := fun p q p1 p2 q1 q2 => by rw [if_neg (by omega)]
theorem TK.row (h : TK n x y G S0 S) (hy : n ≤ y) : TK n (x + 1) 0 G S0 S := fun p q p1 p2 q1 q2 => by
  rw [h p q p1 p2 q1 q2]
  exact ite_ci (by omega) rfl rfl
theorem TK.s (h : TK n x y G S0 S) (hn : n ≤ 8) (hx : 0 ≤ x ∧ x < n) (hy : 0 ≤ y ∧ y < n) (e : ∀ z, S' z = if z = 8 * x + y then G (8 * x + y) else S z) : TK n x (y + 1) G S0 S' := fun p q p1 p2 q1 q2 => by
  rw [e]
  by_cases d : p = x ∧ q = y
  · obtain ⟨rfl, rfl⟩ := d
    rw [if_pos rfl, if_pos (by omega)]
  · rw [if_neg (by omega), h p q p1 p2 q1 q2]
    exact ite_ci (by omega) rfl rfl
theorem TK.end (h : TK n x y G S0 S) (hx : n ≤ x) : ∀ p q : Int, 0 ≤ p → p < n → 0 ≤ q → q < n → S (8 * p + q) = G (8 * p + q) := fun p q p1 p2 q1 q2 => by
  rw [h p q p1 p2 q1 q2, if_pos (by omega)]
end
theorem n12_takes {d : Nat} {Q : yM → Prop} {M : yM} {x1 : Int} {T f : Int → Int} {k n : Int} (hM : MCT M T f k n) (h1 : 0 ≤ x1 ∧ x1 + 64 ≤ 2048) (hS : ∀ p q : Int, 0 ≤ p → p < n → 0 ≤ q → q < n → ∃ a : Int, (0 ≤ a ∧ a < 8) ∧ nr M x1 (8 * p + q) = yshl 1 a) (h17 : 0 ≤ ld M 92 17 ∧ ld M 92 17 ≤ 20001) (kont : ∀ (M' : yM), fr (fun o j => o = 104 ∨ o = 105 ∨ (o = 92 ∧ j = 17)) M M' → (ld M' 92 17 = ld M 92 17 + 1) → (∀ p q : Int, 0 ≤ p → p < n → 0 ≤ q → q < n → ld M' 105 (8 * p + q) = yor (ld M 105 (8 * p + q)) (nr M x1 (8 * p + q))) → (∀ p q : Int, 0 ≤ p → p < n → 0 ≤ q → q < n → ld M' 104 (8 * p + q) = if ld M 92 17 = 0 then low (nr M x1 (8 * p + q)) else ld M 104 (8 * p + q)) → Q M') : XCv d 155 [.inr (.inr 92), .inl x1] M Q := by
  refine eX12_takes ?_
  have fM : fr (fun o j => o = 104 ∨ o = 105 ∨ (o = 92 ∧ j = 17)) M M := fr.rf
  have hk8 := hM.2.2.2.2.1.1
  have hf := hM.2.2.2.2.1.2.1
  have hn8 := hM.2.2.2.2.2
  have m2 := hM.1
  have m11 := hM.2.1
  have al8 := al_le hk8
  have go : ∀ N : Nat, (∀ (x2 : Int) (wx3 : Option yV) (wx4 : Option yV) (wx5 : Option yV) (M9 : yM), fr (fun o j => o = 104 ∨ o = 105 ∨ (o = 92 ∧ j = 17)) M M9 → (0 ≤ x2 ∧ x2 ≤ 8) → (TK n x2 0 (fun z => yor (ld M 105 z) (nr M x1 z)) (ld M 105) (ld M9 105)) → (TK n x2 0 (fun z => if ld M 92 17 = 0 then low (nr M x1 z) else ld M 104 z) (ld M 104) (ld M9 104)) → (ld M9 92 17 = ld M 92 17) → ((8 - x2) * 400 + 300 < (N : Int)) → XW kX12_takes d none (wQv Q) 2 [some (.inr (.inr 92)), some (.inl x1), some (.inl x2), wx3, wx4, wx5] [] M9) ∧ (∀ (x2 : Int) (x3 : Int) (wx4 : Option yV) (wx5 : Option yV) (M9 : yM), fr (fun o j => o = 104 ∨ o = 105 ∨ (o = 92 ∧ j = 17)) M M9 → (0 ≤ x2 ∧ x2 < n) → (0 ≤ x3 ∧ x3 ≤ 8) → (TK n x2 x3 (fun z => yor (ld M 105 z) (nr M x1 z)) (ld M 105) (ld M9 105)) → (TK n x2 x3 (fun z => if ld M 92 17 = 0 then low (nr M x1 z) else ld M 104 z) (ld M 104) (ld M9 104)) → (ld M9 92 17 = ld M 92 17) → ((8 - x2) * 400 + (8 - x3) * 20 + 15 < (N : Int)) → XW kX12_takes d none (wQv Q) 12 [some (.inr (.inr 92)), some (.inl x1), some (.inl x2), some (.inl x3), wx4, wx5] [] M9) ∧ (∀ (x2 : Int) (x3 : Int) (x4 : Int) (x5 : Int) (M9 : yM), fr (fun o j => o = 104 ∨ o = 105 ∨ (o = 92 ∧ j = 17)) M M9 → (0 ≤ x2 ∧ x2 < n) → (0 ≤ x3 ∧ x3 < n) → (x4 = nr M x1 (8 * x2 + x3)) → (TK n x2 x3 (fun z => yor (ld M 105 z) (nr M x1 z)) (ld M 105) (ld M9 105)) → (TK n x2 x3 (fun z => if ld M 92 17 = 0 then low (nr M x1 z) else ld M 104 z) (ld M 104) (ld M9 104)) → (ld M9 92 17 = ld M 92 17) → (0 ≤ x5 ∧ x5 ≤ 8) → (∃ a : Int, (0 ≤ a ∧ a < 8) ∧ x4 = yshl 1 a ∧ x5 ≤ a) → ((8 - x2) * 400 + (8 - x3) * 20 + 8 - x5 < (N : Int)) → XW kX12_takes d none (wQv Q) 38 [some (.inr (.inr 92)), some (.inl x1), some (.inl x2), some (.inl x3), some (.inl x4), some (.inl x5)] [] M9) := by
    intro N
    induction N with
    | zero => refine ⟨?_, ?_, ?_⟩ <;> (intros; exfalso; omega)
    | succ N ih =>
      obtain ⟨ih0, ih1, ih2⟩ := ih
      refine ⟨?_, ?_, ?_⟩
      · skip
        clear fM
        intro x2 wx3 wx4 wx5 M1 fM i0 i1 i2 i3 hm
        have k92_11 := fM.ld (o := 92) (j := 11) (by intro hw; first | omega | (dsimp only [wSub, wRun, wNar, wFil, wCan, wLst, wCar, wDr, wFl, wMq, wRd, wRx, wCr, wTab, wTr, wNew, wKi, wKn, wTn, wOb, wPt, wTl, wOq] at hw; omega) | (simp [wSub, wRun, wNar, wFil, wCan, wLst, wCar, wDr, wFl, wMq, wRd, wRx, wCr, wTab, wTr, wNew, wKi, wKn, wTn, wOb, wPt, wTl, wOq] at hw; done) | (simp [wSub, wRun, wNar, wFil, wCan, wLst, wCar, wDr, wFl, wMq, wRd, wRx, wCr, wTab, wTr, wNew, wKi, wKn, wTn, wOb, wPt, wTl, wOq] at hw; omega))
        refine uX12_takes_2 (by first | omega | assumption | with_reducible exact rng_ld _ _ _ | with_reducible exact rng_yand _ _ | with_reducible exact rng_yor _ _ | with_reducible exact rng_zcmp _ _ | with_reducible exact yand7 _ | with_reducible exact rng_toInt _ | with_reducible exact yarr23 (by omega) | with_reducible exact yarr57 (by omega) | with_reducible exact Or.inl rfl | with_reducible exact Or.inr rfl) (fun hc => ?_) (fun hc => ?_)
        · skip
          refine uX12_takes_115 ?_
          intro M2 hM2
          replace fM := fr.put fM hM2 (by first | omega | (dsimp only [wSub, wRun, wNar, wFil, wCan, wLst, wCar, wDr, wFl, wMq, wRd, wRx, wCr, wTab, wTr, wNew, wKi, wKn, wTn, wOb, wPt, wTl, wOq]; done) | (dsimp only [wSub, wRun, wNar, wFil, wCan, wLst, wCar, wDr, wFl, wMq, wRd, wRx, wCr, wTab, wTr, wNew, wKi, wKn, wTn, wOb, wPt, wTl, wOq]; omega) | (simp [wSub, wRun, wNar, wFil, wCan, wLst, wCar, wDr, wFl, wMq, wRd, wRx, wCr, wTab, wTr, wNew, wKi, wKn, wTn, wOb, wPt, wTl, wOq]; done) | (simp [wSub, wRun, wNar, wFil, wCan, wLst, wCar, wDr, wFl, wMq, wRd, wRx, wCr, wTab, wTr, wNew, wKi, wKn, wTn, wOb, wPt, wTl, wOq]; omega))
          have k92_11 := fM.ld (o := 92) (j := 11) (by intro hw; first | omega | (dsimp only [wSub, wRun, wNar, wFil, wCan, wLst, wCar, wDr, wFl, wMq, wRd, wRx, wCr, wTab, wTr, wNew, wKi, wKn, wTn, wOb, wPt, wTl, wOq] at hw; omega) | (simp [wSub, wRun, wNar, wFil, wCan, wLst, wCar, wDr, wFl, wMq, wRd, wRx, wCr, wTab, wTr, wNew, wKi, wKn, wTn, wOb, wPt, wTl, wOq] at hw; done) | (simp [wSub, wRun, wNar, wFil, wCan, wLst, wCar, wDr, wFl, wMq, wRd, wRx, wCr, wTab, wTr, wNew, wKi, wKn, wTn, wOb, wPt, wTl, wOq] at hw; omega))
          have t115 : ld M2 92 17 = ld M 92 17 + 1 := by rw [hM2, ld_same (by omega)]; omega
          have u115 : ld M2 105 = ld M1 105 := funext fun j => by rw [hM2, ld_putne (by omega)]
          have v115 : ld M2 104 = ld M1 104 := funext fun j => by rw [hM2, ld_putne (by omega)]
          have y115 := i1.end (by omega)
          have z115 := i2.end (by omega)
          rw [← u115] at y115
          rw [← v115] at z115
          refine uX12_takes_125 ?_
          exact kont _ fM t115 y115 z115
        · skip
          refine uX12_takes_10 ?_
          exact ih1 _ _ _ _ M1 fM (by first | omega | assumption | with_reducible exact rng_ld _ _ _ | with_reducible exact rng_yand _ _ | with_reducible exact rng_yor _ _ | with_reducible exact rng_zcmp _ _ | with_reducible exact yand7 _ | with_reducible exact rng_toInt _ | with_reducible exact yarr23 (by omega) | with_reducible exact yarr57 (by omega) | with_reducible exact Or.inl rfl | with_reducible exact Or.inr rfl) (by first | omega | assumption | with_reducible exact rng_ld _ _ _ | with_reducible exact rng_yand _ _ | with_reducible exact rng_yor _ _ | with_reducible exact rng_zcmp _ _ | with_reducible exact yand7 _ | with_reducible exact rng_toInt _ | with_reducible exact yarr23 (by omega) | with_reducible exact yarr57 (by omega) | with_reducible exact Or.inl rfl | with_reducible exact Or.inr rfl) (by first | exact i1 | exact s87) (by first | exact i2 | exact r87) (by first | omega | assumption | with_reducible exact rng_ld _ _ _ | with_reducible exact rng_yand _ _ | with_reducible exact rng_yor _ _ | with_reducible exact rng_zcmp _ _ | with_reducible exact yand7 _ | with_reducible exact rng_toInt _ | with_reducible exact yarr23 (by omega) | with_reducible exact yarr57 (by omega) | with_reducible exact Or.inl rfl | with_reducible exact Or.inr rfl) (by omega)
      · skip
        clear fM
        intro x2 x3 wx4 wx5 M3 fM i0 i1 i2 i3 i4 hm
        have k92_11 := fM.ld (o := 92) (j := 11) (by intro hw; first | omega | (dsimp only [wSub, wRun, wNar, wFil, wCan, wLst, wCar, wDr, wFl, wMq, wRd, wRx, wCr, wTab, wTr, wNew, wKi, wKn, wTn, wOb, wPt, wTl, wOq] at hw; omega) | (simp [wSub, wRun, wNar, wFil, wCan, wLst, wCar, wDr, wFl, wMq, wRd, wRx, wCr, wTab, wTr, wNew, wKi, wKn, wTn, wOb, wPt, wTl, wOq] at hw; done) | (simp [wSub, wRun, wNar, wFil, wCan, wLst, wCar, wDr, wFl, wMq, wRd, wRx, wCr, wTab, wTr, wNew, wKi, wKn, wTn, wOb, wPt, wTl, wOq] at hw; omega))
        refine uX12_takes_12 (by first | omega | assumption | with_reducible exact rng_ld _ _ _ | with_reducible exact rng_yand _ _ | with_reducible exact rng_yor _ _ | with_reducible exact rng_zcmp _ _ | with_reducible exact yand7 _ | with_reducible exact rng_toInt _ | with_reducible exact yarr23 (by omega) | with_reducible exact yarr57 (by omega) | with_reducible exact Or.inl rfl | with_reducible exact Or.inr rfl) (fun hc => ?_) (fun hc => ?_)
        · skip
          refine uX12_takes_109 ?_
          exact ih0 _ _ _ _ M3 fM (by first | omega | assumption | with_reducible exact rng_ld _ _ _ | with_reducible exact rng_yand _ _ | with_reducible exact rng_yor _ _ | with_reducible exact rng_zcmp _ _ | with_reducible exact yand7 _ | with_reducible exact rng_toInt _ | with_reducible exact yarr23 (by omega) | with_reducible exact yarr57 (by omega) | with_reducible exact Or.inl rfl | with_reducible exact Or.inr rfl) (by first | exact TK.z | exact i2.row (by omega)) (by first | exact TK.z | exact i3.row (by omega)) (by first | omega | assumption | with_reducible exact rng_ld _ _ _ | with_reducible exact rng_yand _ _ | with_reducible exact rng_yor _ _ | with_reducible exact rng_zcmp _ _ | with_reducible exact yand7 _ | with_reducible exact rng_toInt _ | with_reducible exact yarr23 (by omega) | with_reducible exact yarr57 (by omega) | with_reducible exact Or.inl rfl | with_reducible exact Or.inr rfl) (by omega)
        · skip
          have a20 := hS x2 x3 (by omega) (by omega) (by omega) (by omega)
          refine uX12_takes_20 (by first | omega | assumption | with_reducible exact rng_ld _ _ _ | with_reducible exact rng_yand _ _ | with_reducible exact rng_yor _ _ | with_reducible exact rng_zcmp _ _ | with_reducible exact yand7 _ | with_reducible exact rng_toInt _ | with_reducible exact yarr23 (by omega) | with_reducible exact yarr57 (by omega) | with_reducible exact Or.inl rfl | with_reducible exact Or.inr rfl) ?_
          exact ih2 _ _ _ _ M3 fM (by first | omega | assumption | with_reducible exact rng_ld _ _ _ | with_reducible exact rng_yand _ _ | with_reducible exact rng_yor _ _ | with_reducible exact rng_zcmp _ _ | with_reducible exact yand7 _ | with_reducible exact rng_toInt _ | with_reducible exact yarr23 (by omega) | with_reducible exact yarr57 (by omega) | with_reducible exact Or.inl rfl | with_reducible exact Or.inr rfl) (by first | omega | assumption | with_reducible exact rng_ld _ _ _ | with_reducible exact rng_yand _ _ | with_reducible exact rng_yor _ _ | with_reducible exact rng_zcmp _ _ | with_reducible exact yand7 _ | with_reducible exact rng_toInt _ | with_reducible exact yarr23 (by omega) | with_reducible exact yarr57 (by omega) | with_reducible exact Or.inl rfl | with_reducible exact Or.inr rfl) (by first | assumption | (rw [nr_at]; exact fM.ld (by omega))) (by assumption) (by assumption) (by first | omega | assumption | with_reducible exact rng_ld _ _ _ | with_reducible exact rng_yand _ _ | with_reducible exact rng_yor _ _ | with_reducible exact rng_zcmp _ _ | with_reducible exact yand7 _ | with_reducible exact rng_toInt _ | with_reducible exact yarr23 (by omega) | with_reducible exact yarr57 (by omega) | with_reducible exact Or.inl rfl | with_reducible exact Or.inr rfl) (by first | omega | assumption | with_reducible exact rng_ld _ _ _ | with_reducible exact rng_yand _ _ | with_reducible exact rng_yor _ _ | with_reducible exact rng_zcmp _ _ | with_reducible exact yand7 _ | with_reducible exact rng_toInt _ | with_reducible exact yarr23 (by omega) | with_reducible exact yarr57 (by omega) | with_reducible exact Or.inl rfl | with_reducible exact Or.inr rfl) (by first | exact ⟨aa, ha, hae, by omega⟩ | exact ⟨a20.choose, a20.choose_spec.1, by rw [show ld _ 100 (x1 + 8 * x2 + x3) = nr M x1 (8 * x2 + x3) from by rw [nr_at]; exact fM.ld (by omega)]; exact a20.choose_spec.2, by have := a20.choose_spec.1; omega⟩) (by omega)
      · skip
        clear fM
        intro x2 x3 x4 x5 M4 fM i0 i1 i2 i3 i4 i5 i6 i7 hm
        have k92_11 := fM.ld (o := 92) (j := 11) (by intro hw; first | omega | (dsimp only [wSub, wRun, wNar, wFil, wCan, wLst, wCar, wDr, wFl, wMq, wRd, wRx, wCr, wTab, wTr, wNew, wKi, wKn, wTn, wOb, wPt, wTl, wOq] at hw; omega) | (simp [wSub, wRun, wNar, wFil, wCan, wLst, wCar, wDr, wFl, wMq, wRd, wRx, wCr, wTab, wTr, wNew, wKi, wKn, wTn, wOb, wPt, wTl, wOq] at hw; done) | (simp [wSub, wRun, wNar, wFil, wCan, wLst, wCar, wDr, wFl, wMq, wRd, wRx, wCr, wTab, wTr, wNew, wKi, wKn, wTn, wOb, wPt, wTl, wOq] at hw; omega))
        obtain ⟨aa, ha, hae, hal⟩ := i7
        have y38 := rng_yshl 1 aa
        refine uX12_takes_38 (by first | omega | assumption | with_reducible exact rng_ld _ _ _ | with_reducible exact rng_yand _ _ | with_reducible exact rng_yor _ _ | with_reducible exact rng_zcmp _ _ | with_reducible exact yand7 _ | with_reducible exact rng_toInt _ | with_reducible exact yarr23 (by omega) | with_reducible exact yarr57 (by omega) | with_reducible exact Or.inl rfl | with_reducible exact Or.inr rfl) (fun hc => ?_) (fun hc => ?_)
        · skip
          have lo53 : low (nr M x1 (8 * x2 + x3)) = x5 := by
            have e : yshl 1 aa = yshl 1 x5 := by rw [← hae]; assumption
            rw [← i2, hae, e]
            exact low_1 (by omega)
          refine uX12_takes_53 (fun hc => ?_) (fun hc => ?_)
          · skip
            refine uX12_takes_75 (by first | omega | assumption | with_reducible exact rng_ld _ _ _ | with_reducible exact rng_yand _ _ | with_reducible exact rng_yor _ _ | with_reducible exact rng_zcmp _ _ | with_reducible exact yand7 _ | with_reducible exact rng_toInt _ | with_reducible exact yarr23 (by omega) | with_reducible exact yarr57 (by omega) | with_reducible exact Or.inl rfl | with_reducible exact Or.inr rfl) ?_
            refine uX12_takes_86 (by first | omega | assumption | with_reducible exact rng_ld _ _ _ | with_reducible exact rng_yand _ _ | with_reducible exact rng_yor _ _ | with_reducible exact rng_zcmp _ _ | with_reducible exact yand7 _ | with_reducible exact rng_toInt _ | with_reducible exact yarr23 (by omega) | with_reducible exact yarr57 (by omega) | with_reducible exact Or.inl rfl | with_reducible exact Or.inr rfl) ?_
            intro M5 hM5
            replace fM := fr.put fM hM5 (by first | omega | (dsimp only [wSub, wRun, wNar, wFil, wCan, wLst, wCar, wDr, wFl, wMq, wRd, wRx, wCr, wTab, wTr, wNew, wKi, wKn, wTn, wOb, wPt, wTl, wOq]; done) | (dsimp only [wSub, wRun, wNar, wFil, wCan, wLst, wCar, wDr, wFl, wMq, wRd, wRx, wCr, wTab, wTr, wNew, wKi, wKn, wTn, wOb, wPt, wTl, wOq]; omega) | (simp [wSub, wRun, wNar, wFil, wCan, wLst, wCar, wDr, wFl, wMq, wRd, wRx, wCr, wTab, wTr, wNew, wKi, wKn, wTn, wOb, wPt, wTl, wOq]; done) | (simp [wSub, wRun, wNar, wFil, wCan, wLst, wCar, wDr, wFl, wMq, wRd, wRx, wCr, wTab, wTr, wNew, wKi, wKn, wTn, wOb, wPt, wTl, wOq]; omega))
            have k92_11 := fM.ld (o := 92) (j := 11) (by intro hw; first | omega | (dsimp only [wSub, wRun, wNar, wFil, wCan, wLst, wCar, wDr, wFl, wMq, wRd, wRx, wCr, wTab, wTr, wNew, wKi, wKn, wTn, wOb, wPt, wTl, wOq] at hw; omega) | (simp [wSub, wRun, wNar, wFil, wCan, wLst, wCar, wDr, wFl, wMq, wRd, wRx, wCr, wTab, wTr, wNew, wKi, wKn, wTn, wOb, wPt, wTl, wOq] at hw; done) | (simp [wSub, wRun, wNar, wFil, wCan, wLst, wCar, wDr, wFl, wMq, wRd, wRx, wCr, wTab, wTr, wNew, wKi, wKn, wTn, wOb, wPt, wTl, wOq] at hw; omega))
            have e86 := hM5
            have t86 : ld M5 92 17 = ld M4 92 17 := by rw [hM5, ld_putne (by omega)]
            have r86 : TK n x2 (x3 + 1) (fun z => if ld M 92 17 = 0 then low (nr M x1 z) else ld M 104 z) (ld M 104) (ld M5 104) := i4.s (by omega) (by omega) (by omega) (fun z => by
              rw [e86]
              first
              | (rw [ld_put (by omega)]; simp only [true_and]; rw [if_pos (show ld M 92 17 = 0 by omega), lo53])
              | (rw [ld_put (rng_ld _ _ _)]; simp only [true_and]; rw [if_neg (show ¬ ld M 92 17 = 0 by omega)]
                 have w := i4 x2 x3 (by omega) (by omega) (by omega) (by omega)
                 rw [if_neg (by omega)] at w
                 rw [w]))
            have s86 : ld M5 105 = ld M4 105 := funext fun j => by rw [hM5, ld_putne (by omega)]
            refine uX12_takes_87 (by first | omega | assumption | with_reducible exact rng_ld _ _ _ | with_reducible exact rng_yand _ _ | with_reducible exact rng_yor _ _ | with_reducible exact rng_zcmp _ _ | with_reducible exact yand7 _ | with_reducible exact rng_toInt _ | with_reducible exact yarr23 (by omega) | with_reducible exact yarr57 (by omega) | with_reducible exact Or.inl rfl | with_reducible exact Or.inr rfl) (by first | omega | assumption | with_reducible exact rng_ld _ _ _ | with_reducible exact rng_yand _ _ | with_reducible exact rng_yor _ _ | with_reducible exact rng_zcmp _ _ | with_reducible exact yand7 _ | with_reducible exact rng_toInt _ | with_reducible exact yarr23 (by omega) | with_reducible exact yarr57 (by omega) | with_reducible exact Or.inl rfl | with_reducible exact Or.inr rfl) ?_
            intro M6 hM6
            replace fM := fr.put fM hM6 (by first | omega | (dsimp only [wSub, wRun, wNar, wFil, wCan, wLst, wCar, wDr, wFl, wMq, wRd, wRx, wCr, wTab, wTr, wNew, wKi, wKn, wTn, wOb, wPt, wTl, wOq]; done) | (dsimp only [wSub, wRun, wNar, wFil, wCan, wLst, wCar, wDr, wFl, wMq, wRd, wRx, wCr, wTab, wTr, wNew, wKi, wKn, wTn, wOb, wPt, wTl, wOq]; omega) | (simp [wSub, wRun, wNar, wFil, wCan, wLst, wCar, wDr, wFl, wMq, wRd, wRx, wCr, wTab, wTr, wNew, wKi, wKn, wTn, wOb, wPt, wTl, wOq]; done) | (simp [wSub, wRun, wNar, wFil, wCan, wLst, wCar, wDr, wFl, wMq, wRd, wRx, wCr, wTab, wTr, wNew, wKi, wKn, wTn, wOb, wPt, wTl, wOq]; omega))
            have k92_11 := fM.ld (o := 92) (j := 11) (by intro hw; first | omega | (dsimp only [wSub, wRun, wNar, wFil, wCan, wLst, wCar, wDr, wFl, wMq, wRd, wRx, wCr, wTab, wTr, wNew, wKi, wKn, wTn, wOb, wPt, wTl, wOq] at hw; omega) | (simp [wSub, wRun, wNar, wFil, wCan, wLst, wCar, wDr, wFl, wMq, wRd, wRx, wCr, wTab, wTr, wNew, wKi, wKn, wTn, wOb, wPt, wTl, wOq] at hw; done) | (simp [wSub, wRun, wNar, wFil, wCan, wLst, wCar, wDr, wFl, wMq, wRd, wRx, wCr, wTab, wTr, wNew, wKi, wKn, wTn, wOb, wPt, wTl, wOq] at hw; omega))
            have e87 := hM6
            have t87 : ld M6 92 17 = ld M5 92 17 := by rw [hM6, ld_putne (by omega)]
            have w87 := i3 x2 x3 (by omega) (by omega) (by omega) (by omega)
            rw [if_neg (by omega)] at w87
            rw [s86, w87, i2] at e87
            have s87 : TK n x2 (x3 + 1) (fun z => yor (ld M 105 z) (nr M x1 z)) (ld M 105) (ld M6 105) := i3.s (by omega) (by omega) (by omega) (fun z => by
              rw [e87, ld_put (rng_yor _ _), s86]
              simp only [true_and])
            have r87 : TK n x2 (x3 + 1) (fun z => if ld M 92 17 = 0 then low (nr M x1 z) else ld M 104 z) (ld M 104) (ld M6 104) := by
              rw [show ld M6 104 = ld M5 104 from funext fun j => by rw [e87, ld_putne (by omega)]]
              exact r86
            refine uX12_takes_103 ?_
            exact ih1 _ _ _ _ M6 fM (by first | omega | assumption | with_reducible exact rng_ld _ _ _ | with_reducible exact rng_yand _ _ | with_reducible exact rng_yor _ _ | with_reducible exact rng_zcmp _ _ | with_reducible exact yand7 _ | with_reducible exact rng_toInt _ | with_reducible exact yarr23 (by omega) | with_reducible exact yarr57 (by omega) | with_reducible exact Or.inl rfl | with_reducible exact Or.inr rfl) (by first | omega | assumption | with_reducible exact rng_ld _ _ _ | with_reducible exact rng_yand _ _ | with_reducible exact rng_yor _ _ | with_reducible exact rng_zcmp _ _ | with_reducible exact yand7 _ | with_reducible exact rng_toInt _ | with_reducible exact yarr23 (by omega) | with_reducible exact yarr57 (by omega) | with_reducible exact Or.inl rfl | with_reducible exact Or.inr rfl) (by first | exact i1 | exact s87) (by first | exact i2 | exact r87) (by first | omega | assumption | with_reducible exact rng_ld _ _ _ | with_reducible exact rng_yand _ _ | with_reducible exact rng_yor _ _ | with_reducible exact rng_zcmp _ _ | with_reducible exact yand7 _ | with_reducible exact rng_toInt _ | with_reducible exact yarr23 (by omega) | with_reducible exact yarr57 (by omega) | with_reducible exact Or.inl rfl | with_reducible exact Or.inr rfl) (by omega)
          · skip
            refine uX12_takes_70 ?_
            refine uX12_takes_86 (by first | omega | assumption | with_reducible exact rng_ld _ _ _ | with_reducible exact rng_yand _ _ | with_reducible exact rng_yor _ _ | with_reducible exact rng_zcmp _ _ | with_reducible exact yand7 _ | with_reducible exact rng_toInt _ | with_reducible exact yarr23 (by omega) | with_reducible exact yarr57 (by omega) | with_reducible exact Or.inl rfl | with_reducible exact Or.inr rfl) ?_
            intro M7 hM7
            replace fM := fr.put fM hM7 (by first | omega | (dsimp only [wSub, wRun, wNar, wFil, wCan, wLst, wCar, wDr, wFl, wMq, wRd, wRx, wCr, wTab, wTr, wNew, wKi, wKn, wTn, wOb, wPt, wTl, wOq]; done) | (dsimp only [wSub, wRun, wNar, wFil, wCan, wLst, wCar, wDr, wFl, wMq, wRd, wRx, wCr, wTab, wTr, wNew, wKi, wKn, wTn, wOb, wPt, wTl, wOq]; omega) | (simp [wSub, wRun, wNar, wFil, wCan, wLst, wCar, wDr, wFl, wMq, wRd, wRx, wCr, wTab, wTr, wNew, wKi, wKn, wTn, wOb, wPt, wTl, wOq]; done) | (simp [wSub, wRun, wNar, wFil, wCan, wLst, wCar, wDr, wFl, wMq, wRd, wRx, wCr, wTab, wTr, wNew, wKi, wKn, wTn, wOb, wPt, wTl, wOq]; omega))
            have k92_11 := fM.ld (o := 92) (j := 11) (by intro hw; first | omega | (dsimp only [wSub, wRun, wNar, wFil, wCan, wLst, wCar, wDr, wFl, wMq, wRd, wRx, wCr, wTab, wTr, wNew, wKi, wKn, wTn, wOb, wPt, wTl, wOq] at hw; omega) | (simp [wSub, wRun, wNar, wFil, wCan, wLst, wCar, wDr, wFl, wMq, wRd, wRx, wCr, wTab, wTr, wNew, wKi, wKn, wTn, wOb, wPt, wTl, wOq] at hw; done) | (simp [wSub, wRun, wNar, wFil, wCan, wLst, wCar, wDr, wFl, wMq, wRd, wRx, wCr, wTab, wTr, wNew, wKi, wKn, wTn, wOb, wPt, wTl, wOq] at hw; omega))
            have e86 := hM7
            have t86 : ld M7 92 17 = ld M4 92 17 := by rw [hM7, ld_putne (by omega)]
            have r86 : TK n x2 (x3 + 1) (fun z => if ld M 92 17 = 0 then low (nr M x1 z) else ld M 104 z) (ld M 104) (ld M7 104) := i4.s (by omega) (by omega) (by omega) (fun z => by
              rw [e86]
              first
              | (rw [ld_put (by omega)]; simp only [true_and]; rw [if_pos (show ld M 92 17 = 0 by omega), lo53])
              | (rw [ld_put (rng_ld _ _ _)]; simp only [true_and]; rw [if_neg (show ¬ ld M 92 17 = 0 by omega)]
                 have w := i4 x2 x3 (by omega) (by omega) (by omega) (by omega)
                 rw [if_neg (by omega)] at w
                 rw [w]))
            have s86 : ld M7 105 = ld M4 105 := funext fun j => by rw [hM7, ld_putne (by omega)]
            refine uX12_takes_87 (by first | omega | assumption | with_reducible exact rng_ld _ _ _ | with_reducible exact rng_yand _ _ | with_reducible exact rng_yor _ _ | with_reducible exact rng_zcmp _ _ | with_reducible exact yand7 _ | with_reducible exact rng_toInt _ | with_reducible exact yarr23 (by omega) | with_reducible exact yarr57 (by omega) | with_reducible exact Or.inl rfl | with_reducible exact Or.inr rfl) (by first | omega | assumption | with_reducible exact rng_ld _ _ _ | with_reducible exact rng_yand _ _ | with_reducible exact rng_yor _ _ | with_reducible exact rng_zcmp _ _ | with_reducible exact yand7 _ | with_reducible exact rng_toInt _ | with_reducible exact yarr23 (by omega) | with_reducible exact yarr57 (by omega) | with_reducible exact Or.inl rfl | with_reducible exact Or.inr rfl) ?_
            intro M8 hM8
            replace fM := fr.put fM hM8 (by first | omega | (dsimp only [wSub, wRun, wNar, wFil, wCan, wLst, wCar, wDr, wFl, wMq, wRd, wRx, wCr, wTab, wTr, wNew, wKi, wKn, wTn, wOb, wPt, wTl, wOq]; done) | (dsimp only [wSub, wRun, wNar, wFil, wCan, wLst, wCar, wDr, wFl, wMq, wRd, wRx, wCr, wTab, wTr, wNew, wKi, wKn, wTn, wOb, wPt, wTl, wOq]; omega) | (simp [wSub, wRun, wNar, wFil, wCan, wLst, wCar, wDr, wFl, wMq, wRd, wRx, wCr, wTab, wTr, wNew, wKi, wKn, wTn, wOb, wPt, wTl, wOq]; done) | (simp [wSub, wRun, wNar, wFil, wCan, wLst, wCar, wDr, wFl, wMq, wRd, wRx, wCr, wTab, wTr, wNew, wKi, wKn, wTn, wOb, wPt, wTl, wOq]; omega))
            have k92_11 := fM.ld (o := 92) (j := 11) (by intro hw; first | omega | (dsimp only [wSub, wRun, wNar, wFil, wCan, wLst, wCar, wDr, wFl, wMq, wRd, wRx, wCr, wTab, wTr, wNew, wKi, wKn, wTn, wOb, wPt, wTl, wOq] at hw; omega) | (simp [wSub, wRun, wNar, wFil, wCan, wLst, wCar, wDr, wFl, wMq, wRd, wRx, wCr, wTab, wTr, wNew, wKi, wKn, wTn, wOb, wPt, wTl, wOq] at hw; done) | (simp [wSub, wRun, wNar, wFil, wCan, wLst, wCar, wDr, wFl, wMq, wRd, wRx, wCr, wTab, wTr, wNew, wKi, wKn, wTn, wOb, wPt, wTl, wOq] at hw; omega))
            have e87 := hM8
            have t87 : ld M8 92 17 = ld M7 92 17 := by rw [hM8, ld_putne (by omega)]
            have w87 := i3 x2 x3 (by omega) (by omega) (by omega) (by omega)
            rw [if_neg (by omega)] at w87
            rw [s86, w87, i2] at e87
            have s87 : TK n x2 (x3 + 1) (fun z => yor (ld M 105 z) (nr M x1 z)) (ld M 105) (ld M8 105) := i3.s (by omega) (by omega) (by omega) (fun z => by
              rw [e87, ld_put (rng_yor _ _), s86]
              simp only [true_and])
            have r87 : TK n x2 (x3 + 1) (fun z => if ld M 92 17 = 0 then low (nr M x1 z) else ld M 104 z) (ld M 104) (ld M8 104) := by
              rw [show ld M8 104 = ld M7 104 from funext fun j => by rw [e87, ld_putne (by omega)]]
              exact r86
            refine uX12_takes_103 ?_
            exact ih1 _ _ _ _ M8 fM (by first | omega | assumption | with_reducible exact rng_ld _ _ _ | with_reducible exact rng_yand _ _ | with_reducible exact rng_yor _ _ | with_reducible exact rng_zcmp _ _ | with_reducible exact yand7 _ | with_reducible exact rng_toInt _ | with_reducible exact yarr23 (by omega) | with_reducible exact yarr57 (by omega) | with_reducible exact Or.inl rfl | with_reducible exact Or.inr rfl) (by first | omega | assumption | with_reducible exact rng_ld _ _ _ | with_reducible exact rng_yand _ _ | with_reducible exact rng_yor _ _ | with_reducible exact rng_zcmp _ _ | with_reducible exact yand7 _ | with_reducible exact rng_toInt _ | with_reducible exact yarr23 (by omega) | with_reducible exact yarr57 (by omega) | with_reducible exact Or.inl rfl | with_reducible exact Or.inr rfl) (by first | exact i1 | exact s87) (by first | exact i2 | exact r87) (by first | omega | assumption | with_reducible exact rng_ld _ _ _ | with_reducible exact rng_yand _ _ | with_reducible exact rng_yor _ _ | with_reducible exact rng_zcmp _ _ | with_reducible exact yand7 _ | with_reducible exact rng_toInt _ | with_reducible exact yarr23 (by omega) | with_reducible exact yarr57 (by omega) | with_reducible exact Or.inl rfl | with_reducible exact Or.inr rfl) (by omega)
        · skip
          have hne : x5 ≠ aa := fun e => hc (by rw [hae, e])
          refine uX12_takes_47 ?_
          exact ih2 _ _ _ _ M4 fM (by first | omega | assumption | with_reducible exact rng_ld _ _ _ | with_reducible exact rng_yand _ _ | with_reducible exact rng_yor _ _ | with_reducible exact rng_zcmp _ _ | with_reducible exact yand7 _ | with_reducible exact rng_toInt _ | with_reducible exact yarr23 (by omega) | with_reducible exact yarr57 (by omega) | with_reducible exact Or.inl rfl | with_reducible exact Or.inr rfl) (by first | omega | assumption | with_reducible exact rng_ld _ _ _ | with_reducible exact rng_yand _ _ | with_reducible exact rng_yor _ _ | with_reducible exact rng_zcmp _ _ | with_reducible exact yand7 _ | with_reducible exact rng_toInt _ | with_reducible exact yarr23 (by omega) | with_reducible exact yarr57 (by omega) | with_reducible exact Or.inl rfl | with_reducible exact Or.inr rfl) (by first | assumption | (rw [nr_at]; exact fM.ld (by omega))) (by assumption) (by assumption) (by first | omega | assumption | with_reducible exact rng_ld _ _ _ | with_reducible exact rng_yand _ _ | with_reducible exact rng_yor _ _ | with_reducible exact rng_zcmp _ _ | with_reducible exact yand7 _ | with_reducible exact rng_toInt _ | with_reducible exact yarr23 (by omega) | with_reducible exact yarr57 (by omega) | with_reducible exact Or.inl rfl | with_reducible exact Or.inr rfl) (by first | omega | assumption | with_reducible exact rng_ld _ _ _ | with_reducible exact rng_yand _ _ | with_reducible exact rng_yor _ _ | with_reducible exact rng_zcmp _ _ | with_reducible exact yand7 _ | with_reducible exact rng_toInt _ | with_reducible exact yarr23 (by omega) | with_reducible exact yarr57 (by omega) | with_reducible exact Or.inl rfl | with_reducible exact Or.inr rfl) (by first | exact ⟨aa, ha, hae, by omega⟩ | exact ⟨a20.choose, a20.choose_spec.1, by rw [show ld _ 100 (x1 + 8 * x2 + x3) = nr M x1 (8 * x2 + x3) from by rw [nr_at]; exact fM.ld (by omega)]; exact a20.choose_spec.2, by have := a20.choose_spec.1; omega⟩) (by omega)
  refine uX12_takes_0 ?_
  exact (go 1000000).1 _ _ _ _ M fM (by first | omega | assumption | with_reducible exact rng_ld _ _ _ | with_reducible exact rng_yand _ _ | with_reducible exact rng_yor _ _ | with_reducible exact rng_zcmp _ _ | with_reducible exact yand7 _ | with_reducible exact rng_toInt _ | with_reducible exact yarr23 (by omega) | with_reducible exact yarr57 (by omega) | with_reducible exact Or.inl rfl | with_reducible exact Or.inr rfl) (by first | exact TK.z | exact i2.row (by omega)) (by first | exact TK.z | exact i3.row (by omega)) (by first | omega | assumption | with_reducible exact rng_ld _ _ _ | with_reducible exact rng_yand _ _ | with_reducible exact rng_yor _ _ | with_reducible exact rng_zcmp _ _ | with_reducible exact yand7 _ | with_reducible exact rng_toInt _ | with_reducible exact yarr23 (by omega) | with_reducible exact yarr57 (by omega) | with_reducible exact Or.inl rfl | with_reducible exact Or.inr rfl) (by omega)
theorem onL_dg {T f : Int → Int} {k n : Int} (hn : n ≤ 8) {d : Int} (hd : 0 ≤ d ∧ d < 8) : ∀ (l : List (Int × Int × Int)) (N : Int → Int), Vl n l → onL T f k N l (8 * d + d) = N (8 * d + d)
  | [], _, _ => rfl
  | (i, j, c) :: r, N, hv => by
    have hr : Vl n r := fun t ht => hv t (List.mem_cons_of_mem _ ht)
    have h0 := hv (i, j, c) List.mem_cons_self
    have h1 : (0 ≤ i ∧ i < c ∧ c < n) ∧ 0 ≤ j ∧ j < n := h0
    have up : up2 N i c (stp T k N i j c) (tP f k (stp T k N i j c)) (8 * d + d) = N (8 * d + d) := by
      rw [up2_at (by omega) (by omega) (by omega) (by omega), if_neg (by omega), if_neg (by omega)]
    simp only [onL]
    split
    · exact onL_dg hn hd r N hr
    · split
      · exact onL_dg hn hd r N hr
      · split
        · exact up
        · rw [onL_dg hn hd r _ hr]
          exact up
theorem onceP_dg {T f : Int → Int} {k n : Int} {N : Int → Int} (hn : 0 ≤ n ∧ n ≤ 8) {d : Int} (hd : 0 ≤ d ∧ d < 8) : onceP T f k n N (8 * d + d) = N (8 * d + d) := by
  unfold onceP
  split
  · rfl
  · exact onL_dg hn.2 hd _ _ (lI_v hn.1)
theorem fu_dg {T f : Int → Int} {k n : Int} (hn : 0 ≤ n ∧ n ≤ 8) {d : Int} (hd : 0 ≤ d ∧ d < 8) : ∀ (m : Nat) (N : Int → Int), fu T f k n m N (8 * d + d) = N (8 * d + d)
  | 0, _ => rfl
  | m + 1, N => by
    show fu T f k n m (onceP T f k n N) (8 * d + d) = N (8 * d + d)
    rw [fu_dg hn hd m, onceP_dg hn hd]
theorem fullP_dg {T f : Int → Int} {k n : Int} {N : Int → Int} (hn : 0 ≤ n ∧ n ≤ 8) {d : Int} (hd : 0 ≤ d ∧ d < 8) : fullP T f k n N (8 * d + d) = N (8 * d + d) := fu_dg hn hd 300 N
theorem sub_1 {x a : Int} (hx : yR x) (h0 : x ≠ 0) (ha : 0 ≤ a ∧ a < 8) (h : Sub x (yshl 1 a)) : x = yshl 1 a := by
  refine sub_an hx (rng_yshl _ _) h ?_
  refine sub_of (rng_yshl _ _) (fun i q => ?_)
  rw [bt_bit (by omega), decide_eq_true_eq] at q
  apply Classical.byContradiction
  intro w
  apply h0
  refine bt_ext hx (by decide) (fun j _ => ?_)
  rw [bt_0, Bool.eq_false_iff]
  intro z
  have v := sub_bt h z
  rw [bt_bit (by omega), decide_eq_true_eq] at v
  exact w (by rw [q, ← v]; exact z)
theorem tn_eq2 {M M' : yM} {o o' : Int} (h : EqN (nr M' o') (nr M o)) : tn M' o' = tn M o := funext fun x => by
  unfold tn
  by_cases q : 0 ≤ x ∧ x < 64
  · rw [if_pos q, if_pos q]
    exact h x q.1 q.2
  · rw [if_neg q, if_neg q]
/-- the place of a pair that is listed -/
def pl (M : yM) (p : Int) : Int := 8 * ld M 101 p + ld M 102 p
/-- they are listed in order -/
def PRm (M : yM) (c b : Int) : Prop := (∀ p q : Int, 0 ≤ p → p < q → q < c → pl M p < pl M q) ∧ ∀ p : Int, 0 ≤ p → p < c → pl M p < b
theorem PRm.fr {W : Nat → Int → Prop} {M M' : yM} {c b : Int} (h : PRm M c b) (f : fr W M M') (hw : ∀ j, ¬ W 101 j ∧ ¬ W 102 j) : PRm M' c b := by
  have e : ∀ p, pl M' p = pl M p := fun p => by
    unfold pl
    rw [f.ld (hw p).1, f.ld (hw p).2]
  exact ⟨fun p q a b d => by rw [e, e]; exact h.1 p q a b d, fun p a b => by rw [e]; exact h.2 p a b⟩
theorem PRm.up {M : yM} {c b b' : Int} (h : PRm M c b) (e : b ≤ b') : PRm M c b' := ⟨h.1, fun p a d => by have := h.2 p a d; omega⟩
theorem PRm.st {M M1 M2 : yM} {c a b b0 : Int} (h : PRm M c b0) (e1 : M1 = put M 101 c a) (e2 : M2 = put M1 102 c b) (ra : yR a) (rb : yR b) (hb : b0 ≤ 8 * a + b) : PRm M2 (c + 1) (8 * a + b + 1) := by
  have e : ∀ p, pl M2 p = if p = c then 8 * a + b else pl M p := fun p => by
    unfold pl
    rw [e2, ld_putne (Or.inl (by omega)), ld_put rb, e1, ld_put ra, ld_putne (Or.inl (by omega))]
    by_cases q : p = c
    · rw [if_pos ⟨rfl, q⟩, if_pos ⟨rfl, q⟩, if_pos q]
    · rw [if_neg (fun w => q w.2), if_neg (fun w => q w.2), if_neg q]
  refine ⟨fun p q a b d => ?_, fun p a b => ?_⟩
  · rw [e, e, if_neg (by omega)]
    split
    · have := h.2 p a (by omega); omega
    · exact h.1 p q a b (by omega)
  · rw [e]
    split
    · omega
    · have := h.2 p a (by omega); omega
/-- the first as it lies in an array -/
def LF (n : Int) (f κ F : Int → Int) : Prop := ∀ p q : Int, 0 ≤ p → p < n → 0 ≤ q → q < n → F (8 * p + q) = low (nK f κ (8 * p + q))
/-- what is counted of the fillings of X -/
def FLQ (T f : Int → Int) (k n : Int) (P : (Int → Int) → Prop) (X : Int → Int) (M M' : yM) : Prop := ld M' 92 17 = ld M 92 17 + ct P (UV k n) ∧ BQ f k n P (ld M 105) (ld M' 105) ∧ (ld M 92 17 ≠ 0 ∨ ct P (UV k n) = 0 → ∀ p q : Int, 0 ≤ p → p < n → 0 ≤ q → q < n → ld M' 104 (8 * p + q) = ld M 104 (8 * p + q)) ∧ (ld M 92 17 = 0 → 0 < ct P (UV k n) → ∃ κ, KV k n κ ∧ LX T f k n X κ ∧ LF n f κ (ld M' 104))
def FLE (T f : Int → Int) (k n lim : Int) (X : Int → Int) (M M' : yM) : Prop := ld M' 92 17 = lim ∧ lim ≤ ld M 92 17 + ct (Fl T f k n X) (UV k n) ∧ (ld M 92 17 ≠ 0 → ∀ p q : Int, 0 ≤ p → p < n → 0 ≤ q → q < n → ld M' 104 (8 * p + q) = ld M 104 (8 * p + q)) ∧ (ld M 92 17 = 0 → ∃ κ, KV k n κ ∧ LX T f k n X κ ∧ LF n f κ (ld M' 104))
/-- what a search writes is as it was -/
def SFq (A B : yM) : Prop := ld B 92 17 = ld A 92 17 ∧ ld B 105 = ld A 105 ∧ ld B 104 = ld A 104
theorem SFq.rf (A : yM) : SFq A A := ⟨rfl, rfl, rfl⟩
theorem SFq.tr {A B C : yM} (h : SFq A B) (h' : SFq B C) : SFq A C := ⟨h'.1.trans h.1, h'.2.1.trans h.2.1, h'.2.2.trans h.2.2⟩
theorem SFq.of {A B : yM} {W : Nat → Int → Prop} (f : fr W A B) (h : ¬ W 92 17) (h4 : ∀ j, ¬ W 104 j) (h5 : ∀ j, ¬ W 105 j) : SFq A B := ⟨f.ld h, funext fun j => f.ld (h5 j), funext fun j => f.ld (h4 j)⟩
section
variable {T f : Int → Int} {k n i c a lim : Int} {X Y κ : Int → Int} {P P' : (Int → Int) → Prop} {M M1 M2 M3 : yM}
/-- the first of those of a kind is the first of all -/
theorem lx_up (hT : TH T f k) (hn : n ≤ 8) (hX : SN f k n X) (hi : 0 ≤ i ∧ i < c ∧ c < n) (ha : 0 ≤ a ∧ a < k) (hb : bt (X (8 * i + c)) a.toNat = true) (e : ∀ κ, KV k n κ → (Fl T f k n Y κ ↔ Fl T f k n (sng f k X i c a) κ)) (h0 : ∀ κ, KV k n κ → ¬ PA T f k n X i c a κ) (hs : ∀ p q : Int, 0 ≤ p → p < q → q < n → 8 * p + q < 8 * i + c → ∃ b : Int, (0 ≤ b ∧ b < 8) ∧ X (8 * p + q) = yshl 1 b) (hv : KV k n κ) (h : LX T f k n Y κ) : LX T f k n X κ := by
  have fk := (fl_sng hT hn hX hi ha hb hv).mp ((e κ hv).mp h.1)
  have hk := hT.1
  have sg : ∀ κ', KV k n κ' → Fl T f k n X κ' → ∀ p q b : Int, 0 ≤ p → p < q → q < n → (0 ≤ b ∧ b < 8) → X (8 * p + q) = yshl 1 b → κ' (8 * p + q) = b := fun κ' v' fl p q b p1 p2 p3 hb e => by
    have u := (sb_up hT hn hX v').mp fl.1 (p, q) (prs_in hn ⟨p1, p2, p3⟩)
    have u1 : bt (X (8 * p + q)) (κ' (8 * p + q)).toNat = true := u
    have w := v' p q p1 p2 p3
    rw [e, bt_bit (by omega), decide_eq_true_eq] at u1
    omega
  refine ⟨fk.1, fun p q p1 p2 p3 κ' v' fl ag => ?_⟩
  rcases Int.lt_trichotomy (8 * p + q) (8 * i + c) with w | w | w
  · obtain ⟨b, b1, b2⟩ := hs p q p1 p2 p3 w
    rw [sg κ hv fk.1 p q b p1 p2 p3 b1 b2, sg κ' v' fl p q b p1 p2 p3 b1 b2]
    exact Int.le_refl _
  · rw [w, fk.2]
    apply Classical.byContradiction
    intro z
    exact h0 κ' v' ⟨fl, by omega⟩
  · have t := ag i c hi.1 hi.2.1 hi.2.2 w
    rw [fk.2] at t
    have fy := (e κ' v').mpr ((fl_sng hT hn hX hi ha hb v').mpr ⟨fl, t⟩)
    exact h.2 p q p1 p2 p3 κ' v' fy ag
theorem FLQ.z (hk : 1 ≤ k) (hn : n ≤ 8) (h : ∀ κ, KV k n κ → ¬ P κ) (s : SFq M M1) : FLQ T f k n P X M M1 := by
  have z := ct_no hk hn h
  refine ⟨by rw [z, s.1]; omega, by rw [s.2.1]; exact BQ.no h, fun _ p q _ _ _ _ => by rw [s.2.2], fun _ w => by rw [z] at w; exact absurd w (by decide)⟩
theorem FLQ.cg (hk : 1 ≤ k) (hn : n ≤ 8) (h : FLQ T f k n P X M M1) (e : ∀ κ, KV k n κ → (P κ ↔ P' κ)) : FLQ T f k n P' X M M1 := by
  have z := ct_kv hk hn e
  refine ⟨by rw [← z]; exact h.1, h.2.1.cg e, fun w => h.2.2.1 (by rw [z]; exact w), fun w v => h.2.2.2 w (by rw [z]; exact v)⟩
theorem FLQ.mv (h : FLQ T f k n P X M M1) (s : SFq M1 M2) : FLQ T f k n P X M M2 := ⟨by rw [s.1]; exact h.1, by rw [s.2.1]; exact h.2.1, by rw [s.2.2]; exact h.2.2.1, by rw [s.2.2]; exact h.2.2.2⟩
/-- the fillings of one more kind -/
theorem FLQ.st (hT : TH T f k) (hn : n ≤ 8) (hX : SN f k n X) (hi : 0 ≤ i ∧ i < c ∧ c < n) (ha : 0 ≤ a ∧ a < k) (hb : bt (X (8 * i + c)) a.toNat = true) (e : ∀ κ, KV k n κ → (Fl T f k n Y κ ↔ Fl T f k n (sng f k X i c a) κ)) (hs : ∀ p q : Int, 0 ≤ p → p < q → q < n → 8 * p + q < 8 * i + c → ∃ b : Int, (0 ≤ b ∧ b < 8) ∧ X (8 * p + q) = yshl 1 b) (h17 : 0 ≤ ld M 92 17) (h : FLQ T f k n (PA T f k n X i c a) X M M1) (s : SFq M1 M2) (h' : FLQ T f k n (Fl T f k n Y) Y M2 M3) : FLQ T f k n (PA T f k n X i c (a + 1)) X M M3 := by
  have hk := hT.1
  have sp : ∀ κ, KV k n κ → (PA T f k n X i c (a + 1) κ ↔ PA T f k n X i c a κ ∨ Fl T f k n Y κ) ∧ ¬ (PA T f k n X i c a κ ∧ Fl T f k n Y κ) := fun κ v => by
    rw [e κ v]
    exact pa_s hT hn hX hi ha hb v
  have ca := ct_ad hk.1 hn sp
  have n1 := ct_nn (p := PA T f k n X i c a) (UV k n)
  have n2 := ct_nn (p := Fl T f k n Y) (UV k n)
  have t1 := h.1
  have t2 := h'.1
  have t3 := s.1
  refine ⟨by omega, (h.2.1.tr (by rw [← s.2.1]; exact h'.2.1) (fun κ v => (sp κ v).1)), fun w => ?_, fun w1 w2 => ?_⟩
  · intro p q p1 p2 q1 q2
    have a1 := h.2.2.1 (by omega) p q p1 p2 q1 q2
    have a2 := h'.2.2.1 (by omega) p q p1 p2 q1 q2
    rw [a2, s.2.2, a1]
  · by_cases z : ct (PA T f k n X i c a) (UV k n) = 0
    · obtain ⟨κ, v, lx, lf⟩ := h'.2.2.2 (by omega) (by omega)
      refine ⟨κ, v, lx_up hT hn hX hi ha hb e (fun κ' v' q => ?_) hs v lx, lf⟩
      have := (ct_ex hk.1 hn (rsp_pa hn hi)).mpr ⟨κ', v', q⟩
      unfold UV at z
      omega
    · obtain ⟨κ, v, lx, lf⟩ := h.2.2.2 w1 (by omega)
      refine ⟨κ, v, lx, fun p q p1 p2 q1 q2 => ?_⟩
      rw [h'.2.2.1 (by omega) p q p1 p2 q1 q2, s.2.2]
      exact lf p q p1 p2 q1 q2
theorem FLE.st (hT : TH T f k) (hn : n ≤ 8) (hX : SN f k n X) (hi : 0 ≤ i ∧ i < c ∧ c < n) (ha : 0 ≤ a ∧ a < k) (hb : bt (X (8 * i + c)) a.toNat = true) (e : ∀ κ, KV k n κ → (Fl T f k n Y κ ↔ Fl T f k n (sng f k X i c a) κ)) (hs : ∀ p q : Int, 0 ≤ p → p < q → q < n → 8 * p + q < 8 * i + c → ∃ b : Int, (0 ≤ b ∧ b < 8) ∧ X (8 * p + q) = yshl 1 b) (h17 : 0 ≤ ld M 92 17) (h : FLQ T f k n (PA T f k n X i c a) X M M1) (s : SFq M1 M2) (h' : FLE T f k n lim Y M2 M3) : FLE T f k n lim X M M3 := by
  have hk := hT.1
  have sp : ∀ κ, KV k n κ → (PA T f k n X i c (a + 1) κ ↔ PA T f k n X i c a κ ∨ Fl T f k n Y κ) ∧ ¬ (PA T f k n X i c a κ ∧ Fl T f k n Y κ) := fun κ v => by
    rw [e κ v]
    exact pa_s hT hn hX hi ha hb v
  have ca := ct_ad hk.1 hn sp
  have cl := ct_lk (P := PA T f k n X i c (a + 1)) (P' := Fl T f k n X) hk.1 hn (fun κ v q => q.1)
  have n1 := ct_nn (p := PA T f k n X i c a) (UV k n)
  have t1 := h.1
  have t2 := h'.2.1
  have t3 := s.1
  refine ⟨h'.1, by omega, fun w p q p1 p2 q1 q2 => ?_, fun w => ?_⟩
  · rw [h'.2.2.1 (by omega) p q p1 p2 q1 q2, s.2.2, h.2.2.1 (Or.inl w) p q p1 p2 q1 q2]
  · by_cases z : ct (PA T f k n X i c a) (UV k n) = 0
    · obtain ⟨κ, v, lx, lf⟩ := h'.2.2.2 (by omega)
      refine ⟨κ, v, lx_up hT hn hX hi ha hb e (fun κ' v' q => ?_) hs v lx, lf⟩
      have := (ct_ex hk.1 hn (rsp_pa hn hi)).mpr ⟨κ', v', q⟩
      unfold UV at z
      omega
    · obtain ⟨κ, v, lx, lf⟩ := h.2.2.2 w (by omega)
      refine ⟨κ, v, lx, fun p q p1 p2 q1 q2 => ?_⟩
      rw [h'.2.2.1 (by omega) p q p1 p2 q1 q2, s.2.2]
      exact lf p q p1 p2 q1 q2
/-- the limit is there already -/
theorem FLE.of (hk : 1 ≤ k) (hn : n ≤ 8) (hl : 1 ≤ lim) (h : FLQ T f k n P X M M1) (e : ∀ κ, KV k n κ → P κ → Fl T f k n X κ) (h1 : ld M1 92 17 = lim) (h0 : 0 ≤ ld M 92 17) : FLE T f k n lim X M M1 := by
  have cl := ct_lk hk hn e
  have t := h.1
  refine ⟨h1, by omega, fun w => h.2.2.1 (Or.inl w), fun w => h.2.2.2 w (by omega)⟩
end
/-- a level of the search: the net, and the pairs ahead that are single -/
def LVM (T f : Int → Int) (k n : Int) (M : yM) (a : Int) (X : Int → Int) : Prop := SN f k n X ∧ Cl T k n X ∧ Ne n X ∧ (∀ d : Int, 0 ≤ d → d < n → X (8 * d + d) = 1) ∧ ∀ p : Int, 0 ≤ p → p < a → ∃ b : Int, (0 ≤ b ∧ b < 8) ∧ X (pl M p) = yshl 1 b
def PRX (M : yM) (c n : Int) : Prop := PRf M c n ∧ PRc M c (fun i j => 0 ≤ i ∧ i < j ∧ j < n) ∧ ∃ b : Int, PRm M c b
theorem PRX.fr {W : Nat → Int → Prop} {M M' : yM} {c n : Int} (h : PRX M c n) (f : fr W M M') (hw : ∀ j, ¬ W 101 j ∧ ¬ W 102 j) : PRX M' c n := ⟨h.1.fr f hw, h.2.1.fr f hw, h.2.2.choose, h.2.2.choose_spec.fr f hw⟩
section
variable {T f : Int → Int} {k n : Int} {X : Int → Int} {M M' : yM}
/-- ahead of a pair all are single -/
theorem LVM.sg {a c : Int} (h : LVM T f k n M a X) (hp : PRX M c n) (ha : 0 ≤ a ∧ a < c) : ∀ p q : Int, 0 ≤ p → p < q → q < n → 8 * p + q < pl M a → ∃ b : Int, (0 ≤ b ∧ b < 8) ∧ X (8 * p + q) = yshl 1 b := fun p q p1 p2 p3 w => by
  obtain ⟨r, r1, r2, r3, r4⟩ := hp.2.1 p q ⟨p1, p2, p3⟩
  obtain ⟨b, hb⟩ := hp.2.2
  have e : pl M r = 8 * p + q := by unfold pl; rw [r3, r4]
  have ra : r < a := by
    apply Classical.byContradiction
    intro z
    by_cases y : r = a
    · rw [y] at e; omega
    · have := hb.1 a r ha.1 (by omega) r2
      omega
  have s := h.2.2.2.2 r r1 ra
  rw [e] at s
  exact s
/-- all are single -/
theorem LVM.s1 {c : Int} (h : LVM T f k n M c X) (hp : PRX M c n) (hT : TH T f k) (hn : n ≤ 8) : ∀ p q : Int, 0 ≤ p → p < n → 0 ≤ q → q < n → ∃ b : Int, (0 ≤ b ∧ b < 8) ∧ X (8 * p + q) = yshl 1 b := fun p q p1 p2 q1 q2 => by
  have up : ∀ p q : Int, 0 ≤ p → p < q → q < n → ∃ b : Int, (0 ≤ b ∧ b < 8) ∧ X (8 * p + q) = yshl 1 b := fun p q p1 p2 p3 => by
    obtain ⟨r, r1, r2, r3, r4⟩ := hp.2.1 p q ⟨p1, p2, p3⟩
    have e : pl M r = 8 * p + q := by unfold pl; rw [r3, r4]
    have s := h.2.2.2.2 r r1 r2
    rw [e] at s
    exact s
  have hk := hT.1
  rcases Int.lt_trichotomy p q with w | w | w
  · exact up p q p1 w q2
  · subst w
    exact ⟨0, by omega, by rw [h.2.2.2.1 p p1 p2]; decide⟩
  · obtain ⟨b, b1, b2⟩ := up q p q1 w p2
    have s := h.1 q p q1 q2 p1 p2 (by omega)
    rw [b2] at s
    have bk := bt_al (by omega) s.1 (i := b.toNat) (by rw [bt_bit (by omega), decide_eq_true_eq])
    have fb := (hT.2.1 b b1.1 (by omega)).1
    rw [tP_bit hk hT.2.1 ⟨b1.1, by omega⟩] at s
    exact ⟨f b, by omega, s.2⟩
/-- one filling is taken -/
theorem FLQ.one (hT : TH T f k) (hn : 1 ≤ n ∧ n ≤ 8) (sn : SN f k n X) (cl : Cl T k n X) (ne : Ne n X) (dg : ∀ d : Int, 0 ≤ d → d < n → X (8 * d + d) = 1) (h1 : ∀ p q : Int, 0 ≤ p → p < n → 0 ≤ q → q < n → ∃ b : Int, (0 ≤ b ∧ b < 8) ∧ X (8 * p + q) = yshl 1 b) (t : ld M' 92 17 = ld M 92 17 + 1) (s : ∀ p q : Int, 0 ≤ p → p < n → 0 ≤ q → q < n → ld M' 105 (8 * p + q) = yor (ld M 105 (8 * p + q)) (X (8 * p + q))) (r : ∀ p q : Int, 0 ≤ p → p < n → 0 ≤ q → q < n → ld M' 104 (8 * p + q) = if ld M 92 17 = 0 then low (X (8 * p + q)) else ld M 104 (8 * p + q)) : FLQ T f k n (Fl T f k n X) X M M' := by
  have hk := hT.1
  have noE : ∀ p q : Int, ¬ Eo X n n 0 p q := fun p q e => by
    rcases e with ⟨a, b, d, _, m⟩ | ⟨a, b, d, _, m⟩
    · obtain ⟨x, x1, x2⟩ := h1 p q a (by omega) (by omega) d
      rw [x2] at m
      exact om_1b x1 m
    · obtain ⟨x, x1, x2⟩ := h1 q p a (by omega) (by omega) d
      rw [x2] at m
      exact om_1b x1 m
  have oo := one_op hk hn.2 sn hT.2.1 ne (fun p q q' _ e => absurd e (noE p q))
  have c1 := (one_fl hT hn sn cl ne noE).2
  have ex : ∃ κ, KV k n κ ∧ Fl T f k n X κ := (ct_ex hk.1 hn.2 (rsp_fl hn.2)).mp (by unfold UV at c1; omega)
  have eq : ∀ κ, KV k n κ → Fl T f k n X κ → ∀ i c : Int, 0 ≤ i → i < n → 0 ≤ c → c < n → nK f κ (8 * i + c) = X (8 * i + c) := fun κ v fl i c i1 i2 c1 c2 => by
    by_cases ic : i = c
    · subst ic
      rw [nK_dg (by omega), dg i i1 i2]
    · refine op_eq hT hn.2 sn v fl.1 ⟨i1, i2⟩ ⟨c1, c2⟩ ic (fun o => ?_)
      obtain ⟨b, b1, b2⟩ := h1 i c i1 i2 c1 c2
      exact o b b1.1 b1.2 b2
  refine ⟨by omega, fun p q p1 p2 q1 q2 b => ?_, fun w p q p1 p2 q1 q2 => ?_, fun w _ => ?_⟩
  · rw [s p q p1 p2 q1 q2, bt_yor, Bool.or_eq_true]
    constructor
    · rintro (z | z)
      · exact Or.inl z
      · obtain ⟨κ, v, fl⟩ := ex
        exact Or.inr ⟨κ, v, fl, by rw [eq κ v fl p q p1 p2 q1 q2]; exact z⟩
    · rintro (z | ⟨κ, v, fl, z⟩)
      · exact Or.inl z
      · exact Or.inr (by rw [← eq κ v fl p q p1 p2 q1 q2]; exact z)
  · rw [r p q p1 p2 q1 q2, if_neg (by omega)]
  · obtain ⟨κ, v, fl⟩ := ex
    refine ⟨κ, v, ⟨fl, fun i c a b d κ' v' fl' _ => ?_⟩, fun p q p1 p2 q1 q2 => ?_⟩
    · have e1 := eq κ v fl i c a (by omega) (by omega) d
      have e2 := eq κ' v' fl' i c a (by omega) (by omega) d
      rw [nK_lt ⟨a, b, by omega⟩] at e1 e2
      have w1 := v i c a b d
      have w2 := v' i c a b d
      have l1 := low_1 (a := κ (8 * i + c)) (by omega)
      have l2 := low_1 (a := κ' (8 * i + c)) (by omega)
      rw [e1] at l1
      rw [e2] at l2
      omega
    · rw [r p q p1 p2 q1 q2, if_pos w, eq κ v fl p q p1 p2 q1 q2]
end
