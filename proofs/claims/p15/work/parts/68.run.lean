/-! CLASS: THE SEARCH, ITS BOXES -/
theorem mul_pos1 {a b : Int} (ha : 0 ≤ a) (h : 1 ≤ a * b) : 1 ≤ a ∧ 1 ≤ b := by
  have h1 : a ≠ 0 := fun e => by rw [e, Int.zero_mul] at h; omega
  refine ⟨by omega, ?_⟩
  apply Classical.byContradiction
  intro q
  have w := Int.mul_le_mul_of_nonneg_left (show b ≤ 0 by omega) ha
  rw [Int.mul_zero] at w
  omega
theorem mul_le1 {a b c : Int} (ha : 0 ≤ a) (hb : 1 ≤ b) (e : a * b = c) : a ≤ c := by
  have w := Int.mul_le_mul_of_nonneg_left hb ha
  rw [Int.mul_one] at w
  omega
def PBq (X : Int → Int) (n i c w : Int) : Prop := PB X n i c w ∧ 1 ≤ w ∧ 1 ≤ pd (fun q => X (8 * q.1 + q.2)) 8 (gCs n i c)
def PIq (X : Int → Int) (n i w : Int) : Prop := PBI X n i w ∧ 1 ≤ w ∧ 1 ≤ pd (fun q => X (8 * q.1 + q.2)) 8 (gIs n i)
section
variable {X : Int → Int} {n i c w : Int}
theorem PIq.z (h : 1 ≤ pd (fun q => X (8 * q.1 + q.2)) 8 (prs n)) : PIq X n 0 1 := ⟨PBI.z, Int.le_refl _, h⟩
theorem PIq.inn (h : PIq X n i w) (hi : i < n) : PBq X n i (i + 1) w := ⟨h.1.inn hi, h.2.1, by
  have := h.2.2
  rw [gIs_s hi] at this
  exact this⟩
theorem PBq.row (h : PBq X n i c w) (hc : n ≤ c) : PIq X n (i + 1) w := ⟨h.1.row hc, h.2.1, by
  have := h.2.2
  rw [gCs_e hc] at this
  exact this⟩
theorem PBq.s (h : PBq X n i c w) (hc : c < n) (hx : 0 ≤ X (8 * i + c) ∧ X (8 * i + c) < 256) : PBq X n i (c + 1) (w * bc (X (8 * i + c))) := by
  have r := h.2.2
  rw [gCs_s hc] at r
  have e := (om_bc hx).2.2.2
  have m := mul_pos1 (a := pcb (X (8 * i + c)) 8) (pcb_b _ 8).1 r
  refine ⟨h.1.s hc hx, ?_, m.2⟩
  rw [e]
  have := Int.mul_le_mul h.2.1 m.1 (by omega) (by have := h.2.1; omega)
  omega
theorem SBx.end {S S' : Int → Int} {x : Int} (h : SBx X S S' n x 0) (hx : n ≤ x) : SBx X S S' n n 0 := fun p q p1 p2 q1 q2 => by
  rw [h p q p1 p2 q1 q2]
  exact ite_ci (by omega) rfl (ite_ci (by omega) rfl rfl)
theorem PBq.bd (h : PBq X n i c w) : w ≤ pd (fun q => X (8 * q.1 + q.2)) 8 (prs n) := mul_le1 (by have := h.2.1; omega) h.2.2 h.1
theorem PIq.bd (h : PIq X n i w) : w ≤ pd (fun q => X (8 * q.1 + q.2)) 8 (prs n) := mul_le1 (by have := h.2.1; omega) h.2.2 h.1
end
theorem n7_takeBox {d : Nat} {Q : yM → Prop} {M : yM} {x1 : Nat} {n : Int} (hn : ld M 22 6 = n) (hn8 : 1 ≤ n ∧ n ≤ 8) (hA : arrSh x1 64) (hx : 24 ≤ x1 ∧ x1 ≠ 53) (hX : ∀ p q : Int, 0 ≤ p → p < q → q < n → 0 ≤ ld M x1 (8 * p + q) ∧ ld M x1 (8 * p + q) < 256) (hb : 1 ≤ pd (fun q => ld M x1 (8 * q.1 + q.2)) 8 (prs n) ∧ pd (fun q => ld M x1 (8 * q.1 + q.2)) 8 (prs n) ≤ 16777216) (ht : 0 ≤ ld M 22 7 ∧ ld M 22 7 ≤ 20001) (kont : ∀ (M' : yM), fr (fun o j => o = 53 ∨ (o = 22 ∧ j = 7)) M M' → (ld M' 22 7 = ld M 22 7 + pd (fun q => ld M x1 (8 * q.1 + q.2)) 8 (prs n)) → (SBx (ld M x1) (ld M 53) (ld M' 53) n n 0) → Q M') : XCv (d + 1) 52 [.inr (.inr 22), .inr (.inr x1)] M Q := by
  refine eX7_takeBox ?_
  have fM : fr (fun o j => o = 53 ∨ (o = 22 ∧ j = 7)) M M := fr.rf
  have go : ∀ N : Nat, (∀ (x2 : Int) (x3 : Int) (wx4 : Option yV) (wx5 : Option yV) (M9 : yM), fr (fun o j => o = 53 ∨ (o = 22 ∧ j = 7)) M M9 → (0 ≤ x3 ∧ x3 ≤ 8) → (PIq (ld M x1) n x3 x2) → (SBx (ld M x1) (ld M 53) (ld M9 53) n x3 0) → (ld M9 22 7 = ld M 22 7) → ((8 - x3) * 40 + 20 < (N : Int)) → XW kX7_takeBox (d + 1) none (wQv Q) 4 [some (.inr (.inr 22)), some (.inr (.inr x1)), some (.inl x2), some (.inl x3), wx4, wx5] [] M9) ∧ (∀ (x2 : Int) (x3 : Int) (x4 : Int) (wx5 : Option yV) (M9 : yM), fr (fun o j => o = 53 ∨ (o = 22 ∧ j = 7)) M M9 → (0 ≤ x3 ∧ x3 < n) → (x3 < x4 ∧ x4 ≤ 8) → (PBq (ld M x1) n x3 x4 x2) → (SBx (ld M x1) (ld M 53) (ld M9 53) n x3 x4) → (ld M9 22 7 = ld M 22 7) → ((8 - x3) * 40 + 8 - x4 < (N : Int)) → XW kX7_takeBox (d + 1) none (wQv Q) 27 [some (.inr (.inr 22)), some (.inr (.inr x1)), some (.inl x2), some (.inl x3), some (.inl x4), wx5] [] M9) := by
    intro N
    induction N with
    | zero => refine ⟨?_, ?_⟩ <;> (intros; exfalso; omega)
    | succ N ih =>
      obtain ⟨ih0, ih1⟩ := ih
      refine ⟨?_, ?_⟩
      · skip
        clear fM
        intro x2 x3 wx4 wx5 M1 fM i0 i1 i2 i3 hm
        have k22_6 := fM.ld (o := 22) (j := 6) (by intro hw; first | omega | (dsimp only [wSub, wRun, wNar, wFil, wCan, wLst, wCar, wDr, wFl, wMq, wRd, wRx, wCr, wTab, wTr, wNew, wKi, wKn, wTn, wOb, wPt, wTl, wOq] at hw; omega) | (simp [wSub, wRun, wNar, wFil, wCan, wLst, wCar, wDr, wFl, wMq, wRd, wRx, wCr, wTab, wTr, wNew, wKi, wKn, wTn, wOb, wPt, wTl, wOq] at hw; done) | (simp [wSub, wRun, wNar, wFil, wCan, wLst, wCar, wDr, wFl, wMq, wRd, wRx, wCr, wTab, wTr, wNew, wKi, wKn, wTn, wOb, wPt, wTl, wOq] at hw; omega))
        refine uX7_takeBox_4 (by first | omega | assumption | with_reducible exact rng_ld _ _ _ | with_reducible exact rng_yand _ _ | with_reducible exact rng_yor _ _ | with_reducible exact rng_zcmp _ _ | with_reducible exact yand7 _ | with_reducible exact rng_toInt _ | with_reducible exact yarr23 (by omega) | with_reducible exact yarr57 (by omega) | with_reducible exact Or.inl rfl | with_reducible exact Or.inr rfl) (fun hc => ?_) (fun hc => ?_)
        · skip
          have b108 := i1.bd
          have e108 := i1.1.end (by omega)
          have z108 := i1.2.1
          refine uX7_takeBox_108 ?_
          intro M2 hM2
          replace fM := fr.put fM hM2 (by first | omega | (dsimp only [wSub, wRun, wNar, wFil, wCan, wLst, wCar, wDr, wFl, wMq, wRd, wRx, wCr, wTab, wTr, wNew, wKi, wKn, wTn, wOb, wPt, wTl, wOq]; done) | (dsimp only [wSub, wRun, wNar, wFil, wCan, wLst, wCar, wDr, wFl, wMq, wRd, wRx, wCr, wTab, wTr, wNew, wKi, wKn, wTn, wOb, wPt, wTl, wOq]; omega) | (simp [wSub, wRun, wNar, wFil, wCan, wLst, wCar, wDr, wFl, wMq, wRd, wRx, wCr, wTab, wTr, wNew, wKi, wKn, wTn, wOb, wPt, wTl, wOq]; done) | (simp [wSub, wRun, wNar, wFil, wCan, wLst, wCar, wDr, wFl, wMq, wRd, wRx, wCr, wTab, wTr, wNew, wKi, wKn, wTn, wOb, wPt, wTl, wOq]; omega))
          have k22_6 := fM.ld (o := 22) (j := 6) (by intro hw; first | omega | (dsimp only [wSub, wRun, wNar, wFil, wCan, wLst, wCar, wDr, wFl, wMq, wRd, wRx, wCr, wTab, wTr, wNew, wKi, wKn, wTn, wOb, wPt, wTl, wOq] at hw; omega) | (simp [wSub, wRun, wNar, wFil, wCan, wLst, wCar, wDr, wFl, wMq, wRd, wRx, wCr, wTab, wTr, wNew, wKi, wKn, wTn, wOb, wPt, wTl, wOq] at hw; done) | (simp [wSub, wRun, wNar, wFil, wCan, wLst, wCar, wDr, wFl, wMq, wRd, wRx, wCr, wTab, wTr, wNew, wKi, wKn, wTn, wOb, wPt, wTl, wOq] at hw; omega))
          have t108 : ld M2 22 7 = ld M 22 7 + pd (fun q => ld M x1 (8 * q.1 + q.2)) 8 (prs n) := by
            rw [hM2, ld_same (by omega)]
            omega
          have s108 : SBx (ld M x1) (ld M 53) (ld M2 53) n n 0 := by
            rw [show ld M2 53 = ld M1 53 from funext fun j => by rw [hM2, ld_putne (by omega)]]
            exact i2.end (by omega)
          refine uX7_takeBox_118 ?_
          exact kont _ fM t108 s108
        · skip
          refine uX7_takeBox_12 (by first | omega | assumption | with_reducible exact rng_ld _ _ _ | with_reducible exact rng_yand _ _ | with_reducible exact rng_yor _ _ | with_reducible exact rng_zcmp _ _ | with_reducible exact yand7 _ | with_reducible exact rng_toInt _ | with_reducible exact yarr23 (by omega) | with_reducible exact yarr57 (by omega) | with_reducible exact Or.inl rfl | with_reducible exact Or.inr rfl) ?_
          intro M3 hM3
          replace fM := fr.put fM hM3 (by first | omega | (dsimp only [wSub, wRun, wNar, wFil, wCan, wLst, wCar, wDr, wFl, wMq, wRd, wRx, wCr, wTab, wTr, wNew, wKi, wKn, wTn, wOb, wPt, wTl, wOq]; done) | (dsimp only [wSub, wRun, wNar, wFil, wCan, wLst, wCar, wDr, wFl, wMq, wRd, wRx, wCr, wTab, wTr, wNew, wKi, wKn, wTn, wOb, wPt, wTl, wOq]; omega) | (simp [wSub, wRun, wNar, wFil, wCan, wLst, wCar, wDr, wFl, wMq, wRd, wRx, wCr, wTab, wTr, wNew, wKi, wKn, wTn, wOb, wPt, wTl, wOq]; done) | (simp [wSub, wRun, wNar, wFil, wCan, wLst, wCar, wDr, wFl, wMq, wRd, wRx, wCr, wTab, wTr, wNew, wKi, wKn, wTn, wOb, wPt, wTl, wOq]; omega))
          have k22_6 := fM.ld (o := 22) (j := 6) (by intro hw; first | omega | (dsimp only [wSub, wRun, wNar, wFil, wCan, wLst, wCar, wDr, wFl, wMq, wRd, wRx, wCr, wTab, wTr, wNew, wKi, wKn, wTn, wOb, wPt, wTl, wOq] at hw; omega) | (simp [wSub, wRun, wNar, wFil, wCan, wLst, wCar, wDr, wFl, wMq, wRd, wRx, wCr, wTab, wTr, wNew, wKi, wKn, wTn, wOb, wPt, wTl, wOq] at hw; done) | (simp [wSub, wRun, wNar, wFil, wCan, wLst, wCar, wDr, wFl, wMq, wRd, wRx, wCr, wTab, wTr, wNew, wKi, wKn, wTn, wOb, wPt, wTl, wOq] at hw; omega))
          have t12 : ld M3 22 7 = ld M1 22 7 := by rw [hM3, ld_putne (by omega)]
          have s12 : SBx (ld M x1) (ld M 53) (ld M3 53) n x3 (x3 + 1) := i2.dg (by omega) (fun z => by
            rw [hM3, ld_put (by omega)]
            simp only [true_and])
          refine uX7_takeBox_22 ?_
          exact ih1 _ _ _ _ M3 fM (by first | omega | assumption | with_reducible exact rng_ld _ _ _ | with_reducible exact rng_yand _ _ | with_reducible exact rng_yor _ _ | with_reducible exact rng_zcmp _ _ | with_reducible exact yand7 _ | with_reducible exact rng_toInt _ | with_reducible exact yarr23 (by omega) | with_reducible exact yarr57 (by omega) | with_reducible exact Or.inl rfl | with_reducible exact Or.inr rfl) (by first | omega | assumption | with_reducible exact rng_ld _ _ _ | with_reducible exact rng_yand _ _ | with_reducible exact rng_yor _ _ | with_reducible exact rng_zcmp _ _ | with_reducible exact yand7 _ | with_reducible exact rng_toInt _ | with_reducible exact yarr23 (by omega) | with_reducible exact yarr57 (by omega) | with_reducible exact Or.inl rfl | with_reducible exact Or.inr rfl) (by first | exact i1.inn (by omega) | exact pb36) (by first | exact s12 | exact s72) (by first | omega | assumption | with_reducible exact rng_ld _ _ _ | with_reducible exact rng_yand _ _ | with_reducible exact rng_yor _ _ | with_reducible exact rng_zcmp _ _ | with_reducible exact yand7 _ | with_reducible exact rng_toInt _ | with_reducible exact yarr23 (by omega) | with_reducible exact yarr57 (by omega) | with_reducible exact Or.inl rfl | with_reducible exact Or.inr rfl) (by omega)
      · skip
        clear fM
        intro x2 x3 x4 wx5 M4 fM i0 i1 i2 i3 i4 hm
        have k22_6 := fM.ld (o := 22) (j := 6) (by intro hw; first | omega | (dsimp only [wSub, wRun, wNar, wFil, wCan, wLst, wCar, wDr, wFl, wMq, wRd, wRx, wCr, wTab, wTr, wNew, wKi, wKn, wTn, wOb, wPt, wTl, wOq] at hw; omega) | (simp [wSub, wRun, wNar, wFil, wCan, wLst, wCar, wDr, wFl, wMq, wRd, wRx, wCr, wTab, wTr, wNew, wKi, wKn, wTn, wOb, wPt, wTl, wOq] at hw; done) | (simp [wSub, wRun, wNar, wFil, wCan, wLst, wCar, wDr, wFl, wMq, wRd, wRx, wCr, wTab, wTr, wNew, wKi, wKn, wTn, wOb, wPt, wTl, wOq] at hw; omega))
        refine uX7_takeBox_27 (by first | omega | assumption | with_reducible exact rng_ld _ _ _ | with_reducible exact rng_yand _ _ | with_reducible exact rng_yor _ _ | with_reducible exact rng_zcmp _ _ | with_reducible exact yand7 _ | with_reducible exact rng_toInt _ | with_reducible exact yarr23 (by omega) | with_reducible exact yarr57 (by omega) | with_reducible exact Or.inl rfl | with_reducible exact Or.inr rfl) (fun hc => ?_) (fun hc => ?_)
        · skip
          refine uX7_takeBox_102 ?_
          exact ih0 _ _ _ _ M4 fM (by first | omega | assumption | with_reducible exact rng_ld _ _ _ | with_reducible exact rng_yand _ _ | with_reducible exact rng_yor _ _ | with_reducible exact rng_zcmp _ _ | with_reducible exact yand7 _ | with_reducible exact rng_toInt _ | with_reducible exact yarr23 (by omega) | with_reducible exact yarr57 (by omega) | with_reducible exact Or.inl rfl | with_reducible exact Or.inr rfl) (by first | exact PIq.z hb.1 | exact i2.row (by omega)) (by first | exact SBx.z | exact i3.row (by omega) (by omega)) (by first | omega | assumption | with_reducible exact rng_ld _ _ _ | with_reducible exact rng_yand _ _ | with_reducible exact rng_yor _ _ | with_reducible exact rng_zcmp _ _ | with_reducible exact yand7 _ | with_reducible exact rng_toInt _ | with_reducible exact yarr23 (by omega) | with_reducible exact yarr57 (by omega) | with_reducible exact Or.inl rfl | with_reducible exact Or.inr rfl) (by omega)
        · skip
          have x9 : ld M4 x1 = ld M x1 := funext fun j => fM.ld (by omega)
          have pb36 : PBq (ld M x1) n x3 (x4 + 1) (x2 * bc (ld M4 x1 (8 * x3 + x4))) := by
            rw [x9]
            exact i2.s (by omega) (hX x3 x4 (by omega) (by omega) (by omega))
          refine uX7_takeBox_36 (by first | assumption | exact ⟨rfl, Nat.le_of_ble_eq_true rfl⟩ | with_reducible exact yarr23 (by omega) | with_reducible exact yarr57 (by omega)) (by first | omega | assumption | with_reducible exact rng_ld _ _ _ | with_reducible exact rng_yand _ _ | with_reducible exact rng_yor _ _ | with_reducible exact rng_zcmp _ _ | with_reducible exact yand7 _ | with_reducible exact rng_toInt _ | with_reducible exact yarr23 (by omega) | with_reducible exact yarr57 (by omega) | with_reducible exact Or.inl rfl | with_reducible exact Or.inr rfl) ?_
          refine cJ6   ?_
          refine uX7_takeBox_53 (by first | omega | assumption | with_reducible exact rng_ld _ _ _ | with_reducible exact rng_yand _ _ | with_reducible exact rng_yor _ _ | with_reducible exact rng_zcmp _ _ | with_reducible exact yand7 _ | with_reducible exact rng_toInt _ | with_reducible exact yarr23 (by omega) | with_reducible exact yarr57 (by omega) | with_reducible exact Or.inl rfl | with_reducible exact Or.inr rfl) (by first | omega | assumption | with_reducible exact rng_ld _ _ _ | with_reducible exact rng_yand _ _ | with_reducible exact rng_yor _ _ | with_reducible exact rng_zcmp _ _ | with_reducible exact yand7 _ | with_reducible exact rng_toInt _ | with_reducible exact yarr23 (by omega) | with_reducible exact yarr57 (by omega) | with_reducible exact Or.inl rfl | with_reducible exact Or.inr rfl) ?_
          intro M6 hM6
          replace fM := fr.put fM hM6 (by first | omega | (dsimp only [wSub, wRun, wNar, wFil, wCan, wLst, wCar, wDr, wFl, wMq, wRd, wRx, wCr, wTab, wTr, wNew, wKi, wKn, wTn, wOb, wPt, wTl, wOq]; done) | (dsimp only [wSub, wRun, wNar, wFil, wCan, wLst, wCar, wDr, wFl, wMq, wRd, wRx, wCr, wTab, wTr, wNew, wKi, wKn, wTn, wOb, wPt, wTl, wOq]; omega) | (simp [wSub, wRun, wNar, wFil, wCan, wLst, wCar, wDr, wFl, wMq, wRd, wRx, wCr, wTab, wTr, wNew, wKi, wKn, wTn, wOb, wPt, wTl, wOq]; done) | (simp [wSub, wRun, wNar, wFil, wCan, wLst, wCar, wDr, wFl, wMq, wRd, wRx, wCr, wTab, wTr, wNew, wKi, wKn, wTn, wOb, wPt, wTl, wOq]; omega))
          have k22_6 := fM.ld (o := 22) (j := 6) (by intro hw; first | omega | (dsimp only [wSub, wRun, wNar, wFil, wCan, wLst, wCar, wDr, wFl, wMq, wRd, wRx, wCr, wTab, wTr, wNew, wKi, wKn, wTn, wOb, wPt, wTl, wOq] at hw; omega) | (simp [wSub, wRun, wNar, wFil, wCan, wLst, wCar, wDr, wFl, wMq, wRd, wRx, wCr, wTab, wTr, wNew, wKi, wKn, wTn, wOb, wPt, wTl, wOq] at hw; done) | (simp [wSub, wRun, wNar, wFil, wCan, wLst, wCar, wDr, wFl, wMq, wRd, wRx, wCr, wTab, wTr, wNew, wKi, wKn, wTn, wOb, wPt, wTl, wOq] at hw; omega))
          have e53 := hM6
          rw [x9] at e53
          have t53 : ld M6 22 7 = ld M4 22 7 := by rw [hM6, ld_putne (by omega)]
          have v53 : ld M6 53 (8 * x4 + x3) = ld M4 53 (8 * x4 + x3) := by rw [hM6, ld_putne (by omega)]
          have x53 : ld M6 x1 = ld M x1 := funext fun j => fM.ld (by omega)
          refine uX7_takeBox_72 (by first | omega | assumption | with_reducible exact rng_ld _ _ _ | with_reducible exact rng_yand _ _ | with_reducible exact rng_yor _ _ | with_reducible exact rng_zcmp _ _ | with_reducible exact yand7 _ | with_reducible exact rng_toInt _ | with_reducible exact yarr23 (by omega) | with_reducible exact yarr57 (by omega) | with_reducible exact Or.inl rfl | with_reducible exact Or.inr rfl) (by first | assumption | exact ⟨rfl, Nat.le_of_ble_eq_true rfl⟩ | with_reducible exact yarr23 (by omega) | with_reducible exact yarr57 (by omega)) (by first | omega | assumption | with_reducible exact rng_ld _ _ _ | with_reducible exact rng_yand _ _ | with_reducible exact rng_yor _ _ | with_reducible exact rng_zcmp _ _ | with_reducible exact yand7 _ | with_reducible exact rng_toInt _ | with_reducible exact yarr23 (by omega) | with_reducible exact yarr57 (by omega) | with_reducible exact Or.inl rfl | with_reducible exact Or.inr rfl) (by first | omega | assumption | with_reducible exact rng_ld _ _ _ | with_reducible exact rng_yand _ _ | with_reducible exact rng_yor _ _ | with_reducible exact rng_zcmp _ _ | with_reducible exact yand7 _ | with_reducible exact rng_toInt _ | with_reducible exact yarr23 (by omega) | with_reducible exact yarr57 (by omega) | with_reducible exact Or.inl rfl | with_reducible exact Or.inr rfl) ?_
          intro M7 hM7
          replace fM := fr.put fM hM7 (by first | omega | (dsimp only [wSub, wRun, wNar, wFil, wCan, wLst, wCar, wDr, wFl, wMq, wRd, wRx, wCr, wTab, wTr, wNew, wKi, wKn, wTn, wOb, wPt, wTl, wOq]; done) | (dsimp only [wSub, wRun, wNar, wFil, wCan, wLst, wCar, wDr, wFl, wMq, wRd, wRx, wCr, wTab, wTr, wNew, wKi, wKn, wTn, wOb, wPt, wTl, wOq]; omega) | (simp [wSub, wRun, wNar, wFil, wCan, wLst, wCar, wDr, wFl, wMq, wRd, wRx, wCr, wTab, wTr, wNew, wKi, wKn, wTn, wOb, wPt, wTl, wOq]; done) | (simp [wSub, wRun, wNar, wFil, wCan, wLst, wCar, wDr, wFl, wMq, wRd, wRx, wCr, wTab, wTr, wNew, wKi, wKn, wTn, wOb, wPt, wTl, wOq]; omega))
          have k22_6 := fM.ld (o := 22) (j := 6) (by intro hw; first | omega | (dsimp only [wSub, wRun, wNar, wFil, wCan, wLst, wCar, wDr, wFl, wMq, wRd, wRx, wCr, wTab, wTr, wNew, wKi, wKn, wTn, wOb, wPt, wTl, wOq] at hw; omega) | (simp [wSub, wRun, wNar, wFil, wCan, wLst, wCar, wDr, wFl, wMq, wRd, wRx, wCr, wTab, wTr, wNew, wKi, wKn, wTn, wOb, wPt, wTl, wOq] at hw; done) | (simp [wSub, wRun, wNar, wFil, wCan, wLst, wCar, wDr, wFl, wMq, wRd, wRx, wCr, wTab, wTr, wNew, wKi, wKn, wTn, wOb, wPt, wTl, wOq] at hw; omega))
          have t72 : ld M7 22 7 = ld M6 22 7 := by rw [hM7, ld_putne (by omega)]
          have e72 := hM7
          rw [v53, x53] at e72
          have s72 : SBx (ld M x1) (ld M 53) (ld M7 53) n x3 (x4 + 1) := i3.ce (by omega) (fun z => by
            rw [e72, ld_put (rng_yor _ _), e53, ld_put (rng_yor _ _)]
            simp only [true_and])
          refine uX7_takeBox_96 ?_
          exact ih1 _ _ _ _ M7 fM (by first | omega | assumption | with_reducible exact rng_ld _ _ _ | with_reducible exact rng_yand _ _ | with_reducible exact rng_yor _ _ | with_reducible exact rng_zcmp _ _ | with_reducible exact yand7 _ | with_reducible exact rng_toInt _ | with_reducible exact yarr23 (by omega) | with_reducible exact yarr57 (by omega) | with_reducible exact Or.inl rfl | with_reducible exact Or.inr rfl) (by first | omega | assumption | with_reducible exact rng_ld _ _ _ | with_reducible exact rng_yand _ _ | with_reducible exact rng_yor _ _ | with_reducible exact rng_zcmp _ _ | with_reducible exact yand7 _ | with_reducible exact rng_toInt _ | with_reducible exact yarr23 (by omega) | with_reducible exact yarr57 (by omega) | with_reducible exact Or.inl rfl | with_reducible exact Or.inr rfl) (by first | exact i1.inn (by omega) | exact pb36) (by first | exact s12 | exact s72) (by first | omega | assumption | with_reducible exact rng_ld _ _ _ | with_reducible exact rng_yand _ _ | with_reducible exact rng_yor _ _ | with_reducible exact rng_zcmp _ _ | with_reducible exact yand7 _ | with_reducible exact rng_toInt _ | with_reducible exact yarr23 (by omega) | with_reducible exact yarr57 (by omega) | with_reducible exact Or.inl rfl | with_reducible exact Or.inr rfl) (by omega)
  refine uX7_takeBox_0 ?_
  exact (go 1000000).1 _ _ _ _ M fM (by first | omega | assumption | with_reducible exact rng_ld _ _ _ | with_reducible exact rng_yand _ _ | with_reducible exact rng_yor _ _ | with_reducible exact rng_zcmp _ _ | with_reducible exact yand7 _ | with_reducible exact rng_toInt _ | with_reducible exact yarr23 (by omega) | with_reducible exact yarr57 (by omega) | with_reducible exact Or.inl rfl | with_reducible exact Or.inr rfl) (by first | exact PIq.z hb.1 | exact i2.row (by omega)) (by first | exact SBx.z | exact i3.row (by omega) (by omega)) (by first | omega | assumption | with_reducible exact rng_ld _ _ _ | with_reducible exact rng_yand _ _ | with_reducible exact rng_yor _ _ | with_reducible exact rng_zcmp _ _ | with_reducible exact yand7 _ | with_reducible exact rng_toInt _ | with_reducible exact yarr23 (by omega) | with_reducible exact yarr57 (by omega) | with_reducible exact Or.inl rfl | with_reducible exact Or.inr rfl) (by omega)
/-! one of each pair -/
def TL (X : Int → Int) (f : Int → Int) (n x y : Int) (L : Int → Int) : Prop := ∀ p q : Int, 0 ≤ p → p < 8 → 0 ≤ q → q < 8 → L (8 * p + q) = if (p < q ∧ q < n ∧ (p < x ∨ p = x ∧ q < y)) ∨ (q < p ∧ p < n ∧ (q < x ∨ q = x ∧ p < y)) then nK f (fun z => low (X z)) (8 * p + q) else X (8 * p + q)
section
variable {X f L L' : Int → Int} {n x y k : Int} {T : Int → Int}
theorem TL.cg {x' y' : Int} (h : TL X f n x y L) (e : ∀ i c : Int, 0 ≤ i → i < c → c < n → ((i < x ∨ i = x ∧ c < y) ↔ (i < x' ∨ i = x' ∧ c < y'))) : TL X f n x' y' L := fun p q p1 p2 q1 q2 => by
  rw [h p q p1 p2 q1 q2]
  have a := e p q
  have b := e q p
  by_cases w : (p < q ∧ q < n ∧ (p < x ∨ p = x ∧ q < y)) ∨ (q < p ∧ p < n ∧ (q < x ∨ q = x ∧ p < y))
  · rw [if_pos w, if_pos]
    rcases w with w | w
    · exact Or.inl ⟨w.1, w.2.1, (a p1 w.1 w.2.1).mp w.2.2⟩
    · exact Or.inr ⟨w.1, w.2.1, (b q1 w.1 w.2.1).mp w.2.2⟩
  · rw [if_neg w, if_neg]
    rintro (v | v)
    · exact w (Or.inl ⟨v.1, v.2.1, (a p1 v.1 v.2.1).mpr v.2.2⟩)
    · exact w (Or.inr ⟨v.1, v.2.1, (b q1 v.1 v.2.1).mpr v.2.2⟩)
theorem TL.z (e : EqN L X) : TL X f n 0 0 L := fun p q p1 p2 q1 q2 => by
  rw [if_neg (by omega)]
  exact e _ (by omega) (by omega)
theorem TL.row (h : TL X f n x y L) (hy : n ≤ y) : TL X f n (x + 1) 0 L := h.cg (fun i c a b d => by omega)
theorem TL.inn (h : TL X f n x 0 L) : TL X f n x (x + 1) L := h.cg (fun i c a b d => by omega)
theorem TL.s (h : TL X f n x y L) (hk : 1 ≤ k ∧ k ≤ 8) (hf : IV f k) (hx : 0 ≤ x ∧ x < y ∧ y < n ∧ n ≤ 8) (ha : 0 ≤ low (X (8 * x + y)) ∧ low (X (8 * x + y)) < k) (e : L' = up2 L x y (yshl 1 (low (X (8 * x + y)))) (tP f k (yshl 1 (low (X (8 * x + y)))))) : TL X f n x (y + 1) L' := fun p q p1 p2 q1 q2 => by
  rw [e, up2_at (by omega) (by omega) (by omega) (by omega)]
  by_cases a : p = y ∧ q = x
  · obtain ⟨rfl, rfl⟩ := a
    rw [if_pos ⟨rfl, rfl⟩, if_pos (by omega), nK_gt (by omega), tP_bit hk hf ha]
  · by_cases b : p = x ∧ q = y
    · obtain ⟨rfl, rfl⟩ := b
      rw [if_neg (by omega), if_pos ⟨rfl, rfl⟩, if_pos (by omega), nK_lt (by omega)]
    · rw [if_neg a, if_neg b, h p q p1 p2 q1 q2]
      by_cases w : (p < q ∧ q < n ∧ (p < x ∨ p = x ∧ q < y)) ∨ (q < p ∧ p < n ∧ (q < x ∨ q = x ∧ p < y))
      · rw [if_pos w, if_pos (by omega)]
      · rw [if_neg w, if_neg (by omega)]
end
def D8 (X : Int → Int) : Prop := ∀ d : Int, 0 ≤ d → d < 8 → X (8 * d + d) = 1
/-- a choice as it lies in an array -/
def LK (n : Int) (f κ L : Int → Int) : Prop := ∀ p q : Int, 0 ≤ p → p < n → 0 ≤ q → q < n → L (8 * p + q) = nK f κ (8 * p + q)
theorem TL.end {X f L : Int → Int} {n x : Int} (h : TL X f n x 0 L) (hx : n ≤ x) (hn : n ≤ 8) (hd : D8 X) : LK n f (fun z => low (X z)) L := fun p q p1 p2 q1 q2 => by
  rw [h p q p1 (by omega) q1 (by omega)]
  by_cases e : p = q
  · subst e
    rw [if_neg (by omega), nK_dg (by omega)]
    exact hd p p1 (by omega)
  · rw [if_pos (by omega)]
theorem n7_takeLowest {d : Nat} {Q : yM → Prop} {M : yM} {x1 : Nat} {T f : Int → Int} {k n : Int} (hn : ld M 22 6 = n) (hn8 : 1 ≤ n ∧ n ≤ 8) (hA : arrSh x1 64) (hx : 24 ≤ x1 ∧ x1 ≠ 54) (hCT : CT M T f k) (hSN : SN f k n (ld M x1)) (hNe : Ne n (ld M x1)) (hD8 : D8 (ld M x1)) (kont : ∀ (M' : yM), fr (fun o _ => o = 54) M M' → (LK n f (fun z => low (ld M x1 z)) (ld M' 54)) → Q M') : XCv (d + 2) 53 [.inr (.inr 22), .inr (.inr x1)] M Q := by
  refine eX7_takeLowest ?_
  have fM : fr (fun o _ => o = 54) M M := fr.rf
  have hk8 := hCT.2.1.1
  have kv := low_kv hk8 hSN hNe
  have go : ∀ N : Nat, (∀ (x2 : Int) (wx3 : Option yV) (M9 : yM), fr (fun o _ => o = 54) M M9 → (0 ≤ x2 ∧ x2 ≤ 8) → (TL (ld M x1) f n x2 0 (ld M9 54)) → ((8 - x2) * 40 + 20 < (N : Int)) → XW kX7_takeLowest (d + 2) none (wQv Q) 14 [some (.inr (.inr 22)), some (.inr (.inr x1)), some (.inl x2), wx3] [] M9) ∧ (∀ (x2 : Int) (x3 : Int) (M9 : yM), fr (fun o _ => o = 54) M M9 → (0 ≤ x2 ∧ x2 < n) → (x2 < x3 ∧ x3 ≤ 8) → (TL (ld M x1) f n x2 x3 (ld M9 54)) → ((8 - x2) * 40 + 8 - x3 < (N : Int)) → XW kX7_takeLowest (d + 2) none (wQv Q) 26 [some (.inr (.inr 22)), some (.inr (.inr x1)), some (.inl x2), some (.inl x3)] [] M9) := by
    intro N
    induction N with
    | zero => refine ⟨?_, ?_⟩ <;> (intros; exfalso; omega)
    | succ N ih =>
      obtain ⟨ih0, ih1⟩ := ih
      refine ⟨?_, ?_⟩
      · skip
        clear fM
        intro x2 wx3 M1 fM i0 i1 hm
        have k22_6 := fM.ld (o := 22) (j := 6) (by intro hw; first | omega | (dsimp only [wSub, wRun, wNar, wFil, wCan, wLst, wCar, wDr, wFl, wMq, wRd, wRx, wCr, wTab, wTr, wNew, wKi, wKn, wTn, wOb, wPt, wTl, wOq] at hw; omega) | (simp [wSub, wRun, wNar, wFil, wCan, wLst, wCar, wDr, wFl, wMq, wRd, wRx, wCr, wTab, wTr, wNew, wKi, wKn, wTn, wOb, wPt, wTl, wOq] at hw; done) | (simp [wSub, wRun, wNar, wFil, wCan, wLst, wCar, wDr, wFl, wMq, wRd, wRx, wCr, wTab, wTr, wNew, wKi, wKn, wTn, wOb, wPt, wTl, wOq] at hw; omega))
        refine uX7_takeLowest_14 (by first | omega | assumption | with_reducible exact rng_ld _ _ _ | with_reducible exact rng_yand _ _ | with_reducible exact rng_yor _ _ | with_reducible exact rng_zcmp _ _ | with_reducible exact yand7 _ | with_reducible exact rng_toInt _ | with_reducible exact yarr23 (by omega) | with_reducible exact yarr57 (by omega) | with_reducible exact Or.inl rfl | with_reducible exact Or.inr rfl) (fun hc => ?_) (fun hc => ?_)
        · skip
          refine uX7_takeLowest_74 ?_
          exact kont _ fM (i1.end (by omega) (by omega) hD8)
        · skip
          refine uX7_takeLowest_22 ?_
          exact ih1 _ _ M1 fM (by first | omega | assumption | with_reducible exact rng_ld _ _ _ | with_reducible exact rng_yand _ _ | with_reducible exact rng_yor _ _ | with_reducible exact rng_zcmp _ _ | with_reducible exact yand7 _ | with_reducible exact rng_toInt _ | with_reducible exact yarr23 (by omega) | with_reducible exact yarr57 (by omega) | with_reducible exact Or.inl rfl | with_reducible exact Or.inr rfl) (by first | omega | assumption | with_reducible exact rng_ld _ _ _ | with_reducible exact rng_yand _ _ | with_reducible exact rng_yor _ _ | with_reducible exact rng_zcmp _ _ | with_reducible exact yand7 _ | with_reducible exact rng_toInt _ | with_reducible exact yarr23 (by omega) | with_reducible exact yarr57 (by omega) | with_reducible exact Or.inl rfl | with_reducible exact Or.inr rfl) (by first | exact i1.inn | exact t59) (by omega)
      · skip
        clear fM
        intro x2 x3 M2 fM i0 i1 i2 hm
        have k22_6 := fM.ld (o := 22) (j := 6) (by intro hw; first | omega | (dsimp only [wSub, wRun, wNar, wFil, wCan, wLst, wCar, wDr, wFl, wMq, wRd, wRx, wCr, wTab, wTr, wNew, wKi, wKn, wTn, wOb, wPt, wTl, wOq] at hw; omega) | (simp [wSub, wRun, wNar, wFil, wCan, wLst, wCar, wDr, wFl, wMq, wRd, wRx, wCr, wTab, wTr, wNew, wKi, wKn, wTn, wOb, wPt, wTl, wOq] at hw; done) | (simp [wSub, wRun, wNar, wFil, wCan, wLst, wCar, wDr, wFl, wMq, wRd, wRx, wCr, wTab, wTr, wNew, wKi, wKn, wTn, wOb, wPt, wTl, wOq] at hw; omega))
        refine uX7_takeLowest_26 (by first | omega | assumption | with_reducible exact rng_ld _ _ _ | with_reducible exact rng_yand _ _ | with_reducible exact rng_yor _ _ | with_reducible exact rng_zcmp _ _ | with_reducible exact yand7 _ | with_reducible exact rng_toInt _ | with_reducible exact yarr23 (by omega) | with_reducible exact yarr57 (by omega) | with_reducible exact Or.inl rfl | with_reducible exact Or.inr rfl) (fun hc => ?_) (fun hc => ?_)
        · skip
          refine uX7_takeLowest_68 ?_
          exact ih0 _ _ M2 fM (by first | omega | assumption | with_reducible exact rng_ld _ _ _ | with_reducible exact rng_yand _ _ | with_reducible exact rng_yor _ _ | with_reducible exact rng_zcmp _ _ | with_reducible exact yand7 _ | with_reducible exact rng_toInt _ | with_reducible exact yarr23 (by omega) | with_reducible exact yarr57 (by omega) | with_reducible exact Or.inl rfl | with_reducible exact Or.inr rfl) (by first | exact t0 | exact i2.row (by omega)) (by omega)
        · skip
          have x9 : ld M2 x1 = ld M x1 := funext fun j => fM.ld (by omega)
          have lo : 0 ≤ low (ld M x1 (8 * x2 + x3)) ∧ low (ld M x1 (8 * x2 + x3)) < k := kv x2 x3 (by omega) (by omega) (by omega)
          refine uX7_takeLowest_34 (by first | assumption | exact ⟨rfl, Nat.le_of_ble_eq_true rfl⟩ | with_reducible exact yarr23 (by omega) | with_reducible exact yarr57 (by omega)) (by first | omega | assumption | with_reducible exact rng_ld _ _ _ | with_reducible exact rng_yand _ _ | with_reducible exact rng_yor _ _ | with_reducible exact rng_zcmp _ _ | with_reducible exact yand7 _ | with_reducible exact rng_toInt _ | with_reducible exact yarr23 (by omega) | with_reducible exact yarr57 (by omega) | with_reducible exact Or.inl rfl | with_reducible exact Or.inr rfl) ?_
          refine XC.deep (c11_low  (d := 0)  ?_) (by omega)
          refine uX7_takeLowest_59 ?_
          refine XC.deep (n8_makeSingle  (d := 0) ⟨rfl, Nat.le_of_ble_eq_true rfl⟩ (by omega : 0 ≤ x2 ∧ x2 < 8) (by omega : 0 ≤ x3 ∧ x3 < 8) rfl (by rw [x9]; exact lo) (by omega) (hCT.fr fM (by (first | (dsimp only [wNo]; omega) | omega)) (fun _ => by (first | (dsimp only [wNo]; omega) | omega)) (fun _ => by (first | (dsimp only [wNo]; omega) | omega))) (fun M4 fM4 p4a => ?_)) (by omega)
          replace fM := fM.tr fM4 (by intro o j hw; first | omega | exact hw | (dsimp only [wSub, wRun, wNar, wFil, wCan, wLst, wCar, wDr, wFl, wMq, wRd, wRx, wCr, wTab, wTr, wNew, wKi, wKn, wTn, wOb, wPt, wTl, wOq] at hw; dsimp only [wSub, wRun, wNar, wFil, wCan, wLst, wCar, wDr, wFl, wMq, wRd, wRx, wCr, wTab, wTr, wNew, wKi, wKn, wTn, wOb, wPt, wTl, wOq]; omega) | (dsimp only [wSub, wRun, wNar, wFil, wCan, wLst, wCar, wDr, wFl, wMq, wRd, wRx, wCr, wTab, wTr, wNew, wKi, wKn, wTn, wOb, wPt, wTl, wOq]; omega) | (dsimp only [wSub, wRun, wNar, wFil, wCan, wLst, wCar, wDr, wFl, wMq, wRd, wRx, wCr, wTab, wTr, wNew, wKi, wKn, wTn, wOb, wPt, wTl, wOq] at hw; omega) | (simp [wSub, wRun, wNar, wFil, wCan, wLst, wCar, wDr, wFl, wMq, wRd, wRx, wCr, wTab, wTr, wNew, wKi, wKn, wTn, wOb, wPt, wTl, wOq] at hw; simp [wSub, wRun, wNar, wFil, wCan, wLst, wCar, wDr, wFl, wMq, wRd, wRx, wCr, wTab, wTr, wNew, wKi, wKn, wTn, wOb, wPt, wTl, wOq]; omega))
          have k22_6 := fM.ld (o := 22) (j := 6) (by intro hw; first | omega | (dsimp only [wSub, wRun, wNar, wFil, wCan, wLst, wCar, wDr, wFl, wMq, wRd, wRx, wCr, wTab, wTr, wNew, wKi, wKn, wTn, wOb, wPt, wTl, wOq] at hw; omega) | (simp [wSub, wRun, wNar, wFil, wCan, wLst, wCar, wDr, wFl, wMq, wRd, wRx, wCr, wTab, wTr, wNew, wKi, wKn, wTn, wOb, wPt, wTl, wOq] at hw; done) | (simp [wSub, wRun, wNar, wFil, wCan, wLst, wCar, wDr, wFl, wMq, wRd, wRx, wCr, wTab, wTr, wNew, wKi, wKn, wTn, wOb, wPt, wTl, wOq] at hw; omega))
          have t59 : TL (ld M x1) f n x2 (x3 + 1) (ld M4 54) := i2.s hk8 hCT.2.1.2.1 (by omega) lo (by rw [← x9]; exact p4a)
          refine uX7_takeLowest_62 ?_
          exact ih1 _ _ M4 fM (by first | omega | assumption | with_reducible exact rng_ld _ _ _ | with_reducible exact rng_yand _ _ | with_reducible exact rng_yor _ _ | with_reducible exact rng_zcmp _ _ | with_reducible exact yand7 _ | with_reducible exact rng_toInt _ | with_reducible exact yarr23 (by omega) | with_reducible exact yarr57 (by omega) | with_reducible exact Or.inl rfl | with_reducible exact Or.inr rfl) (by first | omega | assumption | with_reducible exact rng_ld _ _ _ | with_reducible exact rng_yand _ _ | with_reducible exact rng_yor _ _ | with_reducible exact rng_zcmp _ _ | with_reducible exact yand7 _ | with_reducible exact rng_toInt _ | with_reducible exact yarr23 (by omega) | with_reducible exact yarr57 (by omega) | with_reducible exact Or.inl rfl | with_reducible exact Or.inr rfl) (by first | exact i1.inn | exact t59) (by omega)
  refine uX7_takeLowest_0 (by first | assumption | exact ⟨rfl, Nat.le_of_ble_eq_true rfl⟩ | with_reducible exact yarr23 (by omega) | with_reducible exact yarr57 (by omega)) ?_
  intro M5 hM5
  replace fM := fr.cpy fM hM5 (by intro j hj1 hj2; exact (by first | omega | (dsimp only [wSub, wRun, wNar, wFil, wCan, wLst, wCar, wDr, wFl, wMq, wRd, wRx, wCr, wTab, wTr, wNew, wKi, wKn, wTn, wOb, wPt, wTl, wOq]; done) | (dsimp only [wSub, wRun, wNar, wFil, wCan, wLst, wCar, wDr, wFl, wMq, wRd, wRx, wCr, wTab, wTr, wNew, wKi, wKn, wTn, wOb, wPt, wTl, wOq]; omega) | (simp [wSub, wRun, wNar, wFil, wCan, wLst, wCar, wDr, wFl, wMq, wRd, wRx, wCr, wTab, wTr, wNew, wKi, wKn, wTn, wOb, wPt, wTl, wOq]; done) | (simp [wSub, wRun, wNar, wFil, wCan, wLst, wCar, wDr, wFl, wMq, wRd, wRx, wCr, wTab, wTr, wNew, wKi, wKn, wTn, wOb, wPt, wTl, wOq]; omega)))
  have k22_6 := fM.ld (o := 22) (j := 6) (by intro hw; first | omega | (dsimp only [wSub, wRun, wNar, wFil, wCan, wLst, wCar, wDr, wFl, wMq, wRd, wRx, wCr, wTab, wTr, wNew, wKi, wKn, wTn, wOb, wPt, wTl, wOq] at hw; omega) | (simp [wSub, wRun, wNar, wFil, wCan, wLst, wCar, wDr, wFl, wMq, wRd, wRx, wCr, wTab, wTr, wNew, wKi, wKn, wTn, wOb, wPt, wTl, wOq] at hw; done) | (simp [wSub, wRun, wNar, wFil, wCan, wLst, wCar, wDr, wFl, wMq, wRd, wRx, wCr, wTab, wTr, wNew, wKi, wKn, wTn, wOb, wPt, wTl, wOq] at hw; omega))
  have t0 : TL (ld M x1) f n 0 0 (ld M5 54) := TL.z (fun j a1 a2 => by
    rw [hM5, ld_cpy, if_pos ⟨rfl, a1, by omega⟩]
    congr 1
    omega)
  refine uX7_takeLowest_12 ?_
  exact (go 1000000).1 _ _ M5 fM (by first | omega | assumption | with_reducible exact rng_ld _ _ _ | with_reducible exact rng_yand _ _ | with_reducible exact rng_yor _ _ | with_reducible exact rng_zcmp _ _ | with_reducible exact yand7 _ | with_reducible exact rng_toInt _ | with_reducible exact yarr23 (by omega) | with_reducible exact yarr57 (by omega) | with_reducible exact Or.inl rfl | with_reducible exact Or.inr rfl) (by first | exact t0 | exact i2.row (by omega)) (by omega)
/-! whole rows -/
/-- at c: which pairs of kinds may be between -/
def BT (M : yM) (T : Int → Int) (k : Int) : Prop := ∀ c a b : Int, 0 ≤ c → c < 8 → 0 ≤ a → a < 8 → 0 ≤ b → b < 8 → (lbt (ldL M 55 c) (8 * a + b) = true ↔ (1 ≤ a ∧ a < k) ∧ (1 ≤ b ∧ b < k) ∧ bt (T (8 * a + b)) c.toNat = true)
theorem BT.fr {W : Nat → Int → Prop} {M M' : yM} {T : Int → Int} {k : Int} (h : BT M T k) (f : fr W M M') (hw : ∀ j, ¬ W 55 j) : BT M' T k := fun c a b c1 c2 a1 a2 b1 b2 => by
  rw [f.ldL (hw c)]
  exact h c a b c1 c2 a1 a2 b1 b2
/-- the rows of c below are listed; of c itself up to a, b -/
def BTp (M : yM) (T : Int → Int) (k c0 a0 b0 : Int) : Prop := ∀ c : Int, 0 ≤ c → c ≤ c0 → c < 8 → ∀ a b : Int, 0 ≤ a → a < 8 → 0 ≤ b → b < 8 → (lbt (ldL M 55 c) (8 * a + b) = true ↔ (1 ≤ a ∧ a < k) ∧ (1 ≤ b ∧ b < k) ∧ (c < c0 ∨ a < a0 ∨ a = a0 ∧ b < b0) ∧ bt (T (8 * a + b)) c.toNat = true)
section
variable {M M' : yM} {T : Int → Int} {k c0 a0 b0 : Int}
theorem BTp.cg {a1 b1 : Int} (h : BTp M T k c0 a0 b0) (e : ∀ a b : Int, 1 ≤ a → a < k → 1 ≤ b → b < k → ((a < a0 ∨ a = a0 ∧ b < b0) ↔ (a < a1 ∨ a = a1 ∧ b < b1))) : BTp M T k c0 a1 b1 := fun c c1 c2 c3 a b p1 p2 q1 q2 => by
  rw [h c c1 c2 c3 a b p1 p2 q1 q2]
  constructor
  · rintro ⟨u, v, w, z⟩
    exact ⟨u, v, w.imp id (e a b u.1 u.2 v.1 v.2).mp, z⟩
  · rintro ⟨u, v, w, z⟩
    exact ⟨u, v, w.imp id (e a b u.1 u.2 v.1 v.2).mpr, z⟩
theorem BTp.st (h : BTp M T k c0 a0 b0) (ha : k ≤ a0) (hk : k ≤ 8) (h0 : 0 ≤ c0) (e : M' = putL M 55 (c0 + 1) 0) : BTp M' T k (c0 + 1) 1 1 := fun c c1 c2 c3 a b p1 p2 q1 q2 => by
  rw [e, ldL_putL (by decide)]
  by_cases q : c = c0 + 1
  · rw [if_pos ⟨rfl, q⟩, lbt_0]
    refine ⟨fun w => (by cases w), ?_⟩
    rintro ⟨u, v, w, z⟩
    omega
  · rw [if_neg (fun w => q w.2), h c c1 (by omega) c3 a b p1 p2 q1 q2]
    constructor
    · rintro ⟨u, v, w, z⟩
      exact ⟨u, v, Or.inl (by omega), z⟩
    · rintro ⟨u, v, w, z⟩
      exact ⟨u, v, by omega, z⟩
theorem BTp.z (e : M' = putL M 55 0 0) : BTp M' T k 0 1 1 := fun c c1 c2 c3 a b p1 p2 q1 q2 => by
  have q : c = 0 := by omega
  rw [e, ldL_putL (by decide), if_pos ⟨rfl, q⟩, lbt_0]
  refine ⟨fun w => (by cases w), ?_⟩
  rintro ⟨u, v, w, z⟩
  omega
theorem lbt_zb (x p : Int) : lbt x p = (Int64.ofInt x).toBitVec.getLsbD p.toNat := rfl
theorem BTp.no (h : BTp M T k c0 a0 b0) (hb : ¬ bt (T (8 * a0 + b0)) c0.toNat = true) : BTp M T k c0 a0 (b0 + 1) := fun c c1 c2 c3 a b p1 p2 q1 q2 => by
  rw [h c c1 c2 c3 a b p1 p2 q1 q2]
  constructor
  · rintro ⟨u, v, w, z⟩
    exact ⟨u, v, by omega, z⟩
  · rintro ⟨u, v, w, z⟩
    refine ⟨u, v, ?_, z⟩
    by_cases q : c = c0 ∧ a = a0 ∧ b = b0
    · obtain ⟨rfl, rfl, rfl⟩ := q
      exact absurd z hb
    · omega
theorem BTp.s (h : BTp M T k c0 a0 b0) (hk : k ≤ 8) (hc : 0 ≤ c0 ∧ c0 < 8) (ha : 1 ≤ a0 ∧ a0 < k) (hb0 : 1 ≤ b0 ∧ b0 < k) (hb : bt (T (8 * a0 + b0)) c0.toNat = true) (e : M' = putL M 55 c0 (zor (ldL M 55 c0) (zshl 1 (8 * a0 + b0)))) : BTp M' T k c0 a0 (b0 + 1) := fun c c1 c2 c3 a b p1 p2 q1 q2 => by
  have rz : -9223372036854775808 ≤ zor (ldL M 55 c0) (zshl 1 (8 * a0 + b0)) ∧ zor (ldL M 55 c0) (zshl 1 (8 * a0 + b0)) < 9223372036854775808 := by
    unfold zor
    have h1 := Int64.le_toInt (Int64.ofInt (ldL M 55 c0) ||| Int64.ofInt (zshl 1 (8 * a0 + b0)))
    have h2 := Int64.toInt_lt (Int64.ofInt (ldL M 55 c0) ||| Int64.ofInt (zshl 1 (8 * a0 + b0)))
    omega
  rw [e, ldL_putL rz]
  by_cases q : c = c0
  · subst q
    rw [if_pos ⟨rfl, rfl⟩, lbt_zor, Bool.or_eq_true, h c c1 c2 c3 a b p1 p2 q1 q2, lbt_one (by omega) (by omega), decide_eq_true_eq]
    constructor
    · rintro (⟨u, v, w, z⟩ | w)
      · exact ⟨u, v, by omega, z⟩
      · have ea : a = a0 := by omega
        have eb : b = b0 := by omega
        subst ea eb
        exact ⟨ha, hb0, by omega, hb⟩
    · rintro ⟨u, v, w, z⟩
      by_cases q : a = a0 ∧ b = b0
      · exact Or.inr (by omega)
      · exact Or.inl ⟨u, v, by omega, z⟩
  · rw [if_neg (fun w => q w.2), h c c1 c2 c3 a b p1 p2 q1 q2]
    constructor
    · rintro ⟨u, v, w, z⟩
      exact ⟨u, v, by omega, z⟩
    · rintro ⟨u, v, w, z⟩
      exact ⟨u, v, by omega, z⟩
theorem BTp.end (h : BTp M T k 7 a0 b0) (ha : k ≤ a0) : BT M T k := fun c a b c1 c2 a1 a2 b1 b2 => by
  rw [h c c1 (by omega) c2 a b a1 a2 b1 b2]
  exact ⟨fun ⟨u, v, _, z⟩ => ⟨u, v, z⟩, fun ⟨u, v, z⟩ => ⟨u, v, by omega, z⟩⟩
end
theorem n7_listBetween {d : Nat} {Q : yM → Prop} {M : yM}  {T f : Int → Int} {k : Int} (hCT : CT M T f k) (hT3 : ld M 3 = T) (hR : ∀ a b : Int, 0 ≤ a → a < k → 0 ≤ b → b < k → 0 ≤ T (8 * a + b) ∧ T (8 * a + b) < 256) (kont : ∀ (M' : yM), fr (fun o _ => o = 55) M M' → (BT M' T k) → Q M') : XCv (d + 1) 47 [.inr (.inr 22)] M Q := by
  refine eX7_listBetween ?_
  have fM : fr (fun o _ => o = 55) M M := fr.rf
  have hk8 := hCT.2.1.1
  have ek := hCT.1
  have go : ∀ N : Nat, (∀ (x1 : Int) (wx2 : Option yV) (wx3 : Option yV) (M9 : yM), fr (fun o _ => o = 55) M M9 → (0 ≤ x1 ∧ x1 ≤ 8) → (x1 = 0 ∨ ∃ a b : Int, 1 ≤ x1 ∧ k ≤ a ∧ BTp M9 T k (x1 - 1) a b) → ((8 - x1) * 10000 + 5000 < (N : Int)) → XW kX7_listBetween (d + 1) none (wQv Q) 2 [some (.inr (.inr 22)), some (.inl x1), wx2, wx3] [] M9) ∧ (∀ (x1 : Int) (x2 : Int) (wx3 : Option yV) (M9 : yM), fr (fun o _ => o = 55) M M9 → (0 ≤ x1 ∧ x1 < 8) → (1 ≤ x2 ∧ x2 ≤ 8) → (BTp M9 T k x1 x2 1) → ((8 - x1) * 10000 + (8 - x2) * 100 + 50 < (N : Int)) → XW kX7_listBetween (d + 1) none (wQv Q) 17 [some (.inr (.inr 22)), some (.inl x1), some (.inl x2), wx3] [] M9) ∧ (∀ (x1 : Int) (x2 : Int) (x3 : Int) (M9 : yM), fr (fun o _ => o = 55) M M9 → (0 ≤ x1 ∧ x1 < 8) → (1 ≤ x2 ∧ x2 < k) → (1 ≤ x3 ∧ x3 ≤ 8) → (BTp M9 T k x1 x2 x3) → ((8 - x1) * 10000 + (8 - x2) * 100 + 8 - x3 < (N : Int)) → XW kX7_listBetween (d + 1) none (wQv Q) 30 [some (.inr (.inr 22)), some (.inl x1), some (.inl x2), some (.inl x3)] [] M9) := by
    intro N
    induction N with
    | zero => refine ⟨?_, ?_, ?_⟩ <;> (intros; exfalso; omega)
    | succ N ih =>
      obtain ⟨ih0, ih1, ih2⟩ := ih
      refine ⟨?_, ?_, ?_⟩
      · skip
        clear fM
        intro x1 wx2 wx3 M1 fM i0 i1 hm
        have k1_0 := fM.ld (o := 1) (j := 0) (by intro hw; first | omega | (dsimp only [wSub, wRun, wNar, wFil, wCan, wLst, wCar, wDr, wFl, wMq, wRd, wRx, wCr, wTab, wTr, wNew, wKi, wKn, wTn, wOb, wPt, wTl, wOq] at hw; omega) | (simp [wSub, wRun, wNar, wFil, wCan, wLst, wCar, wDr, wFl, wMq, wRd, wRx, wCr, wTab, wTr, wNew, wKi, wKn, wTn, wOb, wPt, wTl, wOq] at hw; done) | (simp [wSub, wRun, wNar, wFil, wCan, wLst, wCar, wDr, wFl, wMq, wRd, wRx, wCr, wTab, wTr, wNew, wKi, wKn, wTn, wOb, wPt, wTl, wOq] at hw; omega))
        refine uX7_listBetween_2 (by first | omega | assumption | with_reducible exact rng_ld _ _ _ | with_reducible exact rng_yand _ _ | with_reducible exact rng_yor _ _ | with_reducible exact rng_zcmp _ _ | with_reducible exact yand7 _ | with_reducible exact rng_toInt _ | with_reducible exact yarr23 (by omega) | with_reducible exact yarr57 (by omega) | with_reducible exact Or.inl rfl | with_reducible exact Or.inr rfl) (fun hc => ?_) (fun hc => ?_)
        · skip
          refine uX7_listBetween_89 ?_
          exact kont _ fM (by
            rcases i1 with w | ⟨a, b, w0, w1, w2⟩
            · omega
            · have w3 : x1 - 1 = 7 := by omega
              rw [w3] at w2
              exact w2.end w1)
        · skip
          refine uX7_listBetween_8 (by first | omega | assumption | with_reducible exact rng_ld _ _ _ | with_reducible exact rng_yand _ _ | with_reducible exact rng_yor _ _ | with_reducible exact rng_zcmp _ _ | with_reducible exact yand7 _ | with_reducible exact rng_toInt _ | with_reducible exact yarr23 (by omega) | with_reducible exact yarr57 (by omega) | with_reducible exact Or.inl rfl | with_reducible exact Or.inr rfl) ?_
          intro M2 hM2
          replace fM := fr.putL fM hM2 (by first | omega | (dsimp only [wSub, wRun, wNar, wFil, wCan, wLst, wCar, wDr, wFl, wMq, wRd, wRx, wCr, wTab, wTr, wNew, wKi, wKn, wTn, wOb, wPt, wTl, wOq]; done) | (dsimp only [wSub, wRun, wNar, wFil, wCan, wLst, wCar, wDr, wFl, wMq, wRd, wRx, wCr, wTab, wTr, wNew, wKi, wKn, wTn, wOb, wPt, wTl, wOq]; omega) | (simp [wSub, wRun, wNar, wFil, wCan, wLst, wCar, wDr, wFl, wMq, wRd, wRx, wCr, wTab, wTr, wNew, wKi, wKn, wTn, wOb, wPt, wTl, wOq]; done) | (simp [wSub, wRun, wNar, wFil, wCan, wLst, wCar, wDr, wFl, wMq, wRd, wRx, wCr, wTab, wTr, wNew, wKi, wKn, wTn, wOb, wPt, wTl, wOq]; omega))
          have k1_0 := fM.ld (o := 1) (j := 0) (by intro hw; first | omega | (dsimp only [wSub, wRun, wNar, wFil, wCan, wLst, wCar, wDr, wFl, wMq, wRd, wRx, wCr, wTab, wTr, wNew, wKi, wKn, wTn, wOb, wPt, wTl, wOq] at hw; omega) | (simp [wSub, wRun, wNar, wFil, wCan, wLst, wCar, wDr, wFl, wMq, wRd, wRx, wCr, wTab, wTr, wNew, wKi, wKn, wTn, wOb, wPt, wTl, wOq] at hw; done) | (simp [wSub, wRun, wNar, wFil, wCan, wLst, wCar, wDr, wFl, wMq, wRd, wRx, wCr, wTab, wTr, wNew, wKi, wKn, wTn, wOb, wPt, wTl, wOq] at hw; omega))
          have b8 : BTp M2 T k x1 1 1 := by
            rcases i1 with w | ⟨a, b, w0, w1, w2⟩
            · subst w
              exact BTp.z hM2
            · have q := w2.st w1 (by omega) (by omega) (M' := M2) (by rw [show x1 - 1 + 1 = x1 by omega]; exact hM2)
              rw [show x1 - 1 + 1 = x1 by omega] at q
              exact q
          refine uX7_listBetween_15 ?_
          exact ih1 _ _ _ M2 fM (by first | omega | assumption | with_reducible exact rng_ld _ _ _ | with_reducible exact rng_yand _ _ | with_reducible exact rng_yor _ _ | with_reducible exact rng_zcmp _ _ | with_reducible exact yand7 _ | with_reducible exact rng_toInt _ | with_reducible exact yarr23 (by omega) | with_reducible exact yarr57 (by omega) | with_reducible exact Or.inl rfl | with_reducible exact Or.inr rfl) (by first | omega | assumption | with_reducible exact rng_ld _ _ _ | with_reducible exact rng_yand _ _ | with_reducible exact rng_yor _ _ | with_reducible exact rng_zcmp _ _ | with_reducible exact yand7 _ | with_reducible exact rng_toInt _ | with_reducible exact yarr23 (by omega) | with_reducible exact yarr57 (by omega) | with_reducible exact Or.inl rfl | with_reducible exact Or.inr rfl) (by first | exact b8 | exact i3.cg (fun a b p1 p2 q1 q2 => by omega)) (by omega)
      · skip
        clear fM
        intro x1 x2 wx3 M3 fM i0 i1 i2 hm
        have k1_0 := fM.ld (o := 1) (j := 0) (by intro hw; first | omega | (dsimp only [wSub, wRun, wNar, wFil, wCan, wLst, wCar, wDr, wFl, wMq, wRd, wRx, wCr, wTab, wTr, wNew, wKi, wKn, wTn, wOb, wPt, wTl, wOq] at hw; omega) | (simp [wSub, wRun, wNar, wFil, wCan, wLst, wCar, wDr, wFl, wMq, wRd, wRx, wCr, wTab, wTr, wNew, wKi, wKn, wTn, wOb, wPt, wTl, wOq] at hw; done) | (simp [wSub, wRun, wNar, wFil, wCan, wLst, wCar, wDr, wFl, wMq, wRd, wRx, wCr, wTab, wTr, wNew, wKi, wKn, wTn, wOb, wPt, wTl, wOq] at hw; omega))
        refine uX7_listBetween_17 (by first | omega | assumption | with_reducible exact rng_ld _ _ _ | with_reducible exact rng_yand _ _ | with_reducible exact rng_yor _ _ | with_reducible exact rng_zcmp _ _ | with_reducible exact yand7 _ | with_reducible exact rng_toInt _ | with_reducible exact yarr23 (by omega) | with_reducible exact yarr57 (by omega) | with_reducible exact Or.inl rfl | with_reducible exact Or.inr rfl) (fun hc => ?_) (fun hc => ?_)
        · skip
          refine uX7_listBetween_83 ?_
          exact ih0 _ _ _ M3 fM (by first | omega | assumption | with_reducible exact rng_ld _ _ _ | with_reducible exact rng_yand _ _ | with_reducible exact rng_yor _ _ | with_reducible exact rng_zcmp _ _ | with_reducible exact yand7 _ | with_reducible exact rng_toInt _ | with_reducible exact yarr23 (by omega) | with_reducible exact yarr57 (by omega) | with_reducible exact Or.inl rfl | with_reducible exact Or.inr rfl) (by first | exact Or.inl rfl | exact Or.inr ⟨x2, 1, by omega, by omega, by rw [show x1 + 1 - 1 = x1 by omega]; exact i2⟩) (by omega)
        · skip
          refine uX7_listBetween_28 ?_
          exact ih2 _ _ _ M3 fM (by first | omega | assumption | with_reducible exact rng_ld _ _ _ | with_reducible exact rng_yand _ _ | with_reducible exact rng_yor _ _ | with_reducible exact rng_zcmp _ _ | with_reducible exact yand7 _ | with_reducible exact rng_toInt _ | with_reducible exact yarr23 (by omega) | with_reducible exact yarr57 (by omega) | with_reducible exact Or.inl rfl | with_reducible exact Or.inr rfl) (by first | omega | assumption | with_reducible exact rng_ld _ _ _ | with_reducible exact rng_yand _ _ | with_reducible exact rng_yor _ _ | with_reducible exact rng_zcmp _ _ | with_reducible exact yand7 _ | with_reducible exact rng_toInt _ | with_reducible exact yarr23 (by omega) | with_reducible exact yarr57 (by omega) | with_reducible exact Or.inl rfl | with_reducible exact Or.inr rfl) (by first | omega | assumption | with_reducible exact rng_ld _ _ _ | with_reducible exact rng_yand _ _ | with_reducible exact rng_yor _ _ | with_reducible exact rng_zcmp _ _ | with_reducible exact yand7 _ | with_reducible exact rng_toInt _ | with_reducible exact yarr23 (by omega) | with_reducible exact yarr57 (by omega) | with_reducible exact Or.inl rfl | with_reducible exact Or.inr rfl) (by first | exact i2 | exact b54 | exact i3.no (fun z => (q41.elim (fun q => absurd q.1 (by omega)) (fun q => q.2)) (yb.mpr z))) (by omega)
      · skip
        clear fM
        intro x1 x2 x3 M4 fM i0 i1 i2 i3 hm
        have k1_0 := fM.ld (o := 1) (j := 0) (by intro hw; first | omega | (dsimp only [wSub, wRun, wNar, wFil, wCan, wLst, wCar, wDr, wFl, wMq, wRd, wRx, wCr, wTab, wTr, wNew, wKi, wKn, wTn, wOb, wPt, wTl, wOq] at hw; omega) | (simp [wSub, wRun, wNar, wFil, wCan, wLst, wCar, wDr, wFl, wMq, wRd, wRx, wCr, wTab, wTr, wNew, wKi, wKn, wTn, wOb, wPt, wTl, wOq] at hw; done) | (simp [wSub, wRun, wNar, wFil, wCan, wLst, wCar, wDr, wFl, wMq, wRd, wRx, wCr, wTab, wTr, wNew, wKi, wKn, wTn, wOb, wPt, wTl, wOq] at hw; omega))
        refine uX7_listBetween_30 (by first | omega | assumption | with_reducible exact rng_ld _ _ _ | with_reducible exact rng_yand _ _ | with_reducible exact rng_yor _ _ | with_reducible exact rng_zcmp _ _ | with_reducible exact yand7 _ | with_reducible exact rng_toInt _ | with_reducible exact yarr23 (by omega) | with_reducible exact yarr57 (by omega) | with_reducible exact Or.inl rfl | with_reducible exact Or.inr rfl) (fun hc => ?_) (fun hc => ?_)
        · skip
          refine uX7_listBetween_77 ?_
          exact ih1 _ _ _ M4 fM (by first | omega | assumption | with_reducible exact rng_ld _ _ _ | with_reducible exact rng_yand _ _ | with_reducible exact rng_yor _ _ | with_reducible exact rng_zcmp _ _ | with_reducible exact yand7 _ | with_reducible exact rng_toInt _ | with_reducible exact yarr23 (by omega) | with_reducible exact yarr57 (by omega) | with_reducible exact Or.inl rfl | with_reducible exact Or.inr rfl) (by first | omega | assumption | with_reducible exact rng_ld _ _ _ | with_reducible exact rng_yand _ _ | with_reducible exact rng_yor _ _ | with_reducible exact rng_zcmp _ _ | with_reducible exact yand7 _ | with_reducible exact rng_toInt _ | with_reducible exact yarr23 (by omega) | with_reducible exact yarr57 (by omega) | with_reducible exact Or.inl rfl | with_reducible exact Or.inr rfl) (by first | exact b8 | exact i3.cg (fun a b p1 p2 q1 q2 => by omega)) (by omega)
        · skip
          refine uX7_listBetween_41 ?_
          refine c9_mayBeX  (by first | omega | assumption | with_reducible exact rng_ld _ _ _ | with_reducible exact rng_yand _ _ | with_reducible exact rng_yor _ _ | with_reducible exact rng_zcmp _ _ | with_reducible exact yand7 _ | with_reducible exact rng_toInt _ | with_reducible exact yarr23 (by omega) | with_reducible exact yarr57 (by omega) | with_reducible exact Or.inl rfl | with_reducible exact Or.inr rfl) (fun v41 p5a => ?_)
          have q41 := p5a
          have yb := ybitZ (a := T (8 * x2 + x3)) (x := x1) (by have := hR x2 x3 (by omega) (by omega) (by omega) (by omega); omega) (by omega)
          have e3 : ld M4 3 = T := by rw [← hT3]; exact funext fun j => fM.ld (by omega)
          rw [e3] at q41
          refine uX7_listBetween_51 (by first | omega | assumption | with_reducible exact rng_ld _ _ _ | with_reducible exact rng_yand _ _ | with_reducible exact rng_yor _ _ | with_reducible exact rng_zcmp _ _ | with_reducible exact yand7 _ | with_reducible exact rng_toInt _ | with_reducible exact yarr23 (by omega) | with_reducible exact yarr57 (by omega) | with_reducible exact Or.inl rfl | with_reducible exact Or.inr rfl) (fun hc => ?_) (fun hc => ?_)
          · skip
            refine uX7_listBetween_71 ?_
            exact ih2 _ _ _ M4 fM (by first | omega | assumption | with_reducible exact rng_ld _ _ _ | with_reducible exact rng_yand _ _ | with_reducible exact rng_yor _ _ | with_reducible exact rng_zcmp _ _ | with_reducible exact yand7 _ | with_reducible exact rng_toInt _ | with_reducible exact yarr23 (by omega) | with_reducible exact yarr57 (by omega) | with_reducible exact Or.inl rfl | with_reducible exact Or.inr rfl) (by first | omega | assumption | with_reducible exact rng_ld _ _ _ | with_reducible exact rng_yand _ _ | with_reducible exact rng_yor _ _ | with_reducible exact rng_zcmp _ _ | with_reducible exact yand7 _ | with_reducible exact rng_toInt _ | with_reducible exact yarr23 (by omega) | with_reducible exact yarr57 (by omega) | with_reducible exact Or.inl rfl | with_reducible exact Or.inr rfl) (by first | omega | assumption | with_reducible exact rng_ld _ _ _ | with_reducible exact rng_yand _ _ | with_reducible exact rng_yor _ _ | with_reducible exact rng_zcmp _ _ | with_reducible exact yand7 _ | with_reducible exact rng_toInt _ | with_reducible exact yarr23 (by omega) | with_reducible exact yarr57 (by omega) | with_reducible exact Or.inl rfl | with_reducible exact Or.inr rfl) (by first | exact i2 | exact b54 | exact i3.no (fun z => (q41.elim (fun q => absurd q.1 (by omega)) (fun q => q.2)) (yb.mpr z))) (by omega)
          · skip
            have c54 : bt (T (8 * x2 + x3)) x1.toNat = true := yb.mp (q41.elim (fun q => q.2) (fun q => absurd q.1 (by assumption)))
            refine uX7_listBetween_54 (by first | omega | assumption | with_reducible exact rng_ld _ _ _ | with_reducible exact rng_yand _ _ | with_reducible exact rng_yor _ _ | with_reducible exact rng_zcmp _ _ | with_reducible exact yand7 _ | with_reducible exact rng_toInt _ | with_reducible exact yarr23 (by omega) | with_reducible exact yarr57 (by omega) | with_reducible exact Or.inl rfl | with_reducible exact Or.inr rfl) (by first | omega | assumption | with_reducible exact rng_ld _ _ _ | with_reducible exact rng_yand _ _ | with_reducible exact rng_yor _ _ | with_reducible exact rng_zcmp _ _ | with_reducible exact yand7 _ | with_reducible exact rng_toInt _ | with_reducible exact yarr23 (by omega) | with_reducible exact yarr57 (by omega) | with_reducible exact Or.inl rfl | with_reducible exact Or.inr rfl) ?_
            intro M6 hM6
            replace fM := fr.putL fM hM6 (by first | omega | (dsimp only [wSub, wRun, wNar, wFil, wCan, wLst, wCar, wDr, wFl, wMq, wRd, wRx, wCr, wTab, wTr, wNew, wKi, wKn, wTn, wOb, wPt, wTl, wOq]; done) | (dsimp only [wSub, wRun, wNar, wFil, wCan, wLst, wCar, wDr, wFl, wMq, wRd, wRx, wCr, wTab, wTr, wNew, wKi, wKn, wTn, wOb, wPt, wTl, wOq]; omega) | (simp [wSub, wRun, wNar, wFil, wCan, wLst, wCar, wDr, wFl, wMq, wRd, wRx, wCr, wTab, wTr, wNew, wKi, wKn, wTn, wOb, wPt, wTl, wOq]; done) | (simp [wSub, wRun, wNar, wFil, wCan, wLst, wCar, wDr, wFl, wMq, wRd, wRx, wCr, wTab, wTr, wNew, wKi, wKn, wTn, wOb, wPt, wTl, wOq]; omega))
            have k1_0 := fM.ld (o := 1) (j := 0) (by intro hw; first | omega | (dsimp only [wSub, wRun, wNar, wFil, wCan, wLst, wCar, wDr, wFl, wMq, wRd, wRx, wCr, wTab, wTr, wNew, wKi, wKn, wTn, wOb, wPt, wTl, wOq] at hw; omega) | (simp [wSub, wRun, wNar, wFil, wCan, wLst, wCar, wDr, wFl, wMq, wRd, wRx, wCr, wTab, wTr, wNew, wKi, wKn, wTn, wOb, wPt, wTl, wOq] at hw; done) | (simp [wSub, wRun, wNar, wFil, wCan, wLst, wCar, wDr, wFl, wMq, wRd, wRx, wCr, wTab, wTr, wNew, wKi, wKn, wTn, wOb, wPt, wTl, wOq] at hw; omega))
            have b54 : BTp M6 T k x1 x2 (x3 + 1) := i3.s (by omega) (by omega) (by omega) (by omega) c54 hM6
            refine uX7_listBetween_71 ?_
            exact ih2 _ _ _ M6 fM (by first | omega | assumption | with_reducible exact rng_ld _ _ _ | with_reducible exact rng_yand _ _ | with_reducible exact rng_yor _ _ | with_reducible exact rng_zcmp _ _ | with_reducible exact yand7 _ | with_reducible exact rng_toInt _ | with_reducible exact yarr23 (by omega) | with_reducible exact yarr57 (by omega) | with_reducible exact Or.inl rfl | with_reducible exact Or.inr rfl) (by first | omega | assumption | with_reducible exact rng_ld _ _ _ | with_reducible exact rng_yand _ _ | with_reducible exact rng_yor _ _ | with_reducible exact rng_zcmp _ _ | with_reducible exact yand7 _ | with_reducible exact rng_toInt _ | with_reducible exact yarr23 (by omega) | with_reducible exact yarr57 (by omega) | with_reducible exact Or.inl rfl | with_reducible exact Or.inr rfl) (by first | omega | assumption | with_reducible exact rng_ld _ _ _ | with_reducible exact rng_yand _ _ | with_reducible exact rng_yor _ _ | with_reducible exact rng_zcmp _ _ | with_reducible exact yand7 _ | with_reducible exact rng_toInt _ | with_reducible exact yarr23 (by omega) | with_reducible exact yarr57 (by omega) | with_reducible exact Or.inl rfl | with_reducible exact Or.inr rfl) (by first | exact i2 | exact b54 | exact i3.no (fun z => (q41.elim (fun q => absurd q.1 (by omega)) (fun q => q.2)) (yb.mpr z))) (by omega)
  refine uX7_listBetween_0 ?_
  exact (go 1000000).1 _ _ _ M fM (by first | omega | assumption | with_reducible exact rng_ld _ _ _ | with_reducible exact rng_yand _ _ | with_reducible exact rng_yor _ _ | with_reducible exact rng_zcmp _ _ | with_reducible exact yand7 _ | with_reducible exact rng_toInt _ | with_reducible exact yarr23 (by omega) | with_reducible exact yarr57 (by omega) | with_reducible exact Or.inl rfl | with_reducible exact Or.inr rfl) (by first | exact Or.inl rfl | exact Or.inr ⟨x2, 1, by omega, by omega, by rw [show x1 + 1 - 1 = x1 by omega]; exact i2⟩) (by omega)
/-- a third point for each two kinds that may be between -/
def WP (T : Int → Int) (k n : Int) (N : Int → Int) (i c : Int) : Prop := ∀ a b : Int, 0 ≤ a → a < 8 → 0 ≤ b → b < 8 → ((∃ m : Int, (0 ≤ m ∧ m < n) ∧ m ≠ i ∧ m ≠ c ∧ low (N (8 * i + m)) = a ∧ low (N (8 * m + c)) = b) ↔ (1 ≤ a ∧ a < k) ∧ (1 ≤ b ∧ b < k) ∧ bt (T (8 * a + b)) (low (N (8 * i + c))).toNat = true)
def CMb (N : Int → Int) (n x y : Int) (t : Nat) : Prop := t = 0 ∨ ∃ i c : Int, 0 ≤ i ∧ i < c ∧ c < n ∧ (i < x ∨ i = x ∧ c < y) ∧ (bt (N (8 * i + c)) t = true ∨ bt (N (8 * c + i)) t = true)
def WH (T : Int → Int) (k n : Int) (N : Int → Int) : Prop := (∀ i c : Int, 0 ≤ i → i < c → c < n → WP T k n N i c) ∧ ∀ t : Nat, CMb N n n 0 t ↔ t < k.toNat
def CM (N : Int → Int) (n x y sv : Int) : Prop := yR sv ∧ ∀ t : Nat, bt sv t = true ↔ CMb N n x y t
def WQ (T : Int → Int) (k n : Int) (N : Int → Int) (x y : Int) : Prop := ∀ i c : Int, 0 ≤ i → i < c → c < n → (i < x ∨ i = x ∧ c < y) → WP T k n N i c
def THR (N : Int → Int) (i c m sv : Int) : Prop := ∀ p : Int, 0 ≤ p → p < 64 → (lbt sv p = true ↔ ∃ m' : Int, (0 ≤ m' ∧ m' < m) ∧ m' ≠ i ∧ m' ≠ c ∧ p = 8 * low (N (8 * i + m')) + low (N (8 * m' + c)))
section
variable {T : Int → Int} {k n : Int} {N N' : Int → Int} {i c x y sv m : Int}
theorem CMb.cg {x' y' : Int} {t : Nat} (e : ∀ i c : Int, 0 ≤ i → i < c → c < n → ((i < x ∨ i = x ∧ c < y) ↔ (i < x' ∨ i = x' ∧ c < y'))) : CMb N n x y t ↔ CMb N n x' y' t := by
  unfold CMb
  constructor
  · rintro (w | ⟨i, c, a, b, d, u, v⟩)
    · exact Or.inl w
    · exact Or.inr ⟨i, c, a, b, d, (e i c a b d).mp u, v⟩
  · rintro (w | ⟨i, c, a, b, d, u, v⟩)
    · exact Or.inl w
    · exact Or.inr ⟨i, c, a, b, d, (e i c a b d).mpr u, v⟩
theorem CM.cg {x' y' : Int} (h : CM N n x y sv) (e : ∀ i c : Int, 0 ≤ i → i < c → c < n → ((i < x ∨ i = x ∧ c < y) ↔ (i < x' ∨ i = x' ∧ c < y'))) : CM N n x' y' sv := ⟨h.1, fun t => (h.2 t).trans (CMb.cg e)⟩
theorem CM.z : CM N n 0 0 1 := ⟨by decide, fun t => by
  rw [bt_1, decide_eq_true_eq]
  unfold CMb
  constructor
  · exact Or.inl
  · rintro (w | ⟨i, c, a, b, d, u, v⟩)
    · exact w
    · omega⟩
theorem CM.row (h : CM N n x y sv) (hy : n ≤ y) : CM N n (x + 1) 0 sv := h.cg (fun i c a b d => by omega)
theorem CM.inn (h : CM N n x 0 sv) : CM N n x (x + 1) sv := h.cg (fun i c a b d => by omega)
theorem CM.s (h : CM N n x y sv) (hx : 0 ≤ x ∧ x < y ∧ y < n) : CM N n x (y + 1) (yor sv (yor (N (8 * x + y)) (N (8 * y + x)))) := ⟨rng_yor _ _, fun t => by
  rw [bt_yor, bt_yor, Bool.or_eq_true, Bool.or_eq_true, h.2 t]
  unfold CMb
  constructor
  · rintro ((w | ⟨i, c, a, b, d, u, v⟩) | w)
    · exact Or.inl w
    · exact Or.inr ⟨i, c, a, b, d, by omega, v⟩
    · exact Or.inr ⟨x, y, hx.1, hx.2.1, hx.2.2, by omega, w⟩
  · rintro (w | ⟨i, c, a, b, d, u, v⟩)
    · exact Or.inl (Or.inl w)
    · by_cases e : i = x ∧ c = y
      · obtain ⟨rfl, rfl⟩ := e
        exact Or.inr v
      · exact Or.inl (Or.inr ⟨i, c, a, b, d, by omega, v⟩)⟩
theorem CM.end (h : CM N n x y sv) (hk : 1 ≤ k ∧ k ≤ 8) (hx : n ≤ x) : sv = al k ↔ ∀ t : Nat, CMb N n n 0 t ↔ t < k.toNat := by
  have h' := h.cg (x' := n) (y' := 0) (fun i c a b d => by omega)
  have ab : ∀ t : Nat, bt (al k) t = true ↔ t < k.toNat := fun t => by
    by_cases w : t < 32
    · rw [al_def, al_bt k.toNat (by omega) t w, decide_eq_true_eq]
    · rw [bt_big (by omega)]
      exact ⟨fun q => (by cases q), fun q => by omega⟩
  constructor
  · intro e t
    rw [← h'.2 t, e]
    exact ab t
  · intro e
    refine bt_ext h.1 (by have := al_le hk; omega) (fun t _ => ?_)
    rw [Bool.eq_iff_iff, h'.2 t, ab t]
    exact e t
theorem WQ.z : WQ T k n N 0 0 := fun i c a b d e => by omega
theorem WQ.row (h : WQ T k n N x y) (hy : n ≤ y) : WQ T k n N (x + 1) 0 := fun i c a b d e => h i c a b d (by omega)
theorem WQ.inn (h : WQ T k n N x 0) : WQ T k n N x (x + 1) := fun i c a b d e => h i c a b d (by omega)
theorem WQ.s (h : WQ T k n N x y) (hp : WP T k n N x y) : WQ T k n N x (y + 1) := fun i c a b d e => by
  by_cases q : i = x ∧ c = y
  · obtain ⟨rfl, rfl⟩ := q
    exact hp
  · exact h i c a b d (by omega)
theorem THR.z : THR N i c 0 0 := fun p p1 p2 => by
  rw [lbt_0]
  exact ⟨fun w => (by cases w), fun ⟨m, a, _⟩ => by omega⟩
theorem THR.no (h : THR N i c m sv) (hm : m = i ∨ m = c) : THR N i c (m + 1) sv := fun p p1 p2 => by
  rw [h p p1 p2]
  constructor
  · rintro ⟨m', a, b, d, e⟩
    exact ⟨m', by omega, b, d, e⟩
  · rintro ⟨m', a, b, d, e⟩
    exact ⟨m', by omega, b, d, e⟩
theorem THR.s (h : THR N i c m sv) (hm : 0 ≤ m ∧ m ≠ i ∧ m ≠ c) (h1 : 0 ≤ low (N (8 * i + m)) ∧ low (N (8 * i + m)) < 8) (h2 : 0 ≤ low (N (8 * m + c)) ∧ low (N (8 * m + c)) < 8) : THR N i c (m + 1) (zor sv (zshl 1 (8 * low (N (8 * i + m)) + low (N (8 * m + c))))) := fun p p1 p2 => by
  rw [lbt_zor, Bool.or_eq_true, h p p1 p2, lbt_one (by omega) p1, decide_eq_true_eq]
  constructor
  · rintro (⟨m', a, b, d, e⟩ | e)
    · exact ⟨m', by omega, b, d, e⟩
    · exact ⟨m, by omega, hm.2.1, hm.2.2, e⟩
  · rintro ⟨m', a, b, d, e⟩
    by_cases q : m' = m
    · subst q
      exact Or.inr e
    · exact Or.inl ⟨m', by omega, b, d, e⟩
theorem y7_k : ∀ q : Nat, q < 8 → yand (q : Int) 7 = q := by decide +kernel
theorem y7 {q : Int} (h : 0 ≤ q ∧ q < 8) : yand q 7 = q := by
  obtain ⟨m, rfl⟩ := Int.eq_ofNat_of_zero_le h.1
  exact y7_k m (by omega)
theorem l64_eq {a b : Int} (h : ∀ p : Int, 0 ≤ p → p < 64 → lbt a p = lbt b p) : zcmp a b = 0 := by
  have e : Int64.ofInt a = Int64.ofInt b := Int64.toBitVec_inj.mp (BitVec.eq_of_getLsbD_eq (fun i hi => by
    have w := h (i : Int) (by omega) (by omega)
    unfold lbt at w
    rw [Int.toNat_natCast] at w
    exact w))
  have z := zcmp_self b
  unfold zcmp at z ⊢
  rw [e]
  exact z
theorem whp {M : yM} (h : THR N i c n sv) (hB : BT M T k) (lo : ∀ m : Int, 0 ≤ m → m < n → m ≠ i → m ≠ c → (0 ≤ low (N (8 * i + m)) ∧ low (N (8 * i + m)) < 8) ∧ 0 ≤ low (N (8 * m + c)) ∧ low (N (8 * m + c)) < 8) (lc : 0 ≤ low (N (8 * i + c)) ∧ low (N (8 * i + c)) < 8) : zcmp sv (ldL M 55 (yand (low (N (8 * i + c))) 7)) = 0 ↔ WP T k n N i c := by
  rw [y7 lc]
  have th : ∀ a b : Int, 0 ≤ a → a < 8 → 0 ≤ b → b < 8 → (lbt sv (8 * a + b) = true ↔ ∃ m : Int, (0 ≤ m ∧ m < n) ∧ m ≠ i ∧ m ≠ c ∧ low (N (8 * i + m)) = a ∧ low (N (8 * m + c)) = b) := fun a b a1 a2 b1 b2 => by
    rw [h _ (by omega) (by omega)]
    constructor
    · rintro ⟨m, u, v, w, e⟩
      have l := lo m u.1 u.2 v w
      exact ⟨m, u, v, w, by omega, by omega⟩
    · rintro ⟨m, u, v, w, e1, e2⟩
      exact ⟨m, u, v, w, by omega⟩
  constructor
  · intro z a b a1 a2 b1 b2
    rw [← th a b a1 a2 b1 b2, ← hB _ a b lc.1 lc.2 a1 a2 b1 b2]
    unfold lbt
    rw [zcmp_0 z]
  · intro w
    refine l64_eq (fun p p1 p2 => ?_)
    have q := w (p / 8) (p % 8) (by omega) (by omega) (by omega) (by omega)
    rw [← th _ _ (by omega) (by omega) (by omega) (by omega), ← hB _ _ _ lc.1 lc.2 (by omega) (by omega) (by omega) (by omega), show 8 * (p / 8) + p % 8 = p by omega] at q
    exact Bool.eq_iff_iff.mpr q
theorem WH.cg (hn : n ≤ 8) (e : ∀ i c : Int, 0 ≤ i → i < n → 0 ≤ c → c < n → i ≠ c → N (8 * i + c) = N' (8 * i + c)) (h : WH T k n N) : WH T k n N' := by
  refine ⟨fun i c a b d p q p1 p2 q1 q2 => ?_, fun t => ?_⟩
  · have w := h.1 i c a b d p q p1 p2 q1 q2
    rw [← e i c a (by omega) (by omega) d (by omega)]
    rw [← w]
    constructor
    · rintro ⟨m, u, v, z, y1, y2⟩
      exact ⟨m, u, v, z, by rw [e i m a (by omega) u.1 u.2 (fun w => v w.symm)]; exact y1, by rw [e m c u.1 u.2 (by omega) d z]; exact y2⟩
    · rintro ⟨m, u, v, z, y1, y2⟩
      exact ⟨m, u, v, z, by rw [← e i m a (by omega) u.1 u.2 (fun w => v w.symm)]; exact y1, by rw [← e m c u.1 u.2 (by omega) d z]; exact y2⟩
  · rw [← h.2 t]
    unfold CMb
    constructor
    · rintro (w | ⟨i, c, a, b, d, u, v⟩)
      · exact Or.inl w
      · exact Or.inr ⟨i, c, a, b, d, u, by rw [e i c a (by omega) (by omega) d (by omega), e c i (by omega) d a (by omega) (by omega)]; exact v⟩
    · rintro (w | ⟨i, c, a, b, d, u, v⟩)
      · exact Or.inl w
      · exact Or.inr ⟨i, c, a, b, d, u, by rw [← e i c a (by omega) (by omega) d (by omega), ← e c i (by omega) d a (by omega) (by omega)]; exact v⟩
end
theorem n7_isWhole {d : Nat} {Q : Int → yM → Prop} {M : yM} {x1 : Nat} {T f : Int → Int} {k n : Int} (hn : ld M 22 6 = n) (hn8 : 1 ≤ n ∧ n ≤ 8) (hA : arrSh x1 64) (hCT : CT M T f k) (hSN : SN f k n (ld M x1)) (hNe : Ne n (ld M x1)) (hBT : BT M T k) (kont : ∀ (v : Int), (v = 1 ∧ WH T k n (ld M x1) ∨ v = 0 ∧ ¬ WH T k n (ld M x1)) → Q v M) : XCi (d + 2) 54 [.inr (.inr 22), .inr (.inr x1)] M Q := by
  refine eX7_isWhole ?_
  have hk8 := hCT.2.1.1
  have ek := hCT.1
  have h8 := al_le hk8
  have lo : ∀ p q : Int, 0 ≤ p → p < n → 0 ≤ q → q < n → p ≠ q → 0 ≤ low (ld M x1 (8 * p + q)) ∧ low (ld M x1 (8 * p + q)) < 8 := fun p q p1 p2 q1 q2 pq => by
    have s := (hSN p q p1 p2 q1 q2 pq).1
    exact (low_b (by omega) (hNe p q p1 p2 q1 q2 pq)).1
  have go : ∀ N : Nat, (∀ (x2 : Int) (x3 : Int) (wx4 : Option yV) (wx5 : Option yV) (wx7 : Option yV), (0 ≤ x3 ∧ x3 ≤ 8) → (CM (ld M x1) n x3 0 x2) → (WQ T k n (ld M x1) x3 0) → ((8 - x3) * 10000 + 5000 < (N : Int)) → XW kX7_isWhole (d + 2) (some .boolean) (wQi Q) 4 [some (.inr (.inr 22)), some (.inr (.inr x1)), some (.inl x2), some (.inl x3), wx4, wx5, none, wx7] [] M) ∧ (∀ (x2 : Int) (x3 : Int) (x4 : Int) (wx5 : Option yV) (wx7 : Option yV), (0 ≤ x3 ∧ x3 < n) → (x3 < x4 ∧ x4 ≤ 8) → (CM (ld M x1) n x3 x4 x2) → (WQ T k n (ld M x1) x3 x4) → ((8 - x3) * 10000 + (8 - x4) * 100 + 50 < (N : Int)) → XW kX7_isWhole (d + 2) (some .boolean) (wQi Q) 17 [some (.inr (.inr 22)), some (.inr (.inr x1)), some (.inl x2), some (.inl x3), some (.inl x4), wx5, none, wx7] [] M) ∧ (∀ (x2 : Int) (x3 : Int) (x4 : Int) (x5 : Int) (x7 : Int), (0 ≤ x3 ∧ x3 < n) → (x3 < x4 ∧ x4 < n) → (0 ≤ x7 ∧ x7 ≤ n) → (CM (ld M x1) n x3 (x4 + 1) x2) → (WQ T k n (ld M x1) x3 x4) → (THR (ld M x1) x3 x4 x7 x5) → ((8 - x3) * 10000 + (8 - x4) * 100 + 8 - x7 < (N : Int)) → XW kX7_isWhole (d + 2) (some .boolean) (wQi Q) 54 [some (.inr (.inr 22)), some (.inr (.inr x1)), some (.inl x2), some (.inl x3), some (.inl x4), some (.inr (.inl x5)), none, some (.inl x7)] [] M) := by
    intro N
    induction N with
    | zero => refine ⟨?_, ?_, ?_⟩ <;> (intros; exfalso; omega)
    | succ N ih =>
      obtain ⟨ih0, ih1, ih2⟩ := ih
      refine ⟨?_, ?_, ?_⟩
      · skip
        skip
        intro x2 x3 wx4 wx5 wx7 i0 i1 i2 hm
        refine uX7_isWhole_4 (by first | omega | assumption | with_reducible exact rng_ld _ _ _ | with_reducible exact rng_yand _ _ | with_reducible exact rng_yor _ _ | with_reducible exact rng_zcmp _ _ | with_reducible exact yand7 _ | with_reducible exact rng_toInt _ | with_reducible exact yarr23 (by omega) | with_reducible exact yarr57 (by omega) | with_reducible exact Or.inl rfl | with_reducible exact Or.inr rfl) (fun hc => ?_) (fun hc => ?_)
        · skip
          have e158 := i1.end hk8 (by omega)
          have w158 : ∀ i c : Int, 0 ≤ i → i < c → c < n → WP T k n (ld M x1) i c := fun i c a b d => i2 i c a b d (by omega)
          refine uX7_isWhole_158 ?_
          refine c9_all  (by first | omega | assumption | with_reducible exact rng_ld _ _ _ | with_reducible exact rng_yand _ _ | with_reducible exact rng_yor _ _ | with_reducible exact rng_zcmp _ _ | with_reducible exact yand7 _ | with_reducible exact rng_toInt _ | with_reducible exact yarr23 (by omega) | with_reducible exact yarr57 (by omega) | with_reducible exact Or.inl rfl | with_reducible exact Or.inr rfl) ?_
          refine uX7_isWhole_166 i1.1 (by rw [ek]; omega) (fun hc => ?_) (fun hc => ?_)
          · skip
            refine uX7_isWhole_173 ?_
            refine uX7_isWhole_174 (by first | omega | assumption | with_reducible exact rng_ld _ _ _ | with_reducible exact rng_yand _ _ | with_reducible exact rng_yor _ _ | with_reducible exact rng_zcmp _ _ | with_reducible exact yand7 _ | with_reducible exact rng_toInt _ | with_reducible exact yarr23 (by omega) | with_reducible exact yarr57 (by omega) | with_reducible exact Or.inl rfl | with_reducible exact Or.inr rfl) ?_
            exact kont _ (by
              rw [ek] at hc
              first | exact Or.inl ⟨rfl, w158, e158.mp hc⟩ | exact Or.inr ⟨rfl, fun q => hc (e158.mpr q.2)⟩)
          · skip
            refine uX7_isWhole_169 ?_
            refine uX7_isWhole_174 (by first | omega | assumption | with_reducible exact rng_ld _ _ _ | with_reducible exact rng_yand _ _ | with_reducible exact rng_yor _ _ | with_reducible exact rng_zcmp _ _ | with_reducible exact yand7 _ | with_reducible exact rng_toInt _ | with_reducible exact yarr23 (by omega) | with_reducible exact yarr57 (by omega) | with_reducible exact Or.inl rfl | with_reducible exact Or.inr rfl) ?_
            exact kont _ (by
              rw [ek] at hc
              first | exact Or.inl ⟨rfl, w158, e158.mp hc⟩ | exact Or.inr ⟨rfl, fun q => hc (e158.mpr q.2)⟩)
        · skip
          refine uX7_isWhole_12 ?_
          exact ih1 _ _ _ _ _  (by first | omega | assumption | with_reducible exact rng_ld _ _ _ | with_reducible exact rng_yand _ _ | with_reducible exact rng_yor _ _ | with_reducible exact rng_zcmp _ _ | with_reducible exact yand7 _ | with_reducible exact rng_toInt _ | with_reducible exact yarr23 (by omega) | with_reducible exact yarr57 (by omega) | with_reducible exact Or.inl rfl | with_reducible exact Or.inr rfl) (by first | omega | assumption | with_reducible exact rng_ld _ _ _ | with_reducible exact rng_yand _ _ | with_reducible exact rng_yor _ _ | with_reducible exact rng_zcmp _ _ | with_reducible exact yand7 _ | with_reducible exact rng_toInt _ | with_reducible exact yarr23 (by omega) | with_reducible exact yarr57 (by omega) | with_reducible exact Or.inl rfl | with_reducible exact Or.inr rfl) (by first | exact i1.inn | exact i3) (by first | exact i2.inn | exact i4.s (w136.mp (by assumption))) (by omega)
      · skip
        skip
        intro x2 x3 x4 wx5 wx7 i0 i1 i2 i3 hm
        refine uX7_isWhole_17 (by first | omega | assumption | with_reducible exact rng_ld _ _ _ | with_reducible exact rng_yand _ _ | with_reducible exact rng_yor _ _ | with_reducible exact rng_zcmp _ _ | with_reducible exact yand7 _ | with_reducible exact rng_toInt _ | with_reducible exact yarr23 (by omega) | with_reducible exact yarr57 (by omega) | with_reducible exact Or.inl rfl | with_reducible exact Or.inr rfl) (fun hc => ?_) (fun hc => ?_)
        · skip
          refine uX7_isWhole_152 ?_
          exact ih0 _ _ _ _ _  (by first | omega | assumption | with_reducible exact rng_ld _ _ _ | with_reducible exact rng_yand _ _ | with_reducible exact rng_yor _ _ | with_reducible exact rng_zcmp _ _ | with_reducible exact yand7 _ | with_reducible exact rng_toInt _ | with_reducible exact yarr23 (by omega) | with_reducible exact yarr57 (by omega) | with_reducible exact Or.inl rfl | with_reducible exact Or.inr rfl) (by first | exact CM.z | exact i2.row (by omega)) (by first | exact WQ.z | exact i3.row (by omega)) (by omega)
        · skip
          refine uX7_isWhole_26 (by first | assumption | exact ⟨rfl, Nat.le_of_ble_eq_true rfl⟩ | with_reducible exact yarr23 (by omega) | with_reducible exact yarr57 (by omega)) (by first | omega | assumption | with_reducible exact rng_ld _ _ _ | with_reducible exact rng_yand _ _ | with_reducible exact rng_yor _ _ | with_reducible exact rng_zcmp _ _ | with_reducible exact yand7 _ | with_reducible exact rng_toInt _ | with_reducible exact yarr23 (by omega) | with_reducible exact yarr57 (by omega) | with_reducible exact Or.inl rfl | with_reducible exact Or.inr rfl) (by first | omega | assumption | with_reducible exact rng_ld _ _ _ | with_reducible exact rng_yand _ _ | with_reducible exact rng_yor _ _ | with_reducible exact rng_zcmp _ _ | with_reducible exact yand7 _ | with_reducible exact rng_toInt _ | with_reducible exact yarr23 (by omega) | with_reducible exact yarr57 (by omega) | with_reducible exact Or.inl rfl | with_reducible exact Or.inr rfl) ?_
          exact ih2 _ _ _ _ _  (by first | omega | assumption | with_reducible exact rng_ld _ _ _ | with_reducible exact rng_yand _ _ | with_reducible exact rng_yor _ _ | with_reducible exact rng_zcmp _ _ | with_reducible exact yand7 _ | with_reducible exact rng_toInt _ | with_reducible exact yarr23 (by omega) | with_reducible exact yarr57 (by omega) | with_reducible exact Or.inl rfl | with_reducible exact Or.inr rfl) (by first | omega | assumption | with_reducible exact rng_ld _ _ _ | with_reducible exact rng_yand _ _ | with_reducible exact rng_yor _ _ | with_reducible exact rng_zcmp _ _ | with_reducible exact yand7 _ | with_reducible exact rng_toInt _ | with_reducible exact yarr23 (by omega) | with_reducible exact yarr57 (by omega) | with_reducible exact Or.inl rfl | with_reducible exact Or.inr rfl) (by first | omega | assumption | with_reducible exact rng_ld _ _ _ | with_reducible exact rng_yand _ _ | with_reducible exact rng_yor _ _ | with_reducible exact rng_zcmp _ _ | with_reducible exact yand7 _ | with_reducible exact rng_toInt _ | with_reducible exact yarr23 (by omega) | with_reducible exact yarr57 (by omega) | with_reducible exact Or.inl rfl | with_reducible exact Or.inr rfl) (by first | exact i2.s (by omega) | assumption) (by first | omega | assumption | with_reducible exact rng_ld _ _ _ | with_reducible exact rng_yand _ _ | with_reducible exact rng_yor _ _ | with_reducible exact rng_zcmp _ _ | with_reducible exact yand7 _ | with_reducible exact rng_toInt _ | with_reducible exact yarr23 (by omega) | with_reducible exact yarr57 (by omega) | with_reducible exact Or.inl rfl | with_reducible exact Or.inr rfl) (by first | exact THR.z | exact i5.no (by omega) | exact i5.s (by omega) l76.1 l76.2) (by omega)
      · skip
        skip
        intro x2 x3 x4 x5 x7 i0 i1 i2 i3 i4 i5 hm
        refine uX7_isWhole_54 (by first | omega | assumption | with_reducible exact rng_ld _ _ _ | with_reducible exact rng_yand _ _ | with_reducible exact rng_yor _ _ | with_reducible exact rng_zcmp _ _ | with_reducible exact yand7 _ | with_reducible exact rng_toInt _ | with_reducible exact yarr23 (by omega) | with_reducible exact yarr57 (by omega) | with_reducible exact Or.inl rfl | with_reducible exact Or.inr rfl) (fun hc => ?_) (fun hc => ?_)
        · skip
          have l118 := lo x3 x4 (by omega) (by omega) (by omega) (by omega) (by omega)
          have e118 : x7 = n := by omega
          have t118 := i5
          rw [e118] at t118
          have w136 := whp (T := T) (k := k) t118 hBT (fun m m1 m2 m3 m4 => ⟨lo x3 m (by omega) (by omega) m1 m2 (fun e => m3 e.symm), lo m x4 m1 m2 (by omega) (by omega) m4⟩) l118
          refine uX7_isWhole_118 (by first | assumption | exact ⟨rfl, Nat.le_of_ble_eq_true rfl⟩ | with_reducible exact yarr23 (by omega) | with_reducible exact yarr57 (by omega)) (by first | omega | assumption | with_reducible exact rng_ld _ _ _ | with_reducible exact rng_yand _ _ | with_reducible exact rng_yor _ _ | with_reducible exact rng_zcmp _ _ | with_reducible exact yand7 _ | with_reducible exact rng_toInt _ | with_reducible exact yarr23 (by omega) | with_reducible exact yarr57 (by omega) | with_reducible exact Or.inl rfl | with_reducible exact Or.inr rfl) ?_
          refine XC.deep (c11_low  (d := 0)  ?_) (by omega)
          refine uX7_isWhole_136 (by first | omega | assumption | with_reducible exact rng_ld _ _ _ | with_reducible exact rng_yand _ _ | with_reducible exact rng_yor _ _ | with_reducible exact rng_zcmp _ _ | with_reducible exact yand7 _ | with_reducible exact rng_toInt _ | with_reducible exact yarr23 (by omega) | with_reducible exact yarr57 (by omega) | with_reducible exact Or.inl rfl | with_reducible exact Or.inr rfl) (rng_zcmp _ _) (fun hc => ?_) (fun hc => ?_)
          · skip
            refine uX7_isWhole_146 ?_
            exact ih1 _ _ _ _ _  (by first | omega | assumption | with_reducible exact rng_ld _ _ _ | with_reducible exact rng_yand _ _ | with_reducible exact rng_yor _ _ | with_reducible exact rng_zcmp _ _ | with_reducible exact yand7 _ | with_reducible exact rng_toInt _ | with_reducible exact yarr23 (by omega) | with_reducible exact yarr57 (by omega) | with_reducible exact Or.inl rfl | with_reducible exact Or.inr rfl) (by first | omega | assumption | with_reducible exact rng_ld _ _ _ | with_reducible exact rng_yand _ _ | with_reducible exact rng_yor _ _ | with_reducible exact rng_zcmp _ _ | with_reducible exact yand7 _ | with_reducible exact rng_toInt _ | with_reducible exact yarr23 (by omega) | with_reducible exact yarr57 (by omega) | with_reducible exact Or.inl rfl | with_reducible exact Or.inr rfl) (by first | exact i1.inn | exact i3) (by first | exact i2.inn | exact i4.s (w136.mp (by assumption))) (by omega)
          · skip
            refine uX7_isWhole_144 ?_
            exact kont _ (Or.inr ⟨rfl, fun q => absurd (w136.mpr (q.1 x3 x4 (by omega) (by omega) (by omega))) (by assumption)⟩)
        · skip
          refine uX7_isWhole_63 (by first | omega | assumption | with_reducible exact rng_ld _ _ _ | with_reducible exact rng_yand _ _ | with_reducible exact rng_yor _ _ | with_reducible exact rng_zcmp _ _ | with_reducible exact yand7 _ | with_reducible exact rng_toInt _ | with_reducible exact yarr23 (by omega) | with_reducible exact yarr57 (by omega) | with_reducible exact Or.inl rfl | with_reducible exact Or.inr rfl) (by first | omega | assumption | with_reducible exact rng_ld _ _ _ | with_reducible exact rng_yand _ _ | with_reducible exact rng_yor _ _ | with_reducible exact rng_zcmp _ _ | with_reducible exact yand7 _ | with_reducible exact rng_toInt _ | with_reducible exact yarr23 (by omega) | with_reducible exact yarr57 (by omega) | with_reducible exact Or.inl rfl | with_reducible exact Or.inr rfl) (fun hc => ?_) (fun hc => ?_)
          · skip
            refine uX7_isWhole_112 ?_
            exact ih2 _ _ _ _ _  (by first | omega | assumption | with_reducible exact rng_ld _ _ _ | with_reducible exact rng_yand _ _ | with_reducible exact rng_yor _ _ | with_reducible exact rng_zcmp _ _ | with_reducible exact yand7 _ | with_reducible exact rng_toInt _ | with_reducible exact yarr23 (by omega) | with_reducible exact yarr57 (by omega) | with_reducible exact Or.inl rfl | with_reducible exact Or.inr rfl) (by first | omega | assumption | with_reducible exact rng_ld _ _ _ | with_reducible exact rng_yand _ _ | with_reducible exact rng_yor _ _ | with_reducible exact rng_zcmp _ _ | with_reducible exact yand7 _ | with_reducible exact rng_toInt _ | with_reducible exact yarr23 (by omega) | with_reducible exact yarr57 (by omega) | with_reducible exact Or.inl rfl | with_reducible exact Or.inr rfl) (by first | omega | assumption | with_reducible exact rng_ld _ _ _ | with_reducible exact rng_yand _ _ | with_reducible exact rng_yor _ _ | with_reducible exact rng_zcmp _ _ | with_reducible exact yand7 _ | with_reducible exact rng_toInt _ | with_reducible exact yarr23 (by omega) | with_reducible exact yarr57 (by omega) | with_reducible exact Or.inl rfl | with_reducible exact Or.inr rfl) (by first | exact i2.s (by omega) | assumption) (by first | omega | assumption | with_reducible exact rng_ld _ _ _ | with_reducible exact rng_yand _ _ | with_reducible exact rng_yor _ _ | with_reducible exact rng_zcmp _ _ | with_reducible exact yand7 _ | with_reducible exact rng_toInt _ | with_reducible exact yarr23 (by omega) | with_reducible exact yarr57 (by omega) | with_reducible exact Or.inl rfl | with_reducible exact Or.inr rfl) (by first | exact THR.z | exact i5.no (by omega) | exact i5.s (by omega) l76.1 l76.2) (by omega)
          · skip
            refine uX7_isWhole_69 (by first | omega | assumption | with_reducible exact rng_ld _ _ _ | with_reducible exact rng_yand _ _ | with_reducible exact rng_yor _ _ | with_reducible exact rng_zcmp _ _ | with_reducible exact yand7 _ | with_reducible exact rng_toInt _ | with_reducible exact yarr23 (by omega) | with_reducible exact yarr57 (by omega) | with_reducible exact Or.inl rfl | with_reducible exact Or.inr rfl) (by first | omega | assumption | with_reducible exact rng_ld _ _ _ | with_reducible exact rng_yand _ _ | with_reducible exact rng_yor _ _ | with_reducible exact rng_zcmp _ _ | with_reducible exact yand7 _ | with_reducible exact rng_toInt _ | with_reducible exact yarr23 (by omega) | with_reducible exact yarr57 (by omega) | with_reducible exact Or.inl rfl | with_reducible exact Or.inr rfl) (fun hc => ?_) (fun hc => ?_)
            · skip
              refine uX7_isWhole_112 ?_
              exact ih2 _ _ _ _ _  (by first | omega | assumption | with_reducible exact rng_ld _ _ _ | with_reducible exact rng_yand _ _ | with_reducible exact rng_yor _ _ | with_reducible exact rng_zcmp _ _ | with_reducible exact yand7 _ | with_reducible exact rng_toInt _ | with_reducible exact yarr23 (by omega) | with_reducible exact yarr57 (by omega) | with_reducible exact Or.inl rfl | with_reducible exact Or.inr rfl) (by first | omega | assumption | with_reducible exact rng_ld _ _ _ | with_reducible exact rng_yand _ _ | with_reducible exact rng_yor _ _ | with_reducible exact rng_zcmp _ _ | with_reducible exact yand7 _ | with_reducible exact rng_toInt _ | with_reducible exact yarr23 (by omega) | with_reducible exact yarr57 (by omega) | with_reducible exact Or.inl rfl | with_reducible exact Or.inr rfl) (by first | omega | assumption | with_reducible exact rng_ld _ _ _ | with_reducible exact rng_yand _ _ | with_reducible exact rng_yor _ _ | with_reducible exact rng_zcmp _ _ | with_reducible exact yand7 _ | with_reducible exact rng_toInt _ | with_reducible exact yarr23 (by omega) | with_reducible exact yarr57 (by omega) | with_reducible exact Or.inl rfl | with_reducible exact Or.inr rfl) (by first | exact i2.s (by omega) | assumption) (by first | omega | assumption | with_reducible exact rng_ld _ _ _ | with_reducible exact rng_yand _ _ | with_reducible exact rng_yor _ _ | with_reducible exact rng_zcmp _ _ | with_reducible exact yand7 _ | with_reducible exact rng_toInt _ | with_reducible exact yarr23 (by omega) | with_reducible exact yarr57 (by omega) | with_reducible exact Or.inl rfl | with_reducible exact Or.inr rfl) (by first | exact THR.z | exact i5.no (by omega) | exact i5.s (by omega) l76.1 l76.2) (by omega)
            · skip
              have l76 := And.intro (lo x3 x7 (by omega) (by omega) (by omega) (by omega) (by omega)) (lo x7 x4 (by omega) (by omega) (by omega) (by omega) (by omega))
              refine uX7_isWhole_76 (by first | assumption | exact ⟨rfl, Nat.le_of_ble_eq_true rfl⟩ | with_reducible exact yarr23 (by omega) | with_reducible exact yarr57 (by omega)) (by first | omega | assumption | with_reducible exact rng_ld _ _ _ | with_reducible exact rng_yand _ _ | with_reducible exact rng_yor _ _ | with_reducible exact rng_zcmp _ _ | with_reducible exact yand7 _ | with_reducible exact rng_toInt _ | with_reducible exact yarr23 (by omega) | with_reducible exact yarr57 (by omega) | with_reducible exact Or.inl rfl | with_reducible exact Or.inr rfl) ?_
              refine XC.deep (c11_low  (d := 0)  ?_) (by omega)
              refine uX7_isWhole_93 (by first | assumption | exact ⟨rfl, Nat.le_of_ble_eq_true rfl⟩ | with_reducible exact yarr23 (by omega) | with_reducible exact yarr57 (by omega)) (by first | omega | assumption | with_reducible exact rng_ld _ _ _ | with_reducible exact rng_yand _ _ | with_reducible exact rng_yor _ _ | with_reducible exact rng_zcmp _ _ | with_reducible exact yand7 _ | with_reducible exact rng_toInt _ | with_reducible exact yarr23 (by omega) | with_reducible exact yarr57 (by omega) | with_reducible exact Or.inl rfl | with_reducible exact Or.inr rfl) ?_
              refine XC.deep (c11_low  (d := 0)  ?_) (by omega)
              refine uX7_isWhole_107 ?_
              refine uX7_isWhole_112 ?_
              exact ih2 _ _ _ _ _  (by first | omega | assumption | with_reducible exact rng_ld _ _ _ | with_reducible exact rng_yand _ _ | with_reducible exact rng_yor _ _ | with_reducible exact rng_zcmp _ _ | with_reducible exact yand7 _ | with_reducible exact rng_toInt _ | with_reducible exact yarr23 (by omega) | with_reducible exact yarr57 (by omega) | with_reducible exact Or.inl rfl | with_reducible exact Or.inr rfl) (by first | omega | assumption | with_reducible exact rng_ld _ _ _ | with_reducible exact rng_yand _ _ | with_reducible exact rng_yor _ _ | with_reducible exact rng_zcmp _ _ | with_reducible exact yand7 _ | with_reducible exact rng_toInt _ | with_reducible exact yarr23 (by omega) | with_reducible exact yarr57 (by omega) | with_reducible exact Or.inl rfl | with_reducible exact Or.inr rfl) (by first | omega | assumption | with_reducible exact rng_ld _ _ _ | with_reducible exact rng_yand _ _ | with_reducible exact rng_yor _ _ | with_reducible exact rng_zcmp _ _ | with_reducible exact yand7 _ | with_reducible exact rng_toInt _ | with_reducible exact yarr23 (by omega) | with_reducible exact yarr57 (by omega) | with_reducible exact Or.inl rfl | with_reducible exact Or.inr rfl) (by first | exact i2.s (by omega) | assumption) (by first | omega | assumption | with_reducible exact rng_ld _ _ _ | with_reducible exact rng_yand _ _ | with_reducible exact rng_yor _ _ | with_reducible exact rng_zcmp _ _ | with_reducible exact yand7 _ | with_reducible exact rng_toInt _ | with_reducible exact yarr23 (by omega) | with_reducible exact yarr57 (by omega) | with_reducible exact Or.inl rfl | with_reducible exact Or.inr rfl) (by first | exact THR.z | exact i5.no (by omega) | exact i5.s (by omega) l76.1 l76.2) (by omega)
  refine uX7_isWhole_0 ?_
  exact (go 1000000).1 _ _ _ _ _  (by first | omega | assumption | with_reducible exact rng_ld _ _ _ | with_reducible exact rng_yand _ _ | with_reducible exact rng_yor _ _ | with_reducible exact rng_zcmp _ _ | with_reducible exact yand7 _ | with_reducible exact rng_toInt _ | with_reducible exact yarr23 (by omega) | with_reducible exact yarr57 (by omega) | with_reducible exact Or.inl rfl | with_reducible exact Or.inr rfl) (by first | exact CM.z | exact i2.row (by omega)) (by first | exact WQ.z | exact i3.row (by omega)) (by omega)
/-! CLASS: THE SEARCH -/
def D01 (S : Int → Int) : Prop := ∀ d : Int, 0 ≤ d → d < 8 → S (8 * d + d) = 0 ∨ S (8 * d + d) = 1
/-- a net that is settled -/
def LV1 (T f : Int → Int) (k n : Int) (X : Int → Int) : Prop := SN f k n X ∧ Cl T k n X ∧ Ne n X ∧ D8 X
abbrev UV (k n : Int) : List (Int → Int) := uv k.toNat (prs n)
/-- all fillings of a kind are counted -/
def SRQ (T f : Int → Int) (k n : Int) (P : (Int → Int) → Prop) (M M' : yM) : Prop := ld M' 22 7 = ld M 22 7 + ct P (UV k n) ∧ BQ f k n P (ld M 53) (ld M' 53) ∧ D01 (ld M' 53) ∧ (ld M 22 10 ≠ 0 → ld M' 22 8 = ld M 22 8 + ct (fun κ => P κ ∧ WH T k n (nK f κ)) (UV k n))
/-- enough are counted -/
def ENo (f : Int → Int) (k n : Int) (P : (Int → Int) → Prop) (M M' : yM) : Prop := ld M 22 9 ≤ ld M' 22 7 ∧ ld M' 22 7 ≤ ld M 22 7 + ct P (UV k n) ∧ ld M' 22 7 ≤ 20000000 ∧ (ld M 22 9 = 1 → ∃ κ, KV k n κ ∧ P κ ∧ LK n f κ (ld M' 54))
section
variable {T f : Int → Int} {k n : Int} {P P' P'' : (Int → Int) → Prop} {M M1 M2 : yM}
theorem ct_kv (hk : 1 ≤ k) (hn : n ≤ 8) (e : ∀ κ, KV k n κ → (P κ ↔ P' κ)) : ct P (UV k n) = ct P' (UV k n) := ct_cg _ (fun κ h => e κ (uv_kv hk hn h))
theorem ct_no (hk : 1 ≤ k) (hn : n ≤ 8) (e : ∀ κ, KV k n κ → ¬ P κ) : ct P (UV k n) = 0 := ct_0 _ (fun κ h => e κ (uv_kv hk hn h))
theorem ct_ad (hk : 1 ≤ k) (hn : n ≤ 8) (e : ∀ κ, KV k n κ → (P'' κ ↔ P κ ∨ P' κ) ∧ ¬ (P κ ∧ P' κ)) : ct P'' (UV k n) = ct P (UV k n) + ct P' (UV k n) := ct_add _ (fun κ h => e κ (uv_kv hk hn h))
theorem ct_lk (hk : 1 ≤ k) (hn : n ≤ 8) (e : ∀ κ, KV k n κ → P κ → P' κ) : ct P (UV k n) ≤ ct P' (UV k n) := ct_le _ (fun κ h => e κ (uv_kv hk hn h))
theorem SRQ.no (hk : 1 ≤ k) (hn : n ≤ 8) (h : ∀ κ, KV k n κ → ¬ P κ) (hd : D01 (ld M 53)) : SRQ T f k n P M M := ⟨by rw [ct_no hk hn h]; omega, BQ.no h, hd, fun _ => by rw [ct_no hk hn (fun κ v q => h κ v q.1)]; omega⟩
theorem SRQ.cg (hk : 1 ≤ k) (hn : n ≤ 8) (h : SRQ T f k n P M M1) (e : ∀ κ, KV k n κ → (P κ ↔ P' κ)) : SRQ T f k n P' M M1 := ⟨by rw [← ct_kv hk hn e]; exact h.1, h.2.1.cg e, h.2.2.1, fun q => by
  rw [← ct_kv hk hn (P := fun κ => P κ ∧ WH T k n (nK f κ)) (fun κ v => by rw [e κ v])]
  exact h.2.2.2 q⟩
theorem SRQ.tr (hk : 1 ≤ k) (hn : n ≤ 8) (h : SRQ T f k n P M M1) (h' : SRQ T f k n P' M1 M2) (e0 : ld M1 22 10 = ld M 22 10) (e : ∀ κ, KV k n κ → (P'' κ ↔ P κ ∨ P' κ) ∧ ¬ (P κ ∧ P' κ)) : SRQ T f k n P'' M M2 := ⟨by rw [ct_ad hk hn e, h'.1, h.1]; omega, h.2.1.tr h'.2.1 (fun κ v => (e κ v).1), h'.2.2.1, fun q => by
  have w := e
  rw [h'.2.2.2 (by rw [e0]; exact q), h.2.2.2 q, ct_ad hk hn (P := fun κ => P κ ∧ WH T k n (nK f κ)) (P' := fun κ => P' κ ∧ WH T k n (nK f κ)) (P'' := fun κ => P'' κ ∧ WH T k n (nK f κ)) (fun κ v => ⟨⟨fun q => ((e κ v).1.mp q.1).imp (fun p => ⟨p, q.2⟩) (fun p => ⟨p, q.2⟩), fun q => q.elim (fun p => ⟨(e κ v).1.mpr (Or.inl p.1), p.2⟩) (fun p => ⟨(e κ v).1.mpr (Or.inr p.1), p.2⟩)⟩, fun q => (e κ v).2 ⟨q.1.1, q.2.1⟩⟩)]
  omega⟩
theorem SRQ.mv (h : SRQ T f k n P M M1) (e7 : ld M2 22 7 = ld M1 22 7) (e8 : ld M2 22 8 = ld M1 22 8) (e53 : ld M2 53 = ld M1 53) : SRQ T f k n P M M2 := ⟨by rw [e7]; exact h.1, by rw [e53]; exact h.2.1, by rw [e53]; exact h.2.2.1, fun q => by rw [e8]; exact h.2.2.2 q⟩
theorem ENo.tr (hk : 1 ≤ k) (hn : n ≤ 8) (h : SRQ T f k n P M M1) (h' : ENo f k n P' M1 M2) (e0 : ld M1 22 9 = ld M 22 9) (e : ∀ κ, KV k n κ → (P κ ∨ P' κ → P'' κ) ∧ ¬ (P κ ∧ P' κ)) : ENo f k n P'' M M2 := ⟨by rw [← e0]; exact h'.1, by
  have a := ct_ad (P'' := fun κ => P κ ∨ P' κ) hk hn (fun κ v => ⟨Iff.rfl, (e κ v).2⟩)
  have b := ct_lk (P := fun κ => P κ ∨ P' κ) (P' := P'') hk hn (fun κ v => (e κ v).1)
  have := h'.2.1
  have := h.1
  omega, h'.2.2.1, fun q => by
  obtain ⟨κ, v, p, l⟩ := h'.2.2.2 (by rw [e0]; exact q)
  exact ⟨κ, v, (e κ v).1 (Or.inr p), l⟩⟩
theorem SRQ.t0 (h : SRQ T f k n P M M1) : ld M 22 7 ≤ ld M1 22 7 := by
  have a := h.1
  have b := ct_nn (p := P) (UV k n)
  omega
theorem SRQ.ww (hk : 1 ≤ k) (hn : n ≤ 8) (h : SRQ T f k n P M M1) (hw : ld M 22 10 ≠ 0 → 0 ≤ ld M 22 8 ∧ ld M 22 8 ≤ ld M 22 7) (q : ld M 22 10 ≠ 0) : 0 ≤ ld M1 22 8 ∧ ld M1 22 8 ≤ ld M1 22 7 := by
  have a := h.1
  have b := h.2.2.2 q
  have c := ct_nn (p := fun κ => P κ ∧ WH T k n (nK f κ)) (UV k n)
  have d := ct_lk (P := fun κ => P κ ∧ WH T k n (nK f κ)) (P' := P) hk hn (fun κ v q => q.1)
  have e := hw q
  omega
/-- the counters and what is seen stay -/
def SM (A B : yM) : Prop := ld B 22 7 = ld A 22 7 ∧ ld B 22 8 = ld A 22 8 ∧ ld B 53 = ld A 53
theorem SM.fr {A B C : yM} {W : Nat → Int → Prop} (h : SM A B) (f : fr W B C) (h7 : ¬ W 22 7) (h8 : ¬ W 22 8) (h53 : ∀ j, ¬ W 53 j) : SM A C := ⟨by rw [f.ld h7]; exact h.1, by rw [f.ld h8]; exact h.2.1, by rw [← h.2.2]; exact funext fun j => f.ld (h53 j)⟩
theorem low_fl {X : Int → Int} (hT : TH T f k) (hn : 1 ≤ n ∧ n ≤ 8) (h : LV1 T f k n X) (ho : OneOp n X) : KV k n (fun x => low (X x)) ∧ Fl T f k n X (fun x => low (X x)) := by
  obtain ⟨sn, cl, ne, _⟩ := h
  have hk := hT.1
  have h8 := al_le hk
  have v := low_kv hk sn ne
  have w : Sb n (nK f (fun x => low (X x))) X := (sb_up hT hn.2 sn v).mpr (fun t ht => by
    have o := prs_of hn.2 ht
    have s := (sn t.1 t.2 o.1 (by omega) (by omega) o.2.2.1 (by omega)).1
    exact (low_b (by omega) (ne t.1 t.2 o.1 (by omega) (by omega) o.2.2.1 (by omega))).2)
  exact ⟨v, w, box_cl hT hn.2 sn cl ho v w⟩
/-- what a box adds, by its fillings -/
theorem sbx_bq {X S S' : Int → Int} (hT : TH T f k) (hn : 1 ≤ n ∧ n ≤ 8) (h : LV1 T f k n X) (ho : OneOp n X) (hs : SBx X S S' n n 0) (hd : D01 S) : BQ f k n (Fl T f k n X) S S' ∧ D01 S' := by
  have h' := h
  obtain ⟨sn, cl, ne, _⟩ := h
  have hk := hT.1
  have h8 := al_le hk
  have some : ∃ κ, KV k n κ ∧ Fl T f k n X κ := ⟨_, low_fl hT hn h' ho⟩
  refine ⟨fun p q p1 p2 q1 q2 b => ?_, fun d d1 d2 => ?_⟩
  · rw [hs p q p1 (by omega) q1 (by omega)]
    by_cases e : p = q
    · subst e
      rw [if_neg (by omega), if_pos (by omega), bt_1, decide_eq_true_eq]
      constructor
      · intro w
        obtain ⟨κ, v, fl⟩ := some
        exact Or.inr ⟨κ, v, fl, by rw [nK_dg (by omega), bt_1, decide_eq_true_eq]; exact w⟩
      · rintro (w | ⟨κ, v, fl, w⟩)
        · rcases hd p p1 (by omega) with z | z
          · rw [z, bt_0] at w; cases w
          · rw [z, bt_1, decide_eq_true_eq] at w; exact w
        · rw [nK_dg (by omega), bt_1, decide_eq_true_eq] at w
          exact w
    · rw [if_pos (by omega), bt_yor, Bool.or_eq_true]
      constructor
      · rintro (w | w)
        · exact Or.inl w
        · exact Or.inr (box_ex hT hn.2 sn ne cl ho ⟨p1, p2⟩ ⟨q1, q2⟩ e w)
      · rintro (w | ⟨κ, v, fl, w⟩)
        · exact Or.inl w
        · exact Or.inr (sub_bt (fl.1 p q p1 p2 q1 q2 e) w)
  · rw [hs d d d1 d2 d1 d2, if_neg (by omega)]
    split
    · exact Or.inr rfl
    · exact hd d d1 d2
/-- where all are single there is one filling, the net itself -/
theorem one_fl {X : Int → Int} (hT : TH T f k) (hn : 1 ≤ n ∧ n ≤ 8) (sn : SN f k n X) (cl : Cl T k n X) (ne : Ne n X) (h1 : ∀ p q : Int, ¬ Eo X n n 0 p q) : ct (fun κ => Fl T f k n X κ ∧ WH T k n (nK f κ)) (UV k n) = b01 (WH T k n X) * ct (Fl T f k n X) (UV k n) ∧ ct (Fl T f k n X) (UV k n) = 1 := by
  have hk := hT.1
  have h8 := al_le hk
  have oo := one_op hk hn.2 sn hT.2.1 ne (fun p q q' _ e => absurd e (h1 p q))
  have nop : ∀ i c : Int, 0 ≤ i → i < c → c < n → ¬ Op (X (8 * i + c)) := fun i c a b d => by
    have s := (sn i c a (by omega) (by omega) d (by omega)).1
    exact om_op (by omega) (ne i c a (by omega) (by omega) d (by omega)) (fun m => h1 i c (Or.inl ⟨a, b, d, by omega, m⟩))
  have eq : ∀ κ, KV k n κ → Fl T f k n X κ → ∀ i c : Int, 0 ≤ i → i < n → 0 ≤ c → c < n → i ≠ c → nK f κ (8 * i + c) = X (8 * i + c) := fun κ v fl i c i1 i2 c1 c2 ic => by
    rcases Int.lt_or_gt_of_ne ic with w | w
    · exact op_eq hT hn.2 sn v fl.1 ⟨i1, i2⟩ ⟨c1, c2⟩ ic (nop i c i1 w c2)
    · exact op_eq hT hn.2 sn v fl.1 ⟨i1, i2⟩ ⟨c1, c2⟩ ic (op_t hT sn ⟨c1, c2⟩ ⟨i1, i2⟩ (fun e => ic e.symm) (nop c i c1 w i2))
  constructor
  · have key : ∀ l : List (Int → Int), (∀ κ ∈ l, KV k n κ) → ct (fun κ => Fl T f k n X κ ∧ WH T k n (nK f κ)) l = b01 (WH T k n X) * ct (Fl T f k n X) l := by
      intro l
      induction l with
      | nil => intro _; simp only [ct]; omega
      | cons x l ih =>
        intro h
        have i := ih (fun κ m => h κ (List.mem_cons_of_mem _ m))
        simp only [ct]
        rw [i, Int.mul_add]
        congr 1
        by_cases fl : Fl T f k n X x
        · have e := eq x (h x List.mem_cons_self) fl
          by_cases w : WH T k n X
          · rw [b01_t ⟨fl, WH.cg hn.2 (fun i c a b c2 d e' => (e i c a b c2 d e').symm) w⟩, b01_t w, b01_t fl]; rfl
          · rw [b01_f (fun q => w (WH.cg hn.2 e q.2)), b01_f w]; omega
        · rw [b01_f (fun q => fl q.1), b01_f fl]; omega
    exact key _ (fun κ m => uv_kv hk.1 hn.2 m)
  · have w := cn_one hT hn.2 sn cl oo
    unfold cn' at w
    rw [w]
    refine pd_1 _ (fun p hp => ?_)
    have o := prs_of hn.2 hp
    obtain ⟨a, a1, a2, e⟩ := not_op (nop p.1 p.2 o.1 o.2.1 o.2.2.1)
    show pcb (X (8 * p.1 + p.2)) k.toNat = 1
    have s := (sn p.1 p.2 o.1 (by omega) (by omega) o.2.2.1 (by omega)).1
    rw [← pcb_k hk s 8 (by omega), e]
    exact bc_1 ⟨a1, a2⟩
theorem pd_k {X : Int → Int} (hk : 1 ≤ k ∧ k ≤ 8) (hn : n ≤ 8) (sn : SN f k n X) : pd (fun q => X (8 * q.1 + q.2)) k.toNat (prs n) = pd (fun q => X (8 * q.1 + q.2)) 8 (prs n) := by
  have key : ∀ l : List (Int × Int), (∀ p ∈ l, p ∈ prs n) → pd (fun q => X (8 * q.1 + q.2)) k.toNat l = pd (fun q => X (8 * q.1 + q.2)) 8 l := by
    intro l
    induction l with
    | nil => intro _; rfl
    | cons p l ih =>
      intro h
      have o := prs_of hn (h p List.mem_cons_self)
      simp only [pd]
      rw [ih (fun q m => h q (List.mem_cons_of_mem _ m)), pcb_k hk (sn p.1 p.2 o.1 (by omega) (by omega) o.2.2.1 (by omega)).1 8 (by omega)]
  exact key _ (fun _ h => h)
theorem opc_eq {X Y : Int → Int} (hn : n ≤ 8) (e : EqN X Y) : opc n X = opc n Y := by
  have a : ∀ p ∈ up28, b01 (Om (X (8 * p.1 + p.2))) = b01 (Om (Y (8 * p.1 + p.2))) := fun p hp => by
    have u := up28_of p hp
    rw [e _ (by omega) (by omega)]
  exact Int.le_antisymm (ms_le _ (fun p hp _ => Int.le_of_eq (a p hp))) (ms_le _ (fun p hp _ => Int.le_of_eq (a p hp).symm))
theorem LV1.eq {X Y : Int → Int} (hn : n ≤ 8) (h : LV1 T f k n X) (e : EqN Y X) : LV1 T f k n Y := ⟨h.1.eq hn e.sy, fun i j c i1 i2 j1 j2 c1 c2 ij jc ic => by
  have w := h.2.1 i j c i1 i2 j1 j2 c1 c2 ij jc ic
  unfold stp at w ⊢
  rw [e _ (by omega) (by omega), e (8 * i + j) (by omega) (by omega), e (8 * j + c) (by omega) (by omega)]
  exact w, h.2.2.1.eq hn e.sy, fun d a b => by rw [e _ (by omega) (by omega)]; exact h.2.2.2 d a b⟩
theorem sng_d8 {X : Int → Int} {i c a : Int} (h : D8 X) (hi : 0 ≤ i ∧ i < c ∧ c < 8) : D8 (sng f k X i c a) := fun d d1 d2 => by
  unfold sng
  rw [up2_at (by omega) (by omega) (by omega) (by omega), if_neg (by omega), if_neg (by omega)]
  exact h d d1 d2
end
theorem n7_goOn {T f : Int → Int} {k n : Int} : ∀ (m : Nat) {d : Nat} {Q : Int → yM → Prop} {M : yM} {x1 : Int} (hrec : x1 + (m : Int) = 28) (h1 : 0 ≤ x1) (hn : ld M 22 6 = n) (hn8 : 1 ≤ n ∧ n ≤ 8) (hCT : CT M T f k) (hL : LV1 T f k n (ld M (24 + x1.toNat))) (hO : x1 + opc n (ld M (24 + x1.toNat)) ≤ 28) (ht : 0 ≤ ld M 22 7 ∧ ld M 22 7 < ld M 22 9 ∧ ld M 22 9 ≤ 20001) (hw : ld M 22 10 ≠ 0 → 0 ≤ ld M 22 8 ∧ ld M 22 8 ≤ ld M 22 7) (hD : D01 (ld M 53)) (hBT : ld M 22 10 ≠ 0 → BT M T k) (kont : ∀ (v : Int) (M' : yM), fr (fun o j => (24 + x1 < (o : Int) ∧ o ≤ 54) ∨ (o = 22 ∧ (j = 7 ∨ j = 8))) M M' → (v = 0 ∧ SRQ T f k n (Fl T f k n (ld M (24 + x1.toNat))) M M' ∧ ld M' 22 7 < ld M' 22 9 ∨ v = 1 ∧ ENo f k n (Fl T f k n (ld M (24 + x1.toNat))) M M') → Q v M'), XCi (d + 3 + m) 49 [.inr (.inr 22), .inl x1] M Q := by
  intro m
  induction m with
  | zero =>
    intro d Q M x1 hrec h1 hn hn8 hCT hL hO ht hw hD hBT kont
    refine eX7_goOn ?_
    have fM : fr (fun o j => (24 + x1 < (o : Int) ∧ o ≤ 54) ∨ (o = 22 ∧ (j = 7 ∨ j = 8))) M M := fr.rf
    have hk8 := hCT.2.1.1
    have al8 := al_le hk8
    obtain ⟨sn, cl, ne, d8⟩ := id hL
    have hT := hCT.2.1
    have hk1 := hk8.1
    have hn2 := hn8.2
    refine uX7_goOn_0 (by first | omega | assumption | with_reducible exact rng_ld _ _ _ | with_reducible exact rng_yand _ _ | with_reducible exact rng_yor _ _ | with_reducible exact rng_zcmp _ _ | with_reducible exact yand7 _ | with_reducible exact rng_toInt _ | with_reducible exact yarr23 (by omega) | with_reducible exact yarr57 (by omega) | with_reducible exact Or.inl rfl | with_reducible exact Or.inr rfl) ?_
    refine XC.deep (d' := d + 2) (n7_narrowestOpen  (d := 0) (by omega) (yarr23 (by omega)) (fun p q a b c => by have := (sn p q a (by omega) (by omega) (by omega) (by omega)).1; omega) (fun v0 p1a => ?_)) (by omega)
    have q0 := p1a
    rw [hn] at q0
    have r0 : -1 ≤ v0 ∧ v0 < 64 := by
      rcases q0 with ⟨q, _⟩ | ⟨i, c, i1, ic, cn, e, _⟩ <;> omega
    refine uX7_goOn_12 (by first | omega | assumption | with_reducible exact rng_ld _ _ _ | with_reducible exact rng_yand _ _ | with_reducible exact rng_yor _ _ | with_reducible exact rng_zcmp _ _ | with_reducible exact yand7 _ | with_reducible exact rng_toInt _ | with_reducible exact yarr23 (by omega) | with_reducible exact yarr57 (by omega) | with_reducible exact Or.inl rfl | with_reducible exact Or.inr rfl) (fun hc => ?_) (fun hc => ?_)
    · skip
      have nb25 : v0 = -1 := by
        rcases q0 with q | ⟨i, c, i1, ic, cn, e, om⟩
        · exact q.1
        · exfalso
          have op := opc_p hn2 ⟨i1, ic, cn⟩ (by rw [← e]; exact om)
          omega
      have q25 := q0.elim (fun q => q.2) (fun ⟨i, c, i1, ic, cn, e, om⟩ => by exfalso; omega)
      have oo25 : OneOp n (ld M (24 + x1.toNat)) := one_op hk8 hn2 sn hT.2.1 ne (by
        by_cases z : ld M 22 10 = 0
        · exact q25.1 z
        · exact fun p q q' _ e => absurd e (q25.2 z p q))
      have pb25 := pd_bd hT hn8 sn ne oo25
      have cn25 : ct (Fl T f k n (ld M (24 + x1.toNat))) (UV k n) = pd (fun q => (ld M (24 + x1.toNat)) (8 * q.1 + q.2)) 8 (prs n) := (cn_one hT hn2 sn cl oo25).trans (pd_k hk8 hn2 sn)
      have lfl := low_fl hT hn8 hL oo25
      refine uX7_goOn_25 ?_
      refine XC.deep (d' := d + 2) (n7_takeBox  (d := 0) hn (by first | omega | assumption | with_reducible exact rng_ld _ _ _ | with_reducible exact rng_yand _ _ | with_reducible exact rng_yor _ _ | with_reducible exact rng_zcmp _ _ | with_reducible exact yand7 _ | with_reducible exact rng_toInt _ | with_reducible exact yarr23 (by omega) | with_reducible exact yarr57 (by omega) | with_reducible exact Or.inl rfl | with_reducible exact Or.inr rfl) (yarr23 (by omega)) (by omega) (fun p q a b c => by have := (sn p q a (by omega) (by omega) c (by omega)).1; omega) pb25 (by omega) (fun M2 fM2 p2a p2b => ?_)) (by omega)
      replace fM := fM.tr fM2 (by intro o j hw; first | omega | exact hw | (dsimp only [wSub, wRun, wNar, wFil, wCan, wLst, wCar, wDr, wFl, wMq, wRd, wRx, wCr, wTab, wTr, wNew, wKi, wKn, wTn, wOb, wPt, wTl, wOq] at hw; dsimp only [wSub, wRun, wNar, wFil, wCan, wLst, wCar, wDr, wFl, wMq, wRd, wRx, wCr, wTab, wTr, wNew, wKi, wKn, wTn, wOb, wPt, wTl, wOq]; omega) | (dsimp only [wSub, wRun, wNar, wFil, wCan, wLst, wCar, wDr, wFl, wMq, wRd, wRx, wCr, wTab, wTr, wNew, wKi, wKn, wTn, wOb, wPt, wTl, wOq]; omega) | (dsimp only [wSub, wRun, wNar, wFil, wCan, wLst, wCar, wDr, wFl, wMq, wRd, wRx, wCr, wTab, wTr, wNew, wKi, wKn, wTn, wOb, wPt, wTl, wOq] at hw; omega) | (simp [wSub, wRun, wNar, wFil, wCan, wLst, wCar, wDr, wFl, wMq, wRd, wRx, wCr, wTab, wTr, wNew, wKi, wKn, wTn, wOb, wPt, wTl, wOq] at hw; simp [wSub, wRun, wNar, wFil, wCan, wLst, wCar, wDr, wFl, wMq, wRd, wRx, wCr, wTab, wTr, wNew, wKi, wKn, wTn, wOb, wPt, wTl, wOq]; omega))
      have k22_6 := fM.ld (o := 22) (j := 6) (by intro hw; first | omega | (dsimp only [wSub, wRun, wNar, wFil, wCan, wLst, wCar, wDr, wFl, wMq, wRd, wRx, wCr, wTab, wTr, wNew, wKi, wKn, wTn, wOb, wPt, wTl, wOq] at hw; omega) | (simp [wSub, wRun, wNar, wFil, wCan, wLst, wCar, wDr, wFl, wMq, wRd, wRx, wCr, wTab, wTr, wNew, wKi, wKn, wTn, wOb, wPt, wTl, wOq] at hw; done) | (simp [wSub, wRun, wNar, wFil, wCan, wLst, wCar, wDr, wFl, wMq, wRd, wRx, wCr, wTab, wTr, wNew, wKi, wKn, wTn, wOb, wPt, wTl, wOq] at hw; omega))
      have k22_9 := fM.ld (o := 22) (j := 9) (by intro hw; first | omega | (dsimp only [wSub, wRun, wNar, wFil, wCan, wLst, wCar, wDr, wFl, wMq, wRd, wRx, wCr, wTab, wTr, wNew, wKi, wKn, wTn, wOb, wPt, wTl, wOq] at hw; omega) | (simp [wSub, wRun, wNar, wFil, wCan, wLst, wCar, wDr, wFl, wMq, wRd, wRx, wCr, wTab, wTr, wNew, wKi, wKn, wTn, wOb, wPt, wTl, wOq] at hw; done) | (simp [wSub, wRun, wNar, wFil, wCan, wLst, wCar, wDr, wFl, wMq, wRd, wRx, wCr, wTab, wTr, wNew, wKi, wKn, wTn, wOb, wPt, wTl, wOq] at hw; omega))
      have k22_10 := fM.ld (o := 22) (j := 10) (by intro hw; first | omega | (dsimp only [wSub, wRun, wNar, wFil, wCan, wLst, wCar, wDr, wFl, wMq, wRd, wRx, wCr, wTab, wTr, wNew, wKi, wKn, wTn, wOb, wPt, wTl, wOq] at hw; omega) | (simp [wSub, wRun, wNar, wFil, wCan, wLst, wCar, wDr, wFl, wMq, wRd, wRx, wCr, wTab, wTr, wNew, wKi, wKn, wTn, wOb, wPt, wTl, wOq] at hw; done) | (simp [wSub, wRun, wNar, wFil, wCan, wLst, wCar, wDr, wFl, wMq, wRd, wRx, wCr, wTab, wTr, wNew, wKi, wKn, wTn, wOb, wPt, wTl, wOq] at hw; omega))
      have k1_0 := fM.ld (o := 1) (j := 0) (by intro hw; first | omega | (dsimp only [wSub, wRun, wNar, wFil, wCan, wLst, wCar, wDr, wFl, wMq, wRd, wRx, wCr, wTab, wTr, wNew, wKi, wKn, wTn, wOb, wPt, wTl, wOq] at hw; omega) | (simp [wSub, wRun, wNar, wFil, wCan, wLst, wCar, wDr, wFl, wMq, wRd, wRx, wCr, wTab, wTr, wNew, wKi, wKn, wTn, wOb, wPt, wTl, wOq] at hw; done) | (simp [wSub, wRun, wNar, wFil, wCan, wLst, wCar, wDr, wFl, wMq, wRd, wRx, wCr, wTab, wTr, wNew, wKi, wKn, wTn, wOb, wPt, wTl, wOq] at hw; omega))
      have t25 : ld M2 22 7 = ld M 22 7 + ct (Fl T f k n (ld M (24 + x1.toNat))) (UV k n) := by rw [p2a, cn25]
      have sb25 := sbx_bq hT hn8 hL oo25 p2b hD
      have b25 := sb25.1
      have d25 := sb25.2
      have x25 : ld M2 (24 + x1.toNat) = (ld M (24 + x1.toNat)) := funext fun j => fM.ld (by omega)
      have z8 : ld M2 22 8 = ld M 22 8 := fM2.ld (by omega)
      have p25 := pb25.2
      refine uX7_goOn_30 (fun hc => ?_) (fun hc => ?_)
      · skip
        have x43 : ld M2 (24 + x1.toNat) = (ld M (24 + x1.toNat)) := funext fun j => fM.ld (by omega)
        refine uX7_goOn_43 (fun hc => ?_) (fun hc => ?_)
        · skip
          have w68 : ld M 22 10 ≠ 0 → ld M2 22 8 = ld M 22 8 + ct (fun κ => Fl T f k n (ld M (24 + x1.toNat)) κ ∧ WH T k n (nK f κ)) (UV k n) := by first | exact (fun q => absurd (by omega) q) | exact w58 | exact w50 (by assumption)
          have s68 : SRQ T f k n (Fl T f k n (ld M (24 + x1.toNat))) M M2 := ⟨t25, b25, d25, w68⟩
          refine uX7_goOn_68 (fun hc => ?_) (fun hc => ?_)
          · skip
            refine uX7_goOn_83 ?_
            refine uX7_goOn_84 (by first | omega | assumption | with_reducible exact rng_ld _ _ _ | with_reducible exact rng_yand _ _ | with_reducible exact rng_yor _ _ | with_reducible exact rng_zcmp _ _ | with_reducible exact yand7 _ | with_reducible exact rng_toInt _ | with_reducible exact yarr23 (by omega) | with_reducible exact yarr57 (by omega) | with_reducible exact Or.inl rfl | with_reducible exact Or.inr rfl) ?_
            exact kont _ _ fM (by first | exact Or.inl ⟨rfl, s68, by omega⟩ | exact Or.inr ⟨rfl, by omega, by omega, by omega, fun e => by first | exact ⟨_, lfl.1, lfl.2, l38⟩ | exact absurd e (by omega)⟩)
          · skip
            refine uX7_goOn_79 ?_
            refine uX7_goOn_84 (by first | omega | assumption | with_reducible exact rng_ld _ _ _ | with_reducible exact rng_yand _ _ | with_reducible exact rng_yor _ _ | with_reducible exact rng_zcmp _ _ | with_reducible exact yand7 _ | with_reducible exact rng_toInt _ | with_reducible exact yarr23 (by omega) | with_reducible exact yarr57 (by omega) | with_reducible exact Or.inl rfl | with_reducible exact Or.inr rfl) ?_
            exact kont _ _ fM (by first | exact Or.inl ⟨rfl, s68, by omega⟩ | exact Or.inr ⟨rfl, by omega, by omega, by omega, fun e => by first | exact ⟨_, lfl.1, lfl.2, l38⟩ | exact absurd e (by omega)⟩)
        · skip
          refine uX7_goOn_50 ?_
          refine XC.deep (d' := d + 2) (n7_isWhole  (d := 0) (k22_6.trans hn) (by first | omega | assumption | with_reducible exact rng_ld _ _ _ | with_reducible exact rng_yand _ _ | with_reducible exact rng_yor _ _ | with_reducible exact rng_zcmp _ _ | with_reducible exact yand7 _ | with_reducible exact rng_toInt _ | with_reducible exact yarr23 (by omega) | with_reducible exact yarr57 (by omega) | with_reducible exact Or.inl rfl | with_reducible exact Or.inr rfl) (yarr23 (by omega)) (hCT.fr fM (by (first | (dsimp only [wNo]; omega) | omega)) (fun _ => by (first | (dsimp only [wNo]; omega) | omega)) (fun _ => by (first | (dsimp only [wNo]; omega) | omega))) (by rw [x43]; exact sn) (by rw [x43]; exact ne) ((hBT (by omega)).fr fM (fun _ => by omega)) (fun v50 p3a => ?_)) (by omega)
          have q50 := p3a
          rw [x43] at q50
          have o50 := one_fl hT hn8 sn cl ne (q25.2 (by omega))
          have w50 : v50 = 0 → ld M 22 10 ≠ 0 → ld M2 22 8 = ld M 22 8 + ct (fun κ => Fl T f k n (ld M (24 + x1.toNat)) κ ∧ WH T k n (nK f κ)) (UV k n) := fun e _ => by
            rw [o50.1, b01_f (q50.elim (fun q => absurd q.1 (by omega)) (fun q => q.2))]
            omega
          refine uX7_goOn_55 (by first | omega | assumption | with_reducible exact rng_ld _ _ _ | with_reducible exact rng_yand _ _ | with_reducible exact rng_yor _ _ | with_reducible exact rng_zcmp _ _ | with_reducible exact yand7 _ | with_reducible exact rng_toInt _ | with_reducible exact yarr23 (by omega) | with_reducible exact yarr57 (by omega) | with_reducible exact Or.inl rfl | with_reducible exact Or.inr rfl) (fun hc => ?_) (fun hc => ?_)
          · skip
            have w68 : ld M 22 10 ≠ 0 → ld M2 22 8 = ld M 22 8 + ct (fun κ => Fl T f k n (ld M (24 + x1.toNat)) κ ∧ WH T k n (nK f κ)) (UV k n) := by first | exact (fun q => absurd (by omega) q) | exact w58 | exact w50 (by assumption)
            have s68 : SRQ T f k n (Fl T f k n (ld M (24 + x1.toNat))) M M2 := ⟨t25, b25, d25, w68⟩
            refine uX7_goOn_68 (fun hc => ?_) (fun hc => ?_)
            · skip
              refine uX7_goOn_83 ?_
              refine uX7_goOn_84 (by first | omega | assumption | with_reducible exact rng_ld _ _ _ | with_reducible exact rng_yand _ _ | with_reducible exact rng_yor _ _ | with_reducible exact rng_zcmp _ _ | with_reducible exact yand7 _ | with_reducible exact rng_toInt _ | with_reducible exact yarr23 (by omega) | with_reducible exact yarr57 (by omega) | with_reducible exact Or.inl rfl | with_reducible exact Or.inr rfl) ?_
              exact kont _ _ fM (by first | exact Or.inl ⟨rfl, s68, by omega⟩ | exact Or.inr ⟨rfl, by omega, by omega, by omega, fun e => by first | exact ⟨_, lfl.1, lfl.2, l38⟩ | exact absurd e (by omega)⟩)
            · skip
              refine uX7_goOn_79 ?_
              refine uX7_goOn_84 (by first | omega | assumption | with_reducible exact rng_ld _ _ _ | with_reducible exact rng_yand _ _ | with_reducible exact rng_yor _ _ | with_reducible exact rng_zcmp _ _ | with_reducible exact yand7 _ | with_reducible exact rng_toInt _ | with_reducible exact yarr23 (by omega) | with_reducible exact yarr57 (by omega) | with_reducible exact Or.inl rfl | with_reducible exact Or.inr rfl) ?_
              exact kont _ _ fM (by first | exact Or.inl ⟨rfl, s68, by omega⟩ | exact Or.inr ⟨rfl, by omega, by omega, by omega, fun e => by first | exact ⟨_, lfl.1, lfl.2, l38⟩ | exact absurd e (by omega)⟩)
          · skip
            refine uX7_goOn_58 ?_
            intro M4 hM4
            replace fM := fr.put fM hM4 (by first | omega | (dsimp only [wSub, wRun, wNar, wFil, wCan, wLst, wCar, wDr, wFl, wMq, wRd, wRx, wCr, wTab, wTr, wNew, wKi, wKn, wTn, wOb, wPt, wTl, wOq]; done) | (dsimp only [wSub, wRun, wNar, wFil, wCan, wLst, wCar, wDr, wFl, wMq, wRd, wRx, wCr, wTab, wTr, wNew, wKi, wKn, wTn, wOb, wPt, wTl, wOq]; omega) | (simp [wSub, wRun, wNar, wFil, wCan, wLst, wCar, wDr, wFl, wMq, wRd, wRx, wCr, wTab, wTr, wNew, wKi, wKn, wTn, wOb, wPt, wTl, wOq]; done) | (simp [wSub, wRun, wNar, wFil, wCan, wLst, wCar, wDr, wFl, wMq, wRd, wRx, wCr, wTab, wTr, wNew, wKi, wKn, wTn, wOb, wPt, wTl, wOq]; omega))
            have k22_6 := fM.ld (o := 22) (j := 6) (by intro hw; first | omega | (dsimp only [wSub, wRun, wNar, wFil, wCan, wLst, wCar, wDr, wFl, wMq, wRd, wRx, wCr, wTab, wTr, wNew, wKi, wKn, wTn, wOb, wPt, wTl, wOq] at hw; omega) | (simp [wSub, wRun, wNar, wFil, wCan, wLst, wCar, wDr, wFl, wMq, wRd, wRx, wCr, wTab, wTr, wNew, wKi, wKn, wTn, wOb, wPt, wTl, wOq] at hw; done) | (simp [wSub, wRun, wNar, wFil, wCan, wLst, wCar, wDr, wFl, wMq, wRd, wRx, wCr, wTab, wTr, wNew, wKi, wKn, wTn, wOb, wPt, wTl, wOq] at hw; omega))
            have k22_9 := fM.ld (o := 22) (j := 9) (by intro hw; first | omega | (dsimp only [wSub, wRun, wNar, wFil, wCan, wLst, wCar, wDr, wFl, wMq, wRd, wRx, wCr, wTab, wTr, wNew, wKi, wKn, wTn, wOb, wPt, wTl, wOq] at hw; omega) | (simp [wSub, wRun, wNar, wFil, wCan, wLst, wCar, wDr, wFl, wMq, wRd, wRx, wCr, wTab, wTr, wNew, wKi, wKn, wTn, wOb, wPt, wTl, wOq] at hw; done) | (simp [wSub, wRun, wNar, wFil, wCan, wLst, wCar, wDr, wFl, wMq, wRd, wRx, wCr, wTab, wTr, wNew, wKi, wKn, wTn, wOb, wPt, wTl, wOq] at hw; omega))
            have k22_10 := fM.ld (o := 22) (j := 10) (by intro hw; first | omega | (dsimp only [wSub, wRun, wNar, wFil, wCan, wLst, wCar, wDr, wFl, wMq, wRd, wRx, wCr, wTab, wTr, wNew, wKi, wKn, wTn, wOb, wPt, wTl, wOq] at hw; omega) | (simp [wSub, wRun, wNar, wFil, wCan, wLst, wCar, wDr, wFl, wMq, wRd, wRx, wCr, wTab, wTr, wNew, wKi, wKn, wTn, wOb, wPt, wTl, wOq] at hw; done) | (simp [wSub, wRun, wNar, wFil, wCan, wLst, wCar, wDr, wFl, wMq, wRd, wRx, wCr, wTab, wTr, wNew, wKi, wKn, wTn, wOb, wPt, wTl, wOq] at hw; omega))
            have k1_0 := fM.ld (o := 1) (j := 0) (by intro hw; first | omega | (dsimp only [wSub, wRun, wNar, wFil, wCan, wLst, wCar, wDr, wFl, wMq, wRd, wRx, wCr, wTab, wTr, wNew, wKi, wKn, wTn, wOb, wPt, wTl, wOq] at hw; omega) | (simp [wSub, wRun, wNar, wFil, wCan, wLst, wCar, wDr, wFl, wMq, wRd, wRx, wCr, wTab, wTr, wNew, wKi, wKn, wTn, wOb, wPt, wTl, wOq] at hw; done) | (simp [wSub, wRun, wNar, wFil, wCan, wLst, wCar, wDr, wFl, wMq, wRd, wRx, wCr, wTab, wTr, wNew, wKi, wKn, wTn, wOb, wPt, wTl, wOq] at hw; omega))
            have e58 := hM4
            have w58 : ld M 22 10 ≠ 0 → ld M4 22 8 = ld M 22 8 + ct (fun κ => Fl T f k n (ld M (24 + x1.toNat)) κ ∧ WH T k n (nK f κ)) (UV k n) := fun q => by
              have := hw q
              rw [e58, ld_same (by omega), z8, o50.1, b01_t (q50.elim (fun q => q.2) (fun q => absurd q.1 (by omega))), o50.2]
              omega
            replace t25 : ld M4 22 7 = ld M 22 7 + ct (Fl T f k n (ld M (24 + x1.toNat))) (UV k n) := by rw [e58, ld_putne (by omega)]; exact t25
            have e58b : ld M4 53 = ld M2 53 := funext fun j => by rw [e58, ld_putne (by omega)]
            rw [← e58b] at b25 d25
            have e58c : ld M4 54 = ld M2 54 := funext fun j => by rw [e58, ld_putne (by omega)]
            try rw [← e58c] at l38
            have w68 : ld M 22 10 ≠ 0 → ld M4 22 8 = ld M 22 8 + ct (fun κ => Fl T f k n (ld M (24 + x1.toNat)) κ ∧ WH T k n (nK f κ)) (UV k n) := by first | exact (fun q => absurd (by omega) q) | exact w58 | exact w50 (by assumption)
            have s68 : SRQ T f k n (Fl T f k n (ld M (24 + x1.toNat))) M M4 := ⟨t25, b25, d25, w68⟩
            refine uX7_goOn_68 (fun hc => ?_) (fun hc => ?_)
            · skip
              refine uX7_goOn_83 ?_
              refine uX7_goOn_84 (by first | omega | assumption | with_reducible exact rng_ld _ _ _ | with_reducible exact rng_yand _ _ | with_reducible exact rng_yor _ _ | with_reducible exact rng_zcmp _ _ | with_reducible exact yand7 _ | with_reducible exact rng_toInt _ | with_reducible exact yarr23 (by omega) | with_reducible exact yarr57 (by omega) | with_reducible exact Or.inl rfl | with_reducible exact Or.inr rfl) ?_
              exact kont _ _ fM (by first | exact Or.inl ⟨rfl, s68, by omega⟩ | exact Or.inr ⟨rfl, by omega, by omega, by omega, fun e => by first | exact ⟨_, lfl.1, lfl.2, l38⟩ | exact absurd e (by omega)⟩)
            · skip
              refine uX7_goOn_79 ?_
              refine uX7_goOn_84 (by first | omega | assumption | with_reducible exact rng_ld _ _ _ | with_reducible exact rng_yand _ _ | with_reducible exact rng_yor _ _ | with_reducible exact rng_zcmp _ _ | with_reducible exact yand7 _ | with_reducible exact rng_toInt _ | with_reducible exact yarr23 (by omega) | with_reducible exact yarr57 (by omega) | with_reducible exact Or.inl rfl | with_reducible exact Or.inr rfl) ?_
              exact kont _ _ fM (by first | exact Or.inl ⟨rfl, s68, by omega⟩ | exact Or.inr ⟨rfl, by omega, by omega, by omega, fun e => by first | exact ⟨_, lfl.1, lfl.2, l38⟩ | exact absurd e (by omega)⟩)
      · skip
        refine uX7_goOn_38 ?_
        refine XC.deep (d' := d + 2) (n7_takeLowest  (d := 0) (k22_6.trans hn) (by first | omega | assumption | with_reducible exact rng_ld _ _ _ | with_reducible exact rng_yand _ _ | with_reducible exact rng_yor _ _ | with_reducible exact rng_zcmp _ _ | with_reducible exact yand7 _ | with_reducible exact rng_toInt _ | with_reducible exact yarr23 (by omega) | with_reducible exact yarr57 (by omega) | with_reducible exact Or.inl rfl | with_reducible exact Or.inr rfl) (yarr23 (by omega)) (by omega) (hCT.fr fM (by (first | (dsimp only [wNo]; omega) | omega)) (fun _ => by (first | (dsimp only [wNo]; omega) | omega)) (fun _ => by (first | (dsimp only [wNo]; omega) | omega))) (by rw [x25]; exact sn) (by rw [x25]; exact ne) (by rw [x25]; exact d8) (fun M5 fM5 p5a => ?_)) (by omega)
        replace fM := fM.tr fM5 (by intro o j hw; first | omega | exact hw | (dsimp only [wSub, wRun, wNar, wFil, wCan, wLst, wCar, wDr, wFl, wMq, wRd, wRx, wCr, wTab, wTr, wNew, wKi, wKn, wTn, wOb, wPt, wTl, wOq] at hw; dsimp only [wSub, wRun, wNar, wFil, wCan, wLst, wCar, wDr, wFl, wMq, wRd, wRx, wCr, wTab, wTr, wNew, wKi, wKn, wTn, wOb, wPt, wTl, wOq]; omega) | (dsimp only [wSub, wRun, wNar, wFil, wCan, wLst, wCar, wDr, wFl, wMq, wRd, wRx, wCr, wTab, wTr, wNew, wKi, wKn, wTn, wOb, wPt, wTl, wOq]; omega) | (dsimp only [wSub, wRun, wNar, wFil, wCan, wLst, wCar, wDr, wFl, wMq, wRd, wRx, wCr, wTab, wTr, wNew, wKi, wKn, wTn, wOb, wPt, wTl, wOq] at hw; omega) | (simp [wSub, wRun, wNar, wFil, wCan, wLst, wCar, wDr, wFl, wMq, wRd, wRx, wCr, wTab, wTr, wNew, wKi, wKn, wTn, wOb, wPt, wTl, wOq] at hw; simp [wSub, wRun, wNar, wFil, wCan, wLst, wCar, wDr, wFl, wMq, wRd, wRx, wCr, wTab, wTr, wNew, wKi, wKn, wTn, wOb, wPt, wTl, wOq]; omega))
        have k22_6 := fM.ld (o := 22) (j := 6) (by intro hw; first | omega | (dsimp only [wSub, wRun, wNar, wFil, wCan, wLst, wCar, wDr, wFl, wMq, wRd, wRx, wCr, wTab, wTr, wNew, wKi, wKn, wTn, wOb, wPt, wTl, wOq] at hw; omega) | (simp [wSub, wRun, wNar, wFil, wCan, wLst, wCar, wDr, wFl, wMq, wRd, wRx, wCr, wTab, wTr, wNew, wKi, wKn, wTn, wOb, wPt, wTl, wOq] at hw; done) | (simp [wSub, wRun, wNar, wFil, wCan, wLst, wCar, wDr, wFl, wMq, wRd, wRx, wCr, wTab, wTr, wNew, wKi, wKn, wTn, wOb, wPt, wTl, wOq] at hw; omega))
        have k22_9 := fM.ld (o := 22) (j := 9) (by intro hw; first | omega | (dsimp only [wSub, wRun, wNar, wFil, wCan, wLst, wCar, wDr, wFl, wMq, wRd, wRx, wCr, wTab, wTr, wNew, wKi, wKn, wTn, wOb, wPt, wTl, wOq] at hw; omega) | (simp [wSub, wRun, wNar, wFil, wCan, wLst, wCar, wDr, wFl, wMq, wRd, wRx, wCr, wTab, wTr, wNew, wKi, wKn, wTn, wOb, wPt, wTl, wOq] at hw; done) | (simp [wSub, wRun, wNar, wFil, wCan, wLst, wCar, wDr, wFl, wMq, wRd, wRx, wCr, wTab, wTr, wNew, wKi, wKn, wTn, wOb, wPt, wTl, wOq] at hw; omega))
        have k22_10 := fM.ld (o := 22) (j := 10) (by intro hw; first | omega | (dsimp only [wSub, wRun, wNar, wFil, wCan, wLst, wCar, wDr, wFl, wMq, wRd, wRx, wCr, wTab, wTr, wNew, wKi, wKn, wTn, wOb, wPt, wTl, wOq] at hw; omega) | (simp [wSub, wRun, wNar, wFil, wCan, wLst, wCar, wDr, wFl, wMq, wRd, wRx, wCr, wTab, wTr, wNew, wKi, wKn, wTn, wOb, wPt, wTl, wOq] at hw; done) | (simp [wSub, wRun, wNar, wFil, wCan, wLst, wCar, wDr, wFl, wMq, wRd, wRx, wCr, wTab, wTr, wNew, wKi, wKn, wTn, wOb, wPt, wTl, wOq] at hw; omega))
        have k1_0 := fM.ld (o := 1) (j := 0) (by intro hw; first | omega | (dsimp only [wSub, wRun, wNar, wFil, wCan, wLst, wCar, wDr, wFl, wMq, wRd, wRx, wCr, wTab, wTr, wNew, wKi, wKn, wTn, wOb, wPt, wTl, wOq] at hw; omega) | (simp [wSub, wRun, wNar, wFil, wCan, wLst, wCar, wDr, wFl, wMq, wRd, wRx, wCr, wTab, wTr, wNew, wKi, wKn, wTn, wOb, wPt, wTl, wOq] at hw; done) | (simp [wSub, wRun, wNar, wFil, wCan, wLst, wCar, wDr, wFl, wMq, wRd, wRx, wCr, wTab, wTr, wNew, wKi, wKn, wTn, wOb, wPt, wTl, wOq] at hw; omega))
        have l38 : LK n f (fun z => low ((ld M (24 + x1.toNat)) z)) (ld M5 54) := by rw [← x25]; exact p5a
        replace t25 : ld M5 22 7 = ld M 22 7 + ct (Fl T f k n (ld M (24 + x1.toNat))) (UV k n) := by rw [fM5.ld (by omega)]; exact t25
        have e38 : ld M5 53 = ld M2 53 := funext fun j => fM5.ld (by omega)
        rw [← e38] at b25 d25
        replace z8 : ld M5 22 8 = ld M 22 8 := by rw [fM5.ld (by omega)]; exact z8
        have x43 : ld M5 (24 + x1.toNat) = (ld M (24 + x1.toNat)) := funext fun j => fM.ld (by omega)
        refine uX7_goOn_43 (fun hc => ?_) (fun hc => ?_)
        · skip
          have w68 : ld M 22 10 ≠ 0 → ld M5 22 8 = ld M 22 8 + ct (fun κ => Fl T f k n (ld M (24 + x1.toNat)) κ ∧ WH T k n (nK f κ)) (UV k n) := by first | exact (fun q => absurd (by omega) q) | exact w58 | exact w50 (by assumption)
          have s68 : SRQ T f k n (Fl T f k n (ld M (24 + x1.toNat))) M M5 := ⟨t25, b25, d25, w68⟩
          refine uX7_goOn_68 (fun hc => ?_) (fun hc => ?_)
          · skip
            refine uX7_goOn_83 ?_
            refine uX7_goOn_84 (by first | omega | assumption | with_reducible exact rng_ld _ _ _ | with_reducible exact rng_yand _ _ | with_reducible exact rng_yor _ _ | with_reducible exact rng_zcmp _ _ | with_reducible exact yand7 _ | with_reducible exact rng_toInt _ | with_reducible exact yarr23 (by omega) | with_reducible exact yarr57 (by omega) | with_reducible exact Or.inl rfl | with_reducible exact Or.inr rfl) ?_
            exact kont _ _ fM (by first | exact Or.inl ⟨rfl, s68, by omega⟩ | exact Or.inr ⟨rfl, by omega, by omega, by omega, fun e => by first | exact ⟨_, lfl.1, lfl.2, l38⟩ | exact absurd e (by omega)⟩)
          · skip
            refine uX7_goOn_79 ?_
            refine uX7_goOn_84 (by first | omega | assumption | with_reducible exact rng_ld _ _ _ | with_reducible exact rng_yand _ _ | with_reducible exact rng_yor _ _ | with_reducible exact rng_zcmp _ _ | with_reducible exact yand7 _ | with_reducible exact rng_toInt _ | with_reducible exact yarr23 (by omega) | with_reducible exact yarr57 (by omega) | with_reducible exact Or.inl rfl | with_reducible exact Or.inr rfl) ?_
            exact kont _ _ fM (by first | exact Or.inl ⟨rfl, s68, by omega⟩ | exact Or.inr ⟨rfl, by omega, by omega, by omega, fun e => by first | exact ⟨_, lfl.1, lfl.2, l38⟩ | exact absurd e (by omega)⟩)
        · skip
          refine uX7_goOn_50 ?_
          refine XC.deep (d' := d + 2) (n7_isWhole  (d := 0) (k22_6.trans hn) (by first | omega | assumption | with_reducible exact rng_ld _ _ _ | with_reducible exact rng_yand _ _ | with_reducible exact rng_yor _ _ | with_reducible exact rng_zcmp _ _ | with_reducible exact yand7 _ | with_reducible exact rng_toInt _ | with_reducible exact yarr23 (by omega) | with_reducible exact yarr57 (by omega) | with_reducible exact Or.inl rfl | with_reducible exact Or.inr rfl) (yarr23 (by omega)) (hCT.fr fM (by (first | (dsimp only [wNo]; omega) | omega)) (fun _ => by (first | (dsimp only [wNo]; omega) | omega)) (fun _ => by (first | (dsimp only [wNo]; omega) | omega))) (by rw [x43]; exact sn) (by rw [x43]; exact ne) ((hBT (by omega)).fr fM (fun _ => by omega)) (fun v50 p6a => ?_)) (by omega)
          have q50 := p6a
          rw [x43] at q50
          have o50 := one_fl hT hn8 sn cl ne (q25.2 (by omega))
          have w50 : v50 = 0 → ld M 22 10 ≠ 0 → ld M5 22 8 = ld M 22 8 + ct (fun κ => Fl T f k n (ld M (24 + x1.toNat)) κ ∧ WH T k n (nK f κ)) (UV k n) := fun e _ => by
            rw [o50.1, b01_f (q50.elim (fun q => absurd q.1 (by omega)) (fun q => q.2))]
            omega
          refine uX7_goOn_55 (by first | omega | assumption | with_reducible exact rng_ld _ _ _ | with_reducible exact rng_yand _ _ | with_reducible exact rng_yor _ _ | with_reducible exact rng_zcmp _ _ | with_reducible exact yand7 _ | with_reducible exact rng_toInt _ | with_reducible exact yarr23 (by omega) | with_reducible exact yarr57 (by omega) | with_reducible exact Or.inl rfl | with_reducible exact Or.inr rfl) (fun hc => ?_) (fun hc => ?_)
          · skip
            have w68 : ld M 22 10 ≠ 0 → ld M5 22 8 = ld M 22 8 + ct (fun κ => Fl T f k n (ld M (24 + x1.toNat)) κ ∧ WH T k n (nK f κ)) (UV k n) := by first | exact (fun q => absurd (by omega) q) | exact w58 | exact w50 (by assumption)
            have s68 : SRQ T f k n (Fl T f k n (ld M (24 + x1.toNat))) M M5 := ⟨t25, b25, d25, w68⟩
            refine uX7_goOn_68 (fun hc => ?_) (fun hc => ?_)
            · skip
              refine uX7_goOn_83 ?_
              refine uX7_goOn_84 (by first | omega | assumption | with_reducible exact rng_ld _ _ _ | with_reducible exact rng_yand _ _ | with_reducible exact rng_yor _ _ | with_reducible exact rng_zcmp _ _ | with_reducible exact yand7 _ | with_reducible exact rng_toInt _ | with_reducible exact yarr23 (by omega) | with_reducible exact yarr57 (by omega) | with_reducible exact Or.inl rfl | with_reducible exact Or.inr rfl) ?_
              exact kont _ _ fM (by first | exact Or.inl ⟨rfl, s68, by omega⟩ | exact Or.inr ⟨rfl, by omega, by omega, by omega, fun e => by first | exact ⟨_, lfl.1, lfl.2, l38⟩ | exact absurd e (by omega)⟩)
            · skip
              refine uX7_goOn_79 ?_
              refine uX7_goOn_84 (by first | omega | assumption | with_reducible exact rng_ld _ _ _ | with_reducible exact rng_yand _ _ | with_reducible exact rng_yor _ _ | with_reducible exact rng_zcmp _ _ | with_reducible exact yand7 _ | with_reducible exact rng_toInt _ | with_reducible exact yarr23 (by omega) | with_reducible exact yarr57 (by omega) | with_reducible exact Or.inl rfl | with_reducible exact Or.inr rfl) ?_
              exact kont _ _ fM (by first | exact Or.inl ⟨rfl, s68, by omega⟩ | exact Or.inr ⟨rfl, by omega, by omega, by omega, fun e => by first | exact ⟨_, lfl.1, lfl.2, l38⟩ | exact absurd e (by omega)⟩)
          · skip
            refine uX7_goOn_58 ?_
            intro M7 hM7
            replace fM := fr.put fM hM7 (by first | omega | (dsimp only [wSub, wRun, wNar, wFil, wCan, wLst, wCar, wDr, wFl, wMq, wRd, wRx, wCr, wTab, wTr, wNew, wKi, wKn, wTn, wOb, wPt, wTl, wOq]; done) | (dsimp only [wSub, wRun, wNar, wFil, wCan, wLst, wCar, wDr, wFl, wMq, wRd, wRx, wCr, wTab, wTr, wNew, wKi, wKn, wTn, wOb, wPt, wTl, wOq]; omega) | (simp [wSub, wRun, wNar, wFil, wCan, wLst, wCar, wDr, wFl, wMq, wRd, wRx, wCr, wTab, wTr, wNew, wKi, wKn, wTn, wOb, wPt, wTl, wOq]; done) | (simp [wSub, wRun, wNar, wFil, wCan, wLst, wCar, wDr, wFl, wMq, wRd, wRx, wCr, wTab, wTr, wNew, wKi, wKn, wTn, wOb, wPt, wTl, wOq]; omega))
            have k22_6 := fM.ld (o := 22) (j := 6) (by intro hw; first | omega | (dsimp only [wSub, wRun, wNar, wFil, wCan, wLst, wCar, wDr, wFl, wMq, wRd, wRx, wCr, wTab, wTr, wNew, wKi, wKn, wTn, wOb, wPt, wTl, wOq] at hw; omega) | (simp [wSub, wRun, wNar, wFil, wCan, wLst, wCar, wDr, wFl, wMq, wRd, wRx, wCr, wTab, wTr, wNew, wKi, wKn, wTn, wOb, wPt, wTl, wOq] at hw; done) | (simp [wSub, wRun, wNar, wFil, wCan, wLst, wCar, wDr, wFl, wMq, wRd, wRx, wCr, wTab, wTr, wNew, wKi, wKn, wTn, wOb, wPt, wTl, wOq] at hw; omega))
            have k22_9 := fM.ld (o := 22) (j := 9) (by intro hw; first | omega | (dsimp only [wSub, wRun, wNar, wFil, wCan, wLst, wCar, wDr, wFl, wMq, wRd, wRx, wCr, wTab, wTr, wNew, wKi, wKn, wTn, wOb, wPt, wTl, wOq] at hw; omega) | (simp [wSub, wRun, wNar, wFil, wCan, wLst, wCar, wDr, wFl, wMq, wRd, wRx, wCr, wTab, wTr, wNew, wKi, wKn, wTn, wOb, wPt, wTl, wOq] at hw; done) | (simp [wSub, wRun, wNar, wFil, wCan, wLst, wCar, wDr, wFl, wMq, wRd, wRx, wCr, wTab, wTr, wNew, wKi, wKn, wTn, wOb, wPt, wTl, wOq] at hw; omega))
            have k22_10 := fM.ld (o := 22) (j := 10) (by intro hw; first | omega | (dsimp only [wSub, wRun, wNar, wFil, wCan, wLst, wCar, wDr, wFl, wMq, wRd, wRx, wCr, wTab, wTr, wNew, wKi, wKn, wTn, wOb, wPt, wTl, wOq] at hw; omega) | (simp [wSub, wRun, wNar, wFil, wCan, wLst, wCar, wDr, wFl, wMq, wRd, wRx, wCr, wTab, wTr, wNew, wKi, wKn, wTn, wOb, wPt, wTl, wOq] at hw; done) | (simp [wSub, wRun, wNar, wFil, wCan, wLst, wCar, wDr, wFl, wMq, wRd, wRx, wCr, wTab, wTr, wNew, wKi, wKn, wTn, wOb, wPt, wTl, wOq] at hw; omega))
            have k1_0 := fM.ld (o := 1) (j := 0) (by intro hw; first | omega | (dsimp only [wSub, wRun, wNar, wFil, wCan, wLst, wCar, wDr, wFl, wMq, wRd, wRx, wCr, wTab, wTr, wNew, wKi, wKn, wTn, wOb, wPt, wTl, wOq] at hw; omega) | (simp [wSub, wRun, wNar, wFil, wCan, wLst, wCar, wDr, wFl, wMq, wRd, wRx, wCr, wTab, wTr, wNew, wKi, wKn, wTn, wOb, wPt, wTl, wOq] at hw; done) | (simp [wSub, wRun, wNar, wFil, wCan, wLst, wCar, wDr, wFl, wMq, wRd, wRx, wCr, wTab, wTr, wNew, wKi, wKn, wTn, wOb, wPt, wTl, wOq] at hw; omega))
            have e58 := hM7
            have w58 : ld M 22 10 ≠ 0 → ld M7 22 8 = ld M 22 8 + ct (fun κ => Fl T f k n (ld M (24 + x1.toNat)) κ ∧ WH T k n (nK f κ)) (UV k n) := fun q => by
              have := hw q
              rw [e58, ld_same (by omega), z8, o50.1, b01_t (q50.elim (fun q => q.2) (fun q => absurd q.1 (by omega))), o50.2]
              omega
            replace t25 : ld M7 22 7 = ld M 22 7 + ct (Fl T f k n (ld M (24 + x1.toNat))) (UV k n) := by rw [e58, ld_putne (by omega)]; exact t25
            have e58b : ld M7 53 = ld M5 53 := funext fun j => by rw [e58, ld_putne (by omega)]
            rw [← e58b] at b25 d25
            have e58c : ld M7 54 = ld M5 54 := funext fun j => by rw [e58, ld_putne (by omega)]
            try rw [← e58c] at l38
            have w68 : ld M 22 10 ≠ 0 → ld M7 22 8 = ld M 22 8 + ct (fun κ => Fl T f k n (ld M (24 + x1.toNat)) κ ∧ WH T k n (nK f κ)) (UV k n) := by first | exact (fun q => absurd (by omega) q) | exact w58 | exact w50 (by assumption)
            have s68 : SRQ T f k n (Fl T f k n (ld M (24 + x1.toNat))) M M7 := ⟨t25, b25, d25, w68⟩
            refine uX7_goOn_68 (fun hc => ?_) (fun hc => ?_)
            · skip
              refine uX7_goOn_83 ?_
              refine uX7_goOn_84 (by first | omega | assumption | with_reducible exact rng_ld _ _ _ | with_reducible exact rng_yand _ _ | with_reducible exact rng_yor _ _ | with_reducible exact rng_zcmp _ _ | with_reducible exact yand7 _ | with_reducible exact rng_toInt _ | with_reducible exact yarr23 (by omega) | with_reducible exact yarr57 (by omega) | with_reducible exact Or.inl rfl | with_reducible exact Or.inr rfl) ?_
              exact kont _ _ fM (by first | exact Or.inl ⟨rfl, s68, by omega⟩ | exact Or.inr ⟨rfl, by omega, by omega, by omega, fun e => by first | exact ⟨_, lfl.1, lfl.2, l38⟩ | exact absurd e (by omega)⟩)
            · skip
              refine uX7_goOn_79 ?_
              refine uX7_goOn_84 (by first | omega | assumption | with_reducible exact rng_ld _ _ _ | with_reducible exact rng_yand _ _ | with_reducible exact rng_yor _ _ | with_reducible exact rng_zcmp _ _ | with_reducible exact yand7 _ | with_reducible exact rng_toInt _ | with_reducible exact yarr23 (by omega) | with_reducible exact yarr57 (by omega) | with_reducible exact Or.inl rfl | with_reducible exact Or.inr rfl) ?_
              exact kont _ _ fM (by first | exact Or.inl ⟨rfl, s68, by omega⟩ | exact Or.inr ⟨rfl, by omega, by omega, by omega, fun e => by first | exact ⟨_, lfl.1, lfl.2, l38⟩ | exact absurd e (by omega)⟩)
    · skip
      refine uX7_goOn_17 (by first | omega | assumption | with_reducible exact rng_ld _ _ _ | with_reducible exact rng_yand _ _ | with_reducible exact rng_yor _ _ | with_reducible exact rng_zcmp _ _ | with_reducible exact yand7 _ | with_reducible exact rng_toInt _ | with_reducible exact yarr23 (by omega) | with_reducible exact yarr57 (by omega) | with_reducible exact Or.inl rfl | with_reducible exact Or.inr rfl) (fun hc => ?_) (fun hc => ?_)
      · skip
        exfalso
        omega
      · skip
        have nb25 : v0 = -1 := by
          rcases q0 with q | ⟨i, c, i1, ic, cn, e, om⟩
          · exact q.1
          · exfalso
            have op := opc_p hn2 ⟨i1, ic, cn⟩ (by rw [← e]; exact om)
            omega
        have q25 := q0.elim (fun q => q.2) (fun ⟨i, c, i1, ic, cn, e, om⟩ => by exfalso; omega)
        have oo25 : OneOp n (ld M (24 + x1.toNat)) := one_op hk8 hn2 sn hT.2.1 ne (by
          by_cases z : ld M 22 10 = 0
          · exact q25.1 z
          · exact fun p q q' _ e => absurd e (q25.2 z p q))
        have pb25 := pd_bd hT hn8 sn ne oo25
        have cn25 : ct (Fl T f k n (ld M (24 + x1.toNat))) (UV k n) = pd (fun q => (ld M (24 + x1.toNat)) (8 * q.1 + q.2)) 8 (prs n) := (cn_one hT hn2 sn cl oo25).trans (pd_k hk8 hn2 sn)
        have lfl := low_fl hT hn8 hL oo25
        refine uX7_goOn_25 ?_
        refine XC.deep (d' := d + 2) (n7_takeBox  (d := 0) hn (by first | omega | assumption | with_reducible exact rng_ld _ _ _ | with_reducible exact rng_yand _ _ | with_reducible exact rng_yor _ _ | with_reducible exact rng_zcmp _ _ | with_reducible exact yand7 _ | with_reducible exact rng_toInt _ | with_reducible exact yarr23 (by omega) | with_reducible exact yarr57 (by omega) | with_reducible exact Or.inl rfl | with_reducible exact Or.inr rfl) (yarr23 (by omega)) (by omega) (fun p q a b c => by have := (sn p q a (by omega) (by omega) c (by omega)).1; omega) pb25 (by omega) (fun M8 fM8 p8a p8b => ?_)) (by omega)
        replace fM := fM.tr fM8 (by intro o j hw; first | omega | exact hw | (dsimp only [wSub, wRun, wNar, wFil, wCan, wLst, wCar, wDr, wFl, wMq, wRd, wRx, wCr, wTab, wTr, wNew, wKi, wKn, wTn, wOb, wPt, wTl, wOq] at hw; dsimp only [wSub, wRun, wNar, wFil, wCan, wLst, wCar, wDr, wFl, wMq, wRd, wRx, wCr, wTab, wTr, wNew, wKi, wKn, wTn, wOb, wPt, wTl, wOq]; omega) | (dsimp only [wSub, wRun, wNar, wFil, wCan, wLst, wCar, wDr, wFl, wMq, wRd, wRx, wCr, wTab, wTr, wNew, wKi, wKn, wTn, wOb, wPt, wTl, wOq]; omega) | (dsimp only [wSub, wRun, wNar, wFil, wCan, wLst, wCar, wDr, wFl, wMq, wRd, wRx, wCr, wTab, wTr, wNew, wKi, wKn, wTn, wOb, wPt, wTl, wOq] at hw; omega) | (simp [wSub, wRun, wNar, wFil, wCan, wLst, wCar, wDr, wFl, wMq, wRd, wRx, wCr, wTab, wTr, wNew, wKi, wKn, wTn, wOb, wPt, wTl, wOq] at hw; simp [wSub, wRun, wNar, wFil, wCan, wLst, wCar, wDr, wFl, wMq, wRd, wRx, wCr, wTab, wTr, wNew, wKi, wKn, wTn, wOb, wPt, wTl, wOq]; omega))
        have k22_6 := fM.ld (o := 22) (j := 6) (by intro hw; first | omega | (dsimp only [wSub, wRun, wNar, wFil, wCan, wLst, wCar, wDr, wFl, wMq, wRd, wRx, wCr, wTab, wTr, wNew, wKi, wKn, wTn, wOb, wPt, wTl, wOq] at hw; omega) | (simp [wSub, wRun, wNar, wFil, wCan, wLst, wCar, wDr, wFl, wMq, wRd, wRx, wCr, wTab, wTr, wNew, wKi, wKn, wTn, wOb, wPt, wTl, wOq] at hw; done) | (simp [wSub, wRun, wNar, wFil, wCan, wLst, wCar, wDr, wFl, wMq, wRd, wRx, wCr, wTab, wTr, wNew, wKi, wKn, wTn, wOb, wPt, wTl, wOq] at hw; omega))
        have k22_9 := fM.ld (o := 22) (j := 9) (by intro hw; first | omega | (dsimp only [wSub, wRun, wNar, wFil, wCan, wLst, wCar, wDr, wFl, wMq, wRd, wRx, wCr, wTab, wTr, wNew, wKi, wKn, wTn, wOb, wPt, wTl, wOq] at hw; omega) | (simp [wSub, wRun, wNar, wFil, wCan, wLst, wCar, wDr, wFl, wMq, wRd, wRx, wCr, wTab, wTr, wNew, wKi, wKn, wTn, wOb, wPt, wTl, wOq] at hw; done) | (simp [wSub, wRun, wNar, wFil, wCan, wLst, wCar, wDr, wFl, wMq, wRd, wRx, wCr, wTab, wTr, wNew, wKi, wKn, wTn, wOb, wPt, wTl, wOq] at hw; omega))
        have k22_10 := fM.ld (o := 22) (j := 10) (by intro hw; first | omega | (dsimp only [wSub, wRun, wNar, wFil, wCan, wLst, wCar, wDr, wFl, wMq, wRd, wRx, wCr, wTab, wTr, wNew, wKi, wKn, wTn, wOb, wPt, wTl, wOq] at hw; omega) | (simp [wSub, wRun, wNar, wFil, wCan, wLst, wCar, wDr, wFl, wMq, wRd, wRx, wCr, wTab, wTr, wNew, wKi, wKn, wTn, wOb, wPt, wTl, wOq] at hw; done) | (simp [wSub, wRun, wNar, wFil, wCan, wLst, wCar, wDr, wFl, wMq, wRd, wRx, wCr, wTab, wTr, wNew, wKi, wKn, wTn, wOb, wPt, wTl, wOq] at hw; omega))
        have k1_0 := fM.ld (o := 1) (j := 0) (by intro hw; first | omega | (dsimp only [wSub, wRun, wNar, wFil, wCan, wLst, wCar, wDr, wFl, wMq, wRd, wRx, wCr, wTab, wTr, wNew, wKi, wKn, wTn, wOb, wPt, wTl, wOq] at hw; omega) | (simp [wSub, wRun, wNar, wFil, wCan, wLst, wCar, wDr, wFl, wMq, wRd, wRx, wCr, wTab, wTr, wNew, wKi, wKn, wTn, wOb, wPt, wTl, wOq] at hw; done) | (simp [wSub, wRun, wNar, wFil, wCan, wLst, wCar, wDr, wFl, wMq, wRd, wRx, wCr, wTab, wTr, wNew, wKi, wKn, wTn, wOb, wPt, wTl, wOq] at hw; omega))
        have t25 : ld M8 22 7 = ld M 22 7 + ct (Fl T f k n (ld M (24 + x1.toNat))) (UV k n) := by rw [p8a, cn25]
        have sb25 := sbx_bq hT hn8 hL oo25 p8b hD
        have b25 := sb25.1
        have d25 := sb25.2
        have x25 : ld M8 (24 + x1.toNat) = (ld M (24 + x1.toNat)) := funext fun j => fM.ld (by omega)
        have z8 : ld M8 22 8 = ld M 22 8 := fM8.ld (by omega)
        have p25 := pb25.2
        refine uX7_goOn_30 (fun hc => ?_) (fun hc => ?_)
        · skip
          have x43 : ld M8 (24 + x1.toNat) = (ld M (24 + x1.toNat)) := funext fun j => fM.ld (by omega)
          refine uX7_goOn_43 (fun hc => ?_) (fun hc => ?_)
          · skip
            have w68 : ld M 22 10 ≠ 0 → ld M8 22 8 = ld M 22 8 + ct (fun κ => Fl T f k n (ld M (24 + x1.toNat)) κ ∧ WH T k n (nK f κ)) (UV k n) := by first | exact (fun q => absurd (by omega) q) | exact w58 | exact w50 (by assumption)
            have s68 : SRQ T f k n (Fl T f k n (ld M (24 + x1.toNat))) M M8 := ⟨t25, b25, d25, w68⟩
            refine uX7_goOn_68 (fun hc => ?_) (fun hc => ?_)
            · skip
              refine uX7_goOn_83 ?_
              refine uX7_goOn_84 (by first | omega | assumption | with_reducible exact rng_ld _ _ _ | with_reducible exact rng_yand _ _ | with_reducible exact rng_yor _ _ | with_reducible exact rng_zcmp _ _ | with_reducible exact yand7 _ | with_reducible exact rng_toInt _ | with_reducible exact yarr23 (by omega) | with_reducible exact yarr57 (by omega) | with_reducible exact Or.inl rfl | with_reducible exact Or.inr rfl) ?_
              exact kont _ _ fM (by first | exact Or.inl ⟨rfl, s68, by omega⟩ | exact Or.inr ⟨rfl, by omega, by omega, by omega, fun e => by first | exact ⟨_, lfl.1, lfl.2, l38⟩ | exact absurd e (by omega)⟩)
            · skip
              refine uX7_goOn_79 ?_
              refine uX7_goOn_84 (by first | omega | assumption | with_reducible exact rng_ld _ _ _ | with_reducible exact rng_yand _ _ | with_reducible exact rng_yor _ _ | with_reducible exact rng_zcmp _ _ | with_reducible exact yand7 _ | with_reducible exact rng_toInt _ | with_reducible exact yarr23 (by omega) | with_reducible exact yarr57 (by omega) | with_reducible exact Or.inl rfl | with_reducible exact Or.inr rfl) ?_
              exact kont _ _ fM (by first | exact Or.inl ⟨rfl, s68, by omega⟩ | exact Or.inr ⟨rfl, by omega, by omega, by omega, fun e => by first | exact ⟨_, lfl.1, lfl.2, l38⟩ | exact absurd e (by omega)⟩)
          · skip
            refine uX7_goOn_50 ?_
            refine XC.deep (d' := d + 2) (n7_isWhole  (d := 0) (k22_6.trans hn) (by first | omega | assumption | with_reducible exact rng_ld _ _ _ | with_reducible exact rng_yand _ _ | with_reducible exact rng_yor _ _ | with_reducible exact rng_zcmp _ _ | with_reducible exact yand7 _ | with_reducible exact rng_toInt _ | with_reducible exact yarr23 (by omega) | with_reducible exact yarr57 (by omega) | with_reducible exact Or.inl rfl | with_reducible exact Or.inr rfl) (yarr23 (by omega)) (hCT.fr fM (by (first | (dsimp only [wNo]; omega) | omega)) (fun _ => by (first | (dsimp only [wNo]; omega) | omega)) (fun _ => by (first | (dsimp only [wNo]; omega) | omega))) (by rw [x43]; exact sn) (by rw [x43]; exact ne) ((hBT (by omega)).fr fM (fun _ => by omega)) (fun v50 p9a => ?_)) (by omega)
            have q50 := p9a
            rw [x43] at q50
            have o50 := one_fl hT hn8 sn cl ne (q25.2 (by omega))
            have w50 : v50 = 0 → ld M 22 10 ≠ 0 → ld M8 22 8 = ld M 22 8 + ct (fun κ => Fl T f k n (ld M (24 + x1.toNat)) κ ∧ WH T k n (nK f κ)) (UV k n) := fun e _ => by
              rw [o50.1, b01_f (q50.elim (fun q => absurd q.1 (by omega)) (fun q => q.2))]
              omega
            refine uX7_goOn_55 (by first | omega | assumption | with_reducible exact rng_ld _ _ _ | with_reducible exact rng_yand _ _ | with_reducible exact rng_yor _ _ | with_reducible exact rng_zcmp _ _ | with_reducible exact yand7 _ | with_reducible exact rng_toInt _ | with_reducible exact yarr23 (by omega) | with_reducible exact yarr57 (by omega) | with_reducible exact Or.inl rfl | with_reducible exact Or.inr rfl) (fun hc => ?_) (fun hc => ?_)
            · skip
              have w68 : ld M 22 10 ≠ 0 → ld M8 22 8 = ld M 22 8 + ct (fun κ => Fl T f k n (ld M (24 + x1.toNat)) κ ∧ WH T k n (nK f κ)) (UV k n) := by first | exact (fun q => absurd (by omega) q) | exact w58 | exact w50 (by assumption)
              have s68 : SRQ T f k n (Fl T f k n (ld M (24 + x1.toNat))) M M8 := ⟨t25, b25, d25, w68⟩
              refine uX7_goOn_68 (fun hc => ?_) (fun hc => ?_)
              · skip
                refine uX7_goOn_83 ?_
                refine uX7_goOn_84 (by first | omega | assumption | with_reducible exact rng_ld _ _ _ | with_reducible exact rng_yand _ _ | with_reducible exact rng_yor _ _ | with_reducible exact rng_zcmp _ _ | with_reducible exact yand7 _ | with_reducible exact rng_toInt _ | with_reducible exact yarr23 (by omega) | with_reducible exact yarr57 (by omega) | with_reducible exact Or.inl rfl | with_reducible exact Or.inr rfl) ?_
                exact kont _ _ fM (by first | exact Or.inl ⟨rfl, s68, by omega⟩ | exact Or.inr ⟨rfl, by omega, by omega, by omega, fun e => by first | exact ⟨_, lfl.1, lfl.2, l38⟩ | exact absurd e (by omega)⟩)
              · skip
                refine uX7_goOn_79 ?_
                refine uX7_goOn_84 (by first | omega | assumption | with_reducible exact rng_ld _ _ _ | with_reducible exact rng_yand _ _ | with_reducible exact rng_yor _ _ | with_reducible exact rng_zcmp _ _ | with_reducible exact yand7 _ | with_reducible exact rng_toInt _ | with_reducible exact yarr23 (by omega) | with_reducible exact yarr57 (by omega) | with_reducible exact Or.inl rfl | with_reducible exact Or.inr rfl) ?_
                exact kont _ _ fM (by first | exact Or.inl ⟨rfl, s68, by omega⟩ | exact Or.inr ⟨rfl, by omega, by omega, by omega, fun e => by first | exact ⟨_, lfl.1, lfl.2, l38⟩ | exact absurd e (by omega)⟩)
            · skip
              refine uX7_goOn_58 ?_
              intro M10 hM10
              replace fM := fr.put fM hM10 (by first | omega | (dsimp only [wSub, wRun, wNar, wFil, wCan, wLst, wCar, wDr, wFl, wMq, wRd, wRx, wCr, wTab, wTr, wNew, wKi, wKn, wTn, wOb, wPt, wTl, wOq]; done) | (dsimp only [wSub, wRun, wNar, wFil, wCan, wLst, wCar, wDr, wFl, wMq, wRd, wRx, wCr, wTab, wTr, wNew, wKi, wKn, wTn, wOb, wPt, wTl, wOq]; omega) | (simp [wSub, wRun, wNar, wFil, wCan, wLst, wCar, wDr, wFl, wMq, wRd, wRx, wCr, wTab, wTr, wNew, wKi, wKn, wTn, wOb, wPt, wTl, wOq]; done) | (simp [wSub, wRun, wNar, wFil, wCan, wLst, wCar, wDr, wFl, wMq, wRd, wRx, wCr, wTab, wTr, wNew, wKi, wKn, wTn, wOb, wPt, wTl, wOq]; omega))
              have k22_6 := fM.ld (o := 22) (j := 6) (by intro hw; first | omega | (dsimp only [wSub, wRun, wNar, wFil, wCan, wLst, wCar, wDr, wFl, wMq, wRd, wRx, wCr, wTab, wTr, wNew, wKi, wKn, wTn, wOb, wPt, wTl, wOq] at hw; omega) | (simp [wSub, wRun, wNar, wFil, wCan, wLst, wCar, wDr, wFl, wMq, wRd, wRx, wCr, wTab, wTr, wNew, wKi, wKn, wTn, wOb, wPt, wTl, wOq] at hw; done) | (simp [wSub, wRun, wNar, wFil, wCan, wLst, wCar, wDr, wFl, wMq, wRd, wRx, wCr, wTab, wTr, wNew, wKi, wKn, wTn, wOb, wPt, wTl, wOq] at hw; omega))
              have k22_9 := fM.ld (o := 22) (j := 9) (by intro hw; first | omega | (dsimp only [wSub, wRun, wNar, wFil, wCan, wLst, wCar, wDr, wFl, wMq, wRd, wRx, wCr, wTab, wTr, wNew, wKi, wKn, wTn, wOb, wPt, wTl, wOq] at hw; omega) | (simp [wSub, wRun, wNar, wFil, wCan, wLst, wCar, wDr, wFl, wMq, wRd, wRx, wCr, wTab, wTr, wNew, wKi, wKn, wTn, wOb, wPt, wTl, wOq] at hw; done) | (simp [wSub, wRun, wNar, wFil, wCan, wLst, wCar, wDr, wFl, wMq, wRd, wRx, wCr, wTab, wTr, wNew, wKi, wKn, wTn, wOb, wPt, wTl, wOq] at hw; omega))
              have k22_10 := fM.ld (o := 22) (j := 10) (by intro hw; first | omega | (dsimp only [wSub, wRun, wNar, wFil, wCan, wLst, wCar, wDr, wFl, wMq, wRd, wRx, wCr, wTab, wTr, wNew, wKi, wKn, wTn, wOb, wPt, wTl, wOq] at hw; omega) | (simp [wSub, wRun, wNar, wFil, wCan, wLst, wCar, wDr, wFl, wMq, wRd, wRx, wCr, wTab, wTr, wNew, wKi, wKn, wTn, wOb, wPt, wTl, wOq] at hw; done) | (simp [wSub, wRun, wNar, wFil, wCan, wLst, wCar, wDr, wFl, wMq, wRd, wRx, wCr, wTab, wTr, wNew, wKi, wKn, wTn, wOb, wPt, wTl, wOq] at hw; omega))
              have k1_0 := fM.ld (o := 1) (j := 0) (by intro hw; first | omega | (dsimp only [wSub, wRun, wNar, wFil, wCan, wLst, wCar, wDr, wFl, wMq, wRd, wRx, wCr, wTab, wTr, wNew, wKi, wKn, wTn, wOb, wPt, wTl, wOq] at hw; omega) | (simp [wSub, wRun, wNar, wFil, wCan, wLst, wCar, wDr, wFl, wMq, wRd, wRx, wCr, wTab, wTr, wNew, wKi, wKn, wTn, wOb, wPt, wTl, wOq] at hw; done) | (simp [wSub, wRun, wNar, wFil, wCan, wLst, wCar, wDr, wFl, wMq, wRd, wRx, wCr, wTab, wTr, wNew, wKi, wKn, wTn, wOb, wPt, wTl, wOq] at hw; omega))
              have e58 := hM10
              have w58 : ld M 22 10 ≠ 0 → ld M10 22 8 = ld M 22 8 + ct (fun κ => Fl T f k n (ld M (24 + x1.toNat)) κ ∧ WH T k n (nK f κ)) (UV k n) := fun q => by
                have := hw q
                rw [e58, ld_same (by omega), z8, o50.1, b01_t (q50.elim (fun q => q.2) (fun q => absurd q.1 (by omega))), o50.2]
                omega
              replace t25 : ld M10 22 7 = ld M 22 7 + ct (Fl T f k n (ld M (24 + x1.toNat))) (UV k n) := by rw [e58, ld_putne (by omega)]; exact t25
              have e58b : ld M10 53 = ld M8 53 := funext fun j => by rw [e58, ld_putne (by omega)]
              rw [← e58b] at b25 d25
              have e58c : ld M10 54 = ld M8 54 := funext fun j => by rw [e58, ld_putne (by omega)]
              try rw [← e58c] at l38
              have w68 : ld M 22 10 ≠ 0 → ld M10 22 8 = ld M 22 8 + ct (fun κ => Fl T f k n (ld M (24 + x1.toNat)) κ ∧ WH T k n (nK f κ)) (UV k n) := by first | exact (fun q => absurd (by omega) q) | exact w58 | exact w50 (by assumption)
              have s68 : SRQ T f k n (Fl T f k n (ld M (24 + x1.toNat))) M M10 := ⟨t25, b25, d25, w68⟩
              refine uX7_goOn_68 (fun hc => ?_) (fun hc => ?_)
              · skip
                refine uX7_goOn_83 ?_
                refine uX7_goOn_84 (by first | omega | assumption | with_reducible exact rng_ld _ _ _ | with_reducible exact rng_yand _ _ | with_reducible exact rng_yor _ _ | with_reducible exact rng_zcmp _ _ | with_reducible exact yand7 _ | with_reducible exact rng_toInt _ | with_reducible exact yarr23 (by omega) | with_reducible exact yarr57 (by omega) | with_reducible exact Or.inl rfl | with_reducible exact Or.inr rfl) ?_
                exact kont _ _ fM (by first | exact Or.inl ⟨rfl, s68, by omega⟩ | exact Or.inr ⟨rfl, by omega, by omega, by omega, fun e => by first | exact ⟨_, lfl.1, lfl.2, l38⟩ | exact absurd e (by omega)⟩)
              · skip
                refine uX7_goOn_79 ?_
                refine uX7_goOn_84 (by first | omega | assumption | with_reducible exact rng_ld _ _ _ | with_reducible exact rng_yand _ _ | with_reducible exact rng_yor _ _ | with_reducible exact rng_zcmp _ _ | with_reducible exact yand7 _ | with_reducible exact rng_toInt _ | with_reducible exact yarr23 (by omega) | with_reducible exact yarr57 (by omega) | with_reducible exact Or.inl rfl | with_reducible exact Or.inr rfl) ?_
                exact kont _ _ fM (by first | exact Or.inl ⟨rfl, s68, by omega⟩ | exact Or.inr ⟨rfl, by omega, by omega, by omega, fun e => by first | exact ⟨_, lfl.1, lfl.2, l38⟩ | exact absurd e (by omega)⟩)
        · skip
          refine uX7_goOn_38 ?_
          refine XC.deep (d' := d + 2) (n7_takeLowest  (d := 0) (k22_6.trans hn) (by first | omega | assumption | with_reducible exact rng_ld _ _ _ | with_reducible exact rng_yand _ _ | with_reducible exact rng_yor _ _ | with_reducible exact rng_zcmp _ _ | with_reducible exact yand7 _ | with_reducible exact rng_toInt _ | with_reducible exact yarr23 (by omega) | with_reducible exact yarr57 (by omega) | with_reducible exact Or.inl rfl | with_reducible exact Or.inr rfl) (yarr23 (by omega)) (by omega) (hCT.fr fM (by (first | (dsimp only [wNo]; omega) | omega)) (fun _ => by (first | (dsimp only [wNo]; omega) | omega)) (fun _ => by (first | (dsimp only [wNo]; omega) | omega))) (by rw [x25]; exact sn) (by rw [x25]; exact ne) (by rw [x25]; exact d8) (fun M11 fM11 p11a => ?_)) (by omega)
          replace fM := fM.tr fM11 (by intro o j hw; first | omega | exact hw | (dsimp only [wSub, wRun, wNar, wFil, wCan, wLst, wCar, wDr, wFl, wMq, wRd, wRx, wCr, wTab, wTr, wNew, wKi, wKn, wTn, wOb, wPt, wTl, wOq] at hw; dsimp only [wSub, wRun, wNar, wFil, wCan, wLst, wCar, wDr, wFl, wMq, wRd, wRx, wCr, wTab, wTr, wNew, wKi, wKn, wTn, wOb, wPt, wTl, wOq]; omega) | (dsimp only [wSub, wRun, wNar, wFil, wCan, wLst, wCar, wDr, wFl, wMq, wRd, wRx, wCr, wTab, wTr, wNew, wKi, wKn, wTn, wOb, wPt, wTl, wOq]; omega) | (dsimp only [wSub, wRun, wNar, wFil, wCan, wLst, wCar, wDr, wFl, wMq, wRd, wRx, wCr, wTab, wTr, wNew, wKi, wKn, wTn, wOb, wPt, wTl, wOq] at hw; omega) | (simp [wSub, wRun, wNar, wFil, wCan, wLst, wCar, wDr, wFl, wMq, wRd, wRx, wCr, wTab, wTr, wNew, wKi, wKn, wTn, wOb, wPt, wTl, wOq] at hw; simp [wSub, wRun, wNar, wFil, wCan, wLst, wCar, wDr, wFl, wMq, wRd, wRx, wCr, wTab, wTr, wNew, wKi, wKn, wTn, wOb, wPt, wTl, wOq]; omega))
          have k22_6 := fM.ld (o := 22) (j := 6) (by intro hw; first | omega | (dsimp only [wSub, wRun, wNar, wFil, wCan, wLst, wCar, wDr, wFl, wMq, wRd, wRx, wCr, wTab, wTr, wNew, wKi, wKn, wTn, wOb, wPt, wTl, wOq] at hw; omega) | (simp [wSub, wRun, wNar, wFil, wCan, wLst, wCar, wDr, wFl, wMq, wRd, wRx, wCr, wTab, wTr, wNew, wKi, wKn, wTn, wOb, wPt, wTl, wOq] at hw; done) | (simp [wSub, wRun, wNar, wFil, wCan, wLst, wCar, wDr, wFl, wMq, wRd, wRx, wCr, wTab, wTr, wNew, wKi, wKn, wTn, wOb, wPt, wTl, wOq] at hw; omega))
          have k22_9 := fM.ld (o := 22) (j := 9) (by intro hw; first | omega | (dsimp only [wSub, wRun, wNar, wFil, wCan, wLst, wCar, wDr, wFl, wMq, wRd, wRx, wCr, wTab, wTr, wNew, wKi, wKn, wTn, wOb, wPt, wTl, wOq] at hw; omega) | (simp [wSub, wRun, wNar, wFil, wCan, wLst, wCar, wDr, wFl, wMq, wRd, wRx, wCr, wTab, wTr, wNew, wKi, wKn, wTn, wOb, wPt, wTl, wOq] at hw; done) | (simp [wSub, wRun, wNar, wFil, wCan, wLst, wCar, wDr, wFl, wMq, wRd, wRx, wCr, wTab, wTr, wNew, wKi, wKn, wTn, wOb, wPt, wTl, wOq] at hw; omega))
          have k22_10 := fM.ld (o := 22) (j := 10) (by intro hw; first | omega | (dsimp only [wSub, wRun, wNar, wFil, wCan, wLst, wCar, wDr, wFl, wMq, wRd, wRx, wCr, wTab, wTr, wNew, wKi, wKn, wTn, wOb, wPt, wTl, wOq] at hw; omega) | (simp [wSub, wRun, wNar, wFil, wCan, wLst, wCar, wDr, wFl, wMq, wRd, wRx, wCr, wTab, wTr, wNew, wKi, wKn, wTn, wOb, wPt, wTl, wOq] at hw; done) | (simp [wSub, wRun, wNar, wFil, wCan, wLst, wCar, wDr, wFl, wMq, wRd, wRx, wCr, wTab, wTr, wNew, wKi, wKn, wTn, wOb, wPt, wTl, wOq] at hw; omega))
          have k1_0 := fM.ld (o := 1) (j := 0) (by intro hw; first | omega | (dsimp only [wSub, wRun, wNar, wFil, wCan, wLst, wCar, wDr, wFl, wMq, wRd, wRx, wCr, wTab, wTr, wNew, wKi, wKn, wTn, wOb, wPt, wTl, wOq] at hw; omega) | (simp [wSub, wRun, wNar, wFil, wCan, wLst, wCar, wDr, wFl, wMq, wRd, wRx, wCr, wTab, wTr, wNew, wKi, wKn, wTn, wOb, wPt, wTl, wOq] at hw; done) | (simp [wSub, wRun, wNar, wFil, wCan, wLst, wCar, wDr, wFl, wMq, wRd, wRx, wCr, wTab, wTr, wNew, wKi, wKn, wTn, wOb, wPt, wTl, wOq] at hw; omega))
          have l38 : LK n f (fun z => low ((ld M (24 + x1.toNat)) z)) (ld M11 54) := by rw [← x25]; exact p11a
          replace t25 : ld M11 22 7 = ld M 22 7 + ct (Fl T f k n (ld M (24 + x1.toNat))) (UV k n) := by rw [fM11.ld (by omega)]; exact t25
          have e38 : ld M11 53 = ld M8 53 := funext fun j => fM11.ld (by omega)
          rw [← e38] at b25 d25
          replace z8 : ld M11 22 8 = ld M 22 8 := by rw [fM11.ld (by omega)]; exact z8
          have x43 : ld M11 (24 + x1.toNat) = (ld M (24 + x1.toNat)) := funext fun j => fM.ld (by omega)
          refine uX7_goOn_43 (fun hc => ?_) (fun hc => ?_)
          · skip
            have w68 : ld M 22 10 ≠ 0 → ld M11 22 8 = ld M 22 8 + ct (fun κ => Fl T f k n (ld M (24 + x1.toNat)) κ ∧ WH T k n (nK f κ)) (UV k n) := by first | exact (fun q => absurd (by omega) q) | exact w58 | exact w50 (by assumption)
            have s68 : SRQ T f k n (Fl T f k n (ld M (24 + x1.toNat))) M M11 := ⟨t25, b25, d25, w68⟩
            refine uX7_goOn_68 (fun hc => ?_) (fun hc => ?_)
            · skip
              refine uX7_goOn_83 ?_
              refine uX7_goOn_84 (by first | omega | assumption | with_reducible exact rng_ld _ _ _ | with_reducible exact rng_yand _ _ | with_reducible exact rng_yor _ _ | with_reducible exact rng_zcmp _ _ | with_reducible exact yand7 _ | with_reducible exact rng_toInt _ | with_reducible exact yarr23 (by omega) | with_reducible exact yarr57 (by omega) | with_reducible exact Or.inl rfl | with_reducible exact Or.inr rfl) ?_
              exact kont _ _ fM (by first | exact Or.inl ⟨rfl, s68, by omega⟩ | exact Or.inr ⟨rfl, by omega, by omega, by omega, fun e => by first | exact ⟨_, lfl.1, lfl.2, l38⟩ | exact absurd e (by omega)⟩)
            · skip
              refine uX7_goOn_79 ?_
              refine uX7_goOn_84 (by first | omega | assumption | with_reducible exact rng_ld _ _ _ | with_reducible exact rng_yand _ _ | with_reducible exact rng_yor _ _ | with_reducible exact rng_zcmp _ _ | with_reducible exact yand7 _ | with_reducible exact rng_toInt _ | with_reducible exact yarr23 (by omega) | with_reducible exact yarr57 (by omega) | with_reducible exact Or.inl rfl | with_reducible exact Or.inr rfl) ?_
              exact kont _ _ fM (by first | exact Or.inl ⟨rfl, s68, by omega⟩ | exact Or.inr ⟨rfl, by omega, by omega, by omega, fun e => by first | exact ⟨_, lfl.1, lfl.2, l38⟩ | exact absurd e (by omega)⟩)
          · skip
            refine uX7_goOn_50 ?_
            refine XC.deep (d' := d + 2) (n7_isWhole  (d := 0) (k22_6.trans hn) (by first | omega | assumption | with_reducible exact rng_ld _ _ _ | with_reducible exact rng_yand _ _ | with_reducible exact rng_yor _ _ | with_reducible exact rng_zcmp _ _ | with_reducible exact yand7 _ | with_reducible exact rng_toInt _ | with_reducible exact yarr23 (by omega) | with_reducible exact yarr57 (by omega) | with_reducible exact Or.inl rfl | with_reducible exact Or.inr rfl) (yarr23 (by omega)) (hCT.fr fM (by (first | (dsimp only [wNo]; omega) | omega)) (fun _ => by (first | (dsimp only [wNo]; omega) | omega)) (fun _ => by (first | (dsimp only [wNo]; omega) | omega))) (by rw [x43]; exact sn) (by rw [x43]; exact ne) ((hBT (by omega)).fr fM (fun _ => by omega)) (fun v50 p12a => ?_)) (by omega)
            have q50 := p12a
            rw [x43] at q50
            have o50 := one_fl hT hn8 sn cl ne (q25.2 (by omega))
            have w50 : v50 = 0 → ld M 22 10 ≠ 0 → ld M11 22 8 = ld M 22 8 + ct (fun κ => Fl T f k n (ld M (24 + x1.toNat)) κ ∧ WH T k n (nK f κ)) (UV k n) := fun e _ => by
              rw [o50.1, b01_f (q50.elim (fun q => absurd q.1 (by omega)) (fun q => q.2))]
              omega
            refine uX7_goOn_55 (by first | omega | assumption | with_reducible exact rng_ld _ _ _ | with_reducible exact rng_yand _ _ | with_reducible exact rng_yor _ _ | with_reducible exact rng_zcmp _ _ | with_reducible exact yand7 _ | with_reducible exact rng_toInt _ | with_reducible exact yarr23 (by omega) | with_reducible exact yarr57 (by omega) | with_reducible exact Or.inl rfl | with_reducible exact Or.inr rfl) (fun hc => ?_) (fun hc => ?_)
            · skip
              have w68 : ld M 22 10 ≠ 0 → ld M11 22 8 = ld M 22 8 + ct (fun κ => Fl T f k n (ld M (24 + x1.toNat)) κ ∧ WH T k n (nK f κ)) (UV k n) := by first | exact (fun q => absurd (by omega) q) | exact w58 | exact w50 (by assumption)
              have s68 : SRQ T f k n (Fl T f k n (ld M (24 + x1.toNat))) M M11 := ⟨t25, b25, d25, w68⟩
              refine uX7_goOn_68 (fun hc => ?_) (fun hc => ?_)
              · skip
                refine uX7_goOn_83 ?_
                refine uX7_goOn_84 (by first | omega | assumption | with_reducible exact rng_ld _ _ _ | with_reducible exact rng_yand _ _ | with_reducible exact rng_yor _ _ | with_reducible exact rng_zcmp _ _ | with_reducible exact yand7 _ | with_reducible exact rng_toInt _ | with_reducible exact yarr23 (by omega) | with_reducible exact yarr57 (by omega) | with_reducible exact Or.inl rfl | with_reducible exact Or.inr rfl) ?_
                exact kont _ _ fM (by first | exact Or.inl ⟨rfl, s68, by omega⟩ | exact Or.inr ⟨rfl, by omega, by omega, by omega, fun e => by first | exact ⟨_, lfl.1, lfl.2, l38⟩ | exact absurd e (by omega)⟩)
              · skip
                refine uX7_goOn_79 ?_
                refine uX7_goOn_84 (by first | omega | assumption | with_reducible exact rng_ld _ _ _ | with_reducible exact rng_yand _ _ | with_reducible exact rng_yor _ _ | with_reducible exact rng_zcmp _ _ | with_reducible exact yand7 _ | with_reducible exact rng_toInt _ | with_reducible exact yarr23 (by omega) | with_reducible exact yarr57 (by omega) | with_reducible exact Or.inl rfl | with_reducible exact Or.inr rfl) ?_
                exact kont _ _ fM (by first | exact Or.inl ⟨rfl, s68, by omega⟩ | exact Or.inr ⟨rfl, by omega, by omega, by omega, fun e => by first | exact ⟨_, lfl.1, lfl.2, l38⟩ | exact absurd e (by omega)⟩)
            · skip
              refine uX7_goOn_58 ?_
              intro M13 hM13
              replace fM := fr.put fM hM13 (by first | omega | (dsimp only [wSub, wRun, wNar, wFil, wCan, wLst, wCar, wDr, wFl, wMq, wRd, wRx, wCr, wTab, wTr, wNew, wKi, wKn, wTn, wOb, wPt, wTl, wOq]; done) | (dsimp only [wSub, wRun, wNar, wFil, wCan, wLst, wCar, wDr, wFl, wMq, wRd, wRx, wCr, wTab, wTr, wNew, wKi, wKn, wTn, wOb, wPt, wTl, wOq]; omega) | (simp [wSub, wRun, wNar, wFil, wCan, wLst, wCar, wDr, wFl, wMq, wRd, wRx, wCr, wTab, wTr, wNew, wKi, wKn, wTn, wOb, wPt, wTl, wOq]; done) | (simp [wSub, wRun, wNar, wFil, wCan, wLst, wCar, wDr, wFl, wMq, wRd, wRx, wCr, wTab, wTr, wNew, wKi, wKn, wTn, wOb, wPt, wTl, wOq]; omega))
              have k22_6 := fM.ld (o := 22) (j := 6) (by intro hw; first | omega | (dsimp only [wSub, wRun, wNar, wFil, wCan, wLst, wCar, wDr, wFl, wMq, wRd, wRx, wCr, wTab, wTr, wNew, wKi, wKn, wTn, wOb, wPt, wTl, wOq] at hw; omega) | (simp [wSub, wRun, wNar, wFil, wCan, wLst, wCar, wDr, wFl, wMq, wRd, wRx, wCr, wTab, wTr, wNew, wKi, wKn, wTn, wOb, wPt, wTl, wOq] at hw; done) | (simp [wSub, wRun, wNar, wFil, wCan, wLst, wCar, wDr, wFl, wMq, wRd, wRx, wCr, wTab, wTr, wNew, wKi, wKn, wTn, wOb, wPt, wTl, wOq] at hw; omega))
              have k22_9 := fM.ld (o := 22) (j := 9) (by intro hw; first | omega | (dsimp only [wSub, wRun, wNar, wFil, wCan, wLst, wCar, wDr, wFl, wMq, wRd, wRx, wCr, wTab, wTr, wNew, wKi, wKn, wTn, wOb, wPt, wTl, wOq] at hw; omega) | (simp [wSub, wRun, wNar, wFil, wCan, wLst, wCar, wDr, wFl, wMq, wRd, wRx, wCr, wTab, wTr, wNew, wKi, wKn, wTn, wOb, wPt, wTl, wOq] at hw; done) | (simp [wSub, wRun, wNar, wFil, wCan, wLst, wCar, wDr, wFl, wMq, wRd, wRx, wCr, wTab, wTr, wNew, wKi, wKn, wTn, wOb, wPt, wTl, wOq] at hw; omega))
              have k22_10 := fM.ld (o := 22) (j := 10) (by intro hw; first | omega | (dsimp only [wSub, wRun, wNar, wFil, wCan, wLst, wCar, wDr, wFl, wMq, wRd, wRx, wCr, wTab, wTr, wNew, wKi, wKn, wTn, wOb, wPt, wTl, wOq] at hw; omega) | (simp [wSub, wRun, wNar, wFil, wCan, wLst, wCar, wDr, wFl, wMq, wRd, wRx, wCr, wTab, wTr, wNew, wKi, wKn, wTn, wOb, wPt, wTl, wOq] at hw; done) | (simp [wSub, wRun, wNar, wFil, wCan, wLst, wCar, wDr, wFl, wMq, wRd, wRx, wCr, wTab, wTr, wNew, wKi, wKn, wTn, wOb, wPt, wTl, wOq] at hw; omega))
              have k1_0 := fM.ld (o := 1) (j := 0) (by intro hw; first | omega | (dsimp only [wSub, wRun, wNar, wFil, wCan, wLst, wCar, wDr, wFl, wMq, wRd, wRx, wCr, wTab, wTr, wNew, wKi, wKn, wTn, wOb, wPt, wTl, wOq] at hw; omega) | (simp [wSub, wRun, wNar, wFil, wCan, wLst, wCar, wDr, wFl, wMq, wRd, wRx, wCr, wTab, wTr, wNew, wKi, wKn, wTn, wOb, wPt, wTl, wOq] at hw; done) | (simp [wSub, wRun, wNar, wFil, wCan, wLst, wCar, wDr, wFl, wMq, wRd, wRx, wCr, wTab, wTr, wNew, wKi, wKn, wTn, wOb, wPt, wTl, wOq] at hw; omega))
              have e58 := hM13
              have w58 : ld M 22 10 ≠ 0 → ld M13 22 8 = ld M 22 8 + ct (fun κ => Fl T f k n (ld M (24 + x1.toNat)) κ ∧ WH T k n (nK f κ)) (UV k n) := fun q => by
                have := hw q
                rw [e58, ld_same (by omega), z8, o50.1, b01_t (q50.elim (fun q => q.2) (fun q => absurd q.1 (by omega))), o50.2]
                omega
              replace t25 : ld M13 22 7 = ld M 22 7 + ct (Fl T f k n (ld M (24 + x1.toNat))) (UV k n) := by rw [e58, ld_putne (by omega)]; exact t25
              have e58b : ld M13 53 = ld M11 53 := funext fun j => by rw [e58, ld_putne (by omega)]
              rw [← e58b] at b25 d25
              have e58c : ld M13 54 = ld M11 54 := funext fun j => by rw [e58, ld_putne (by omega)]
              try rw [← e58c] at l38
              have w68 : ld M 22 10 ≠ 0 → ld M13 22 8 = ld M 22 8 + ct (fun κ => Fl T f k n (ld M (24 + x1.toNat)) κ ∧ WH T k n (nK f κ)) (UV k n) := by first | exact (fun q => absurd (by omega) q) | exact w58 | exact w50 (by assumption)
              have s68 : SRQ T f k n (Fl T f k n (ld M (24 + x1.toNat))) M M13 := ⟨t25, b25, d25, w68⟩
              refine uX7_goOn_68 (fun hc => ?_) (fun hc => ?_)
              · skip
                refine uX7_goOn_83 ?_
                refine uX7_goOn_84 (by first | omega | assumption | with_reducible exact rng_ld _ _ _ | with_reducible exact rng_yand _ _ | with_reducible exact rng_yor _ _ | with_reducible exact rng_zcmp _ _ | with_reducible exact yand7 _ | with_reducible exact rng_toInt _ | with_reducible exact yarr23 (by omega) | with_reducible exact yarr57 (by omega) | with_reducible exact Or.inl rfl | with_reducible exact Or.inr rfl) ?_
                exact kont _ _ fM (by first | exact Or.inl ⟨rfl, s68, by omega⟩ | exact Or.inr ⟨rfl, by omega, by omega, by omega, fun e => by first | exact ⟨_, lfl.1, lfl.2, l38⟩ | exact absurd e (by omega)⟩)
              · skip
                refine uX7_goOn_79 ?_
                refine uX7_goOn_84 (by first | omega | assumption | with_reducible exact rng_ld _ _ _ | with_reducible exact rng_yand _ _ | with_reducible exact rng_yor _ _ | with_reducible exact rng_zcmp _ _ | with_reducible exact yand7 _ | with_reducible exact rng_toInt _ | with_reducible exact yarr23 (by omega) | with_reducible exact yarr57 (by omega) | with_reducible exact Or.inl rfl | with_reducible exact Or.inr rfl) ?_
                exact kont _ _ fM (by first | exact Or.inl ⟨rfl, s68, by omega⟩ | exact Or.inr ⟨rfl, by omega, by omega, by omega, fun e => by first | exact ⟨_, lfl.1, lfl.2, l38⟩ | exact absurd e (by omega)⟩)
  | succ m IH =>
    intro d Q M x1 hrec h1 hn hn8 hCT hL hO ht hw hD hBT kont
    refine eX7_goOn ?_
    have fM : fr (fun o j => (24 + x1 < (o : Int) ∧ o ≤ 54) ∨ (o = 22 ∧ (j = 7 ∨ j = 8))) M M := fr.rf
    have hk8 := hCT.2.1.1
    have al8 := al_le hk8
    obtain ⟨sn, cl, ne, d8⟩ := id hL
    have hT := hCT.2.1
    have hk1 := hk8.1
    have hn2 := hn8.2
    have go : ∀ N : Nat, (∀ (x2 : Nat) (x3 : Int) (x4 : Nat) (x5 : Int) (M9 : yM), fr (fun o j => (24 + x1 < (o : Int) ∧ o ≤ 54) ∨ (o = 22 ∧ (j = 7 ∨ j = 8))) M M9 → (0 ≤ x5 ∧ x5 ≤ 8) → (x2 = 24 + x1.toNat ∧ x4 = 24 + (x1 + 1).toNat ∧ x1 ≤ 27) → ((0 ≤ x3 / 8 ∧ x3 / 8 < x3 % 8 ∧ x3 % 8 < n) ∧ 0 ≤ x3 ∧ x3 < 64) → (Om (ld M (24 + x1.toNat) x3)) → (SRQ T f k n (PA T f k n (ld M (24 + x1.toNat)) (x3 / 8) (x3 % 8) x5) M M9) → (ld M9 22 7 < ld M9 22 9) → (arrSh x2 64) → (arrSh x4 64) → (8 - x5 < (N : Int)) → XW kX7_goOn (d + 3 + (m + 1)) (some .boolean) (wQi Q) 98 [some (.inr (.inr 22)), some (.inl x1), some (.inr (.inr x2)), some (.inl x3), some (.inr (.inr x4)), some (.inl x5)] [] M9) := by
      intro N
      induction N with
      | zero => intros; exfalso; omega
      | succ N ih =>
        have ih0 := ih
        clear fM
        intro x2 x3 x4 x5 M1 fM i0 i1 i2 i3 i4 i5 i6 i7 hm
        have k22_6 := fM.ld (o := 22) (j := 6) (by intro hw; first | omega | (dsimp only [wSub, wRun, wNar, wFil, wCan, wLst, wCar, wDr, wFl, wMq, wRd, wRx, wCr, wTab, wTr, wNew, wKi, wKn, wTn, wOb, wPt, wTl, wOq] at hw; omega) | (simp [wSub, wRun, wNar, wFil, wCan, wLst, wCar, wDr, wFl, wMq, wRd, wRx, wCr, wTab, wTr, wNew, wKi, wKn, wTn, wOb, wPt, wTl, wOq] at hw; done) | (simp [wSub, wRun, wNar, wFil, wCan, wLst, wCar, wDr, wFl, wMq, wRd, wRx, wCr, wTab, wTr, wNew, wKi, wKn, wTn, wOb, wPt, wTl, wOq] at hw; omega))
        have k22_9 := fM.ld (o := 22) (j := 9) (by intro hw; first | omega | (dsimp only [wSub, wRun, wNar, wFil, wCan, wLst, wCar, wDr, wFl, wMq, wRd, wRx, wCr, wTab, wTr, wNew, wKi, wKn, wTn, wOb, wPt, wTl, wOq] at hw; omega) | (simp [wSub, wRun, wNar, wFil, wCan, wLst, wCar, wDr, wFl, wMq, wRd, wRx, wCr, wTab, wTr, wNew, wKi, wKn, wTn, wOb, wPt, wTl, wOq] at hw; done) | (simp [wSub, wRun, wNar, wFil, wCan, wLst, wCar, wDr, wFl, wMq, wRd, wRx, wCr, wTab, wTr, wNew, wKi, wKn, wTn, wOb, wPt, wTl, wOq] at hw; omega))
        have k22_10 := fM.ld (o := 22) (j := 10) (by intro hw; first | omega | (dsimp only [wSub, wRun, wNar, wFil, wCan, wLst, wCar, wDr, wFl, wMq, wRd, wRx, wCr, wTab, wTr, wNew, wKi, wKn, wTn, wOb, wPt, wTl, wOq] at hw; omega) | (simp [wSub, wRun, wNar, wFil, wCan, wLst, wCar, wDr, wFl, wMq, wRd, wRx, wCr, wTab, wTr, wNew, wKi, wKn, wTn, wOb, wPt, wTl, wOq] at hw; done) | (simp [wSub, wRun, wNar, wFil, wCan, wLst, wCar, wDr, wFl, wMq, wRd, wRx, wCr, wTab, wTr, wNew, wKi, wKn, wTn, wOb, wPt, wTl, wOq] at hw; omega))
        have k1_0 := fM.ld (o := 1) (j := 0) (by intro hw; first | omega | (dsimp only [wSub, wRun, wNar, wFil, wCan, wLst, wCar, wDr, wFl, wMq, wRd, wRx, wCr, wTab, wTr, wNew, wKi, wKn, wTn, wOb, wPt, wTl, wOq] at hw; omega) | (simp [wSub, wRun, wNar, wFil, wCan, wLst, wCar, wDr, wFl, wMq, wRd, wRx, wCr, wTab, wTr, wNew, wKi, wKn, wTn, wOb, wPt, wTl, wOq] at hw; done) | (simp [wSub, wRun, wNar, wFil, wCan, wLst, wCar, wDr, wFl, wMq, wRd, wRx, wCr, wTab, wTr, wNew, wKi, wKn, wTn, wOb, wPt, wTl, wOq] at hw; omega))
        refine uX7_goOn_98 (by first | omega | assumption | with_reducible exact rng_ld _ _ _ | with_reducible exact rng_yand _ _ | with_reducible exact rng_yor _ _ | with_reducible exact rng_zcmp _ _ | with_reducible exact yand7 _ | with_reducible exact rng_toInt _ | with_reducible exact yarr23 (by omega) | with_reducible exact yarr57 (by omega) | with_reducible exact Or.inl rfl | with_reducible exact Or.inr rfl) (fun hc => ?_) (fun hc => ?_)
        · skip
          refine uX7_goOn_178 ?_
          exact kont _ _ fM (Or.inl ⟨rfl, i4.cg hk1 hn2 (fun κ v => pa_k i2.1 (by omega) v), i5⟩)
        · skip
          have e105 : ld M1 x2 = (ld M (24 + x1.toNat)) := by
            rw [i1.1]
            exact funext fun j => fM.ld (by omega)
          have pl : 8 * (x3 / 8) + x3 % 8 = x3 := by omega
          have s105 := (sn (x3 / 8) (x3 % 8) (by omega) (by omega) (by omega) (by omega) (by omega)).1
          rw [pl] at s105
          have yb := ybitZ (a := (ld M (24 + x1.toNat)) x3) (x := x5) (by omega) (by omega)
          have y01 := yand01 (yshr ((ld M (24 + x1.toNat)) x3) x5)
          refine uX7_goOn_105 (by first | assumption | exact ⟨rfl, Nat.le_of_ble_eq_true rfl⟩ | with_reducible exact yarr23 (by omega) | with_reducible exact yarr57 (by omega)) (by first | omega | assumption | with_reducible exact rng_ld _ _ _ | with_reducible exact rng_yand _ _ | with_reducible exact rng_yor _ _ | with_reducible exact rng_zcmp _ _ | with_reducible exact yand7 _ | with_reducible exact rng_toInt _ | with_reducible exact yarr23 (by omega) | with_reducible exact yarr57 (by omega) | with_reducible exact Or.inl rfl | with_reducible exact Or.inr rfl) (fun hc => ?_) (fun hc => ?_)
          · skip
            rw [e105] at hc
            have b119 : bt ((ld M (24 + x1.toNat)) x3) x5.toNat = true := yb.mp (by omega)
            have kk : 0 ≤ x5 ∧ x5 < k := ⟨by omega, by have := bt_al (by omega) s105 b119; omega⟩
            have b119p : bt ((ld M (24 + x1.toNat)) (8 * (x3 / 8) + x3 % 8)) x5.toNat = true := by rw [pl]; exact b119
            refine uX7_goOn_119 (by first | assumption | exact ⟨rfl, Nat.le_of_ble_eq_true rfl⟩ | with_reducible exact yarr23 (by omega) | with_reducible exact yarr57 (by omega)) (by first | assumption | exact ⟨rfl, Nat.le_of_ble_eq_true rfl⟩ | with_reducible exact yarr23 (by omega) | with_reducible exact yarr57 (by omega)) ?_
            intro M2 hM2
            replace fM := fr.cpy fM hM2 (by intro j hj1 hj2; exact (by first | omega | (dsimp only [wSub, wRun, wNar, wFil, wCan, wLst, wCar, wDr, wFl, wMq, wRd, wRx, wCr, wTab, wTr, wNew, wKi, wKn, wTn, wOb, wPt, wTl, wOq]; done) | (dsimp only [wSub, wRun, wNar, wFil, wCan, wLst, wCar, wDr, wFl, wMq, wRd, wRx, wCr, wTab, wTr, wNew, wKi, wKn, wTn, wOb, wPt, wTl, wOq]; omega) | (simp [wSub, wRun, wNar, wFil, wCan, wLst, wCar, wDr, wFl, wMq, wRd, wRx, wCr, wTab, wTr, wNew, wKi, wKn, wTn, wOb, wPt, wTl, wOq]; done) | (simp [wSub, wRun, wNar, wFil, wCan, wLst, wCar, wDr, wFl, wMq, wRd, wRx, wCr, wTab, wTr, wNew, wKi, wKn, wTn, wOb, wPt, wTl, wOq]; omega)))
            have k22_6 := fM.ld (o := 22) (j := 6) (by intro hw; first | omega | (dsimp only [wSub, wRun, wNar, wFil, wCan, wLst, wCar, wDr, wFl, wMq, wRd, wRx, wCr, wTab, wTr, wNew, wKi, wKn, wTn, wOb, wPt, wTl, wOq] at hw; omega) | (simp [wSub, wRun, wNar, wFil, wCan, wLst, wCar, wDr, wFl, wMq, wRd, wRx, wCr, wTab, wTr, wNew, wKi, wKn, wTn, wOb, wPt, wTl, wOq] at hw; done) | (simp [wSub, wRun, wNar, wFil, wCan, wLst, wCar, wDr, wFl, wMq, wRd, wRx, wCr, wTab, wTr, wNew, wKi, wKn, wTn, wOb, wPt, wTl, wOq] at hw; omega))
            have k22_9 := fM.ld (o := 22) (j := 9) (by intro hw; first | omega | (dsimp only [wSub, wRun, wNar, wFil, wCan, wLst, wCar, wDr, wFl, wMq, wRd, wRx, wCr, wTab, wTr, wNew, wKi, wKn, wTn, wOb, wPt, wTl, wOq] at hw; omega) | (simp [wSub, wRun, wNar, wFil, wCan, wLst, wCar, wDr, wFl, wMq, wRd, wRx, wCr, wTab, wTr, wNew, wKi, wKn, wTn, wOb, wPt, wTl, wOq] at hw; done) | (simp [wSub, wRun, wNar, wFil, wCan, wLst, wCar, wDr, wFl, wMq, wRd, wRx, wCr, wTab, wTr, wNew, wKi, wKn, wTn, wOb, wPt, wTl, wOq] at hw; omega))
            have k22_10 := fM.ld (o := 22) (j := 10) (by intro hw; first | omega | (dsimp only [wSub, wRun, wNar, wFil, wCan, wLst, wCar, wDr, wFl, wMq, wRd, wRx, wCr, wTab, wTr, wNew, wKi, wKn, wTn, wOb, wPt, wTl, wOq] at hw; omega) | (simp [wSub, wRun, wNar, wFil, wCan, wLst, wCar, wDr, wFl, wMq, wRd, wRx, wCr, wTab, wTr, wNew, wKi, wKn, wTn, wOb, wPt, wTl, wOq] at hw; done) | (simp [wSub, wRun, wNar, wFil, wCan, wLst, wCar, wDr, wFl, wMq, wRd, wRx, wCr, wTab, wTr, wNew, wKi, wKn, wTn, wOb, wPt, wTl, wOq] at hw; omega))
            have k1_0 := fM.ld (o := 1) (j := 0) (by intro hw; first | omega | (dsimp only [wSub, wRun, wNar, wFil, wCan, wLst, wCar, wDr, wFl, wMq, wRd, wRx, wCr, wTab, wTr, wNew, wKi, wKn, wTn, wOb, wPt, wTl, wOq] at hw; omega) | (simp [wSub, wRun, wNar, wFil, wCan, wLst, wCar, wDr, wFl, wMq, wRd, wRx, wCr, wTab, wTr, wNew, wKi, wKn, wTn, wOb, wPt, wTl, wOq] at hw; done) | (simp [wSub, wRun, wNar, wFil, wCan, wLst, wCar, wDr, wFl, wMq, wRd, wRx, wCr, wTab, wTr, wNew, wKi, wKn, wTn, wOb, wPt, wTl, wOq] at hw; omega))
            have e119 : EqN (ld M2 x4) (ld M (24 + x1.toNat)) := fun j a1 a2 => by
              rw [hM2, ld_cpy, if_pos ⟨rfl, a1, by omega⟩, e105]
              congr 1
              omega
            have l119 := LV1.eq hn2 hL e119
            have sm : SM M1 M2 := ⟨by rw [hM2, ld_cpyne (by omega)], by rw [hM2, ld_cpyne (by omega)], funext fun j => by rw [hM2, ld_cpyne (by omega)]⟩
            obtain ⟨s119, c119, n119, d119⟩ := id l119
            refine uX7_goOn_129 ?_
            refine XC.deep (d' := d + 3 + m) (n8_makeSingle  (d := 0) (by assumption) (by omega : 0 ≤ x3 / 8 ∧ x3 / 8 < 8) (by omega : 0 ≤ x3 % 8 ∧ x3 % 8 < 8) (by omega) kk (by omega) (hCT.fr fM (by (first | (dsimp only [wNo]; omega) | omega)) (fun _ => by (first | (dsimp only [wNo]; omega) | omega)) (fun _ => by (first | (dsimp only [wNo]; omega) | omega))) (fun M3 fM3 p3a => ?_)) (by omega)
            replace fM := fM.tr fM3 (by intro o j hw; first | omega | exact hw | (dsimp only [wSub, wRun, wNar, wFil, wCan, wLst, wCar, wDr, wFl, wMq, wRd, wRx, wCr, wTab, wTr, wNew, wKi, wKn, wTn, wOb, wPt, wTl, wOq] at hw; dsimp only [wSub, wRun, wNar, wFil, wCan, wLst, wCar, wDr, wFl, wMq, wRd, wRx, wCr, wTab, wTr, wNew, wKi, wKn, wTn, wOb, wPt, wTl, wOq]; omega) | (dsimp only [wSub, wRun, wNar, wFil, wCan, wLst, wCar, wDr, wFl, wMq, wRd, wRx, wCr, wTab, wTr, wNew, wKi, wKn, wTn, wOb, wPt, wTl, wOq]; omega) | (dsimp only [wSub, wRun, wNar, wFil, wCan, wLst, wCar, wDr, wFl, wMq, wRd, wRx, wCr, wTab, wTr, wNew, wKi, wKn, wTn, wOb, wPt, wTl, wOq] at hw; omega) | (simp [wSub, wRun, wNar, wFil, wCan, wLst, wCar, wDr, wFl, wMq, wRd, wRx, wCr, wTab, wTr, wNew, wKi, wKn, wTn, wOb, wPt, wTl, wOq] at hw; simp [wSub, wRun, wNar, wFil, wCan, wLst, wCar, wDr, wFl, wMq, wRd, wRx, wCr, wTab, wTr, wNew, wKi, wKn, wTn, wOb, wPt, wTl, wOq]; omega))
            have k22_6 := fM.ld (o := 22) (j := 6) (by intro hw; first | omega | (dsimp only [wSub, wRun, wNar, wFil, wCan, wLst, wCar, wDr, wFl, wMq, wRd, wRx, wCr, wTab, wTr, wNew, wKi, wKn, wTn, wOb, wPt, wTl, wOq] at hw; omega) | (simp [wSub, wRun, wNar, wFil, wCan, wLst, wCar, wDr, wFl, wMq, wRd, wRx, wCr, wTab, wTr, wNew, wKi, wKn, wTn, wOb, wPt, wTl, wOq] at hw; done) | (simp [wSub, wRun, wNar, wFil, wCan, wLst, wCar, wDr, wFl, wMq, wRd, wRx, wCr, wTab, wTr, wNew, wKi, wKn, wTn, wOb, wPt, wTl, wOq] at hw; omega))
            have k22_9 := fM.ld (o := 22) (j := 9) (by intro hw; first | omega | (dsimp only [wSub, wRun, wNar, wFil, wCan, wLst, wCar, wDr, wFl, wMq, wRd, wRx, wCr, wTab, wTr, wNew, wKi, wKn, wTn, wOb, wPt, wTl, wOq] at hw; omega) | (simp [wSub, wRun, wNar, wFil, wCan, wLst, wCar, wDr, wFl, wMq, wRd, wRx, wCr, wTab, wTr, wNew, wKi, wKn, wTn, wOb, wPt, wTl, wOq] at hw; done) | (simp [wSub, wRun, wNar, wFil, wCan, wLst, wCar, wDr, wFl, wMq, wRd, wRx, wCr, wTab, wTr, wNew, wKi, wKn, wTn, wOb, wPt, wTl, wOq] at hw; omega))
            have k22_10 := fM.ld (o := 22) (j := 10) (by intro hw; first | omega | (dsimp only [wSub, wRun, wNar, wFil, wCan, wLst, wCar, wDr, wFl, wMq, wRd, wRx, wCr, wTab, wTr, wNew, wKi, wKn, wTn, wOb, wPt, wTl, wOq] at hw; omega) | (simp [wSub, wRun, wNar, wFil, wCan, wLst, wCar, wDr, wFl, wMq, wRd, wRx, wCr, wTab, wTr, wNew, wKi, wKn, wTn, wOb, wPt, wTl, wOq] at hw; done) | (simp [wSub, wRun, wNar, wFil, wCan, wLst, wCar, wDr, wFl, wMq, wRd, wRx, wCr, wTab, wTr, wNew, wKi, wKn, wTn, wOb, wPt, wTl, wOq] at hw; omega))
            have k1_0 := fM.ld (o := 1) (j := 0) (by intro hw; first | omega | (dsimp only [wSub, wRun, wNar, wFil, wCan, wLst, wCar, wDr, wFl, wMq, wRd, wRx, wCr, wTab, wTr, wNew, wKi, wKn, wTn, wOb, wPt, wTl, wOq] at hw; omega) | (simp [wSub, wRun, wNar, wFil, wCan, wLst, wCar, wDr, wFl, wMq, wRd, wRx, wCr, wTab, wTr, wNew, wKi, wKn, wTn, wOb, wPt, wTl, wOq] at hw; done) | (simp [wSub, wRun, wNar, wFil, wCan, wLst, wCar, wDr, wFl, wMq, wRd, wRx, wCr, wTab, wTr, wNew, wKi, wKn, wTn, wOb, wPt, wTl, wOq] at hw; omega))
            replace sm := sm.fr fM3 (by omega) (by omega) (fun _ => by omega)
            have e129 : ld M3 x4 = sng f k (ld M2 x4) (x3 / 8) (x3 % 8) x5 := p3a
            have fl129 : ∀ κ, Fl T f k n (sng f k (ld M (24 + x1.toNat)) (x3 / 8) (x3 % 8) x5) κ ↔ Fl T f k n (ld M3 x4) κ := fun κ => by rw [e129]; exact fl_eq hn2 (sng_eq e119.sy _ _ _)
            have s129 : SN f k n (ld M3 x4) := by rw [e129]; exact sng_sn s119 hk8 hT.2.1 hn2 i2.1 kk
            have n129 : Ne n (ld M3 x4) := by rw [e129]; exact n119.up hk8 hT.2.1 hn2 (by omega) (by omega) (se_bit hk8 kk).1 (se_bit hk8 kk).2
            have pp : pi2 (x3 / 8) (x3 % 8) = x3 := by unfold pi2; rw [if_pos (by omega)]; exact pl
            have eb : Sub (yshl 1 x5) (ld M2 x4 (8 * (x3 / 8) + x3 % 8)) := by rw [e119 _ (by omega) (by omega)]; exact (sub_b1 (by omega)).mpr b119p
            have u129 : VS T k n (ld M3 x4) (lbt (zshl 1 x3)) := by
              rw [e129]
              exact (c119.vs (D := fun _ => false)).up hT hn2 s119 (by omega) (by omega) (by omega) (se_bit hk8 kk).1 eb (fun p p1 p2 q => by
                rw [lbt_one (by omega) p1, decide_eq_false_iff_not] at q
                exact ⟨rfl, by rw [pp]; exact q⟩)
            have t129 : TV n (lbt (zshl 1 x3)) := fun p p1 p2 q => by
              rw [lbt_one (by omega) p1, decide_eq_true_eq] at q
              exact ⟨x3 / 8, x3 % 8, by omega, by omega, by omega, by omega⟩
            have d129 : D8 (ld M3 x4) := by rw [e129]; exact sng_d8 d119 (by omega)
            have o129 : ∀ Y, SN f k n Y → Sb n Y (ld M3 x4) → opc n Y < opc n (ld M (24 + x1.toNat)) := fun Y hY hs => by
              rw [← opc_eq hn2 e119]
              rw [e129] at hs
              exact opc_lt hT hn2 s119 hY n119 i2.1 kk (by rw [e119 _ (by omega) (by omega)]; exact b119p) (by rw [e119 _ (by omega) (by omega), pl]; exact i3) hs
            have s7 := fun κ (v : KV k n κ) => pa_s hT hn2 sn i2.1 kk b119p v
            refine uX7_goOn_141 ?_
            refine XC.deep (d' := d + 3 + m) (n8_settles  (d := 0) (by assumption) (k22_6.trans hn) (by first | omega | assumption | with_reducible exact rng_ld _ _ _ | with_reducible exact rng_yand _ _ | with_reducible exact rng_yor _ _ | with_reducible exact rng_zcmp _ _ | with_reducible exact yand7 _ | with_reducible exact rng_toInt _ | with_reducible exact yarr23 (by omega) | with_reducible exact yarr57 (by omega) | with_reducible exact Or.inl rfl | with_reducible exact Or.inr rfl) (by omega) (hCT.fr fM (by (first | (dsimp only [wNo]; omega) | omega)) (fun _ => by (first | (dsimp only [wNo]; omega) | omega)) (fun _ => by (first | (dsimp only [wNo]; omega) | omega))) s129 n129 u129 t129 (fun v141 M4 fM4 p4a => ?_)) (by omega)
            replace fM := fM.tr fM4 (by intro o j hw; first | omega | exact hw | (dsimp only [wSub, wRun, wNar, wFil, wCan, wLst, wCar, wDr, wFl, wMq, wRd, wRx, wCr, wTab, wTr, wNew, wKi, wKn, wTn, wOb, wPt, wTl, wOq] at hw; dsimp only [wSub, wRun, wNar, wFil, wCan, wLst, wCar, wDr, wFl, wMq, wRd, wRx, wCr, wTab, wTr, wNew, wKi, wKn, wTn, wOb, wPt, wTl, wOq]; omega) | (dsimp only [wSub, wRun, wNar, wFil, wCan, wLst, wCar, wDr, wFl, wMq, wRd, wRx, wCr, wTab, wTr, wNew, wKi, wKn, wTn, wOb, wPt, wTl, wOq]; omega) | (dsimp only [wSub, wRun, wNar, wFil, wCan, wLst, wCar, wDr, wFl, wMq, wRd, wRx, wCr, wTab, wTr, wNew, wKi, wKn, wTn, wOb, wPt, wTl, wOq] at hw; omega) | (simp [wSub, wRun, wNar, wFil, wCan, wLst, wCar, wDr, wFl, wMq, wRd, wRx, wCr, wTab, wTr, wNew, wKi, wKn, wTn, wOb, wPt, wTl, wOq] at hw; simp [wSub, wRun, wNar, wFil, wCan, wLst, wCar, wDr, wFl, wMq, wRd, wRx, wCr, wTab, wTr, wNew, wKi, wKn, wTn, wOb, wPt, wTl, wOq]; omega))
            have k22_6 := fM.ld (o := 22) (j := 6) (by intro hw; first | omega | (dsimp only [wSub, wRun, wNar, wFil, wCan, wLst, wCar, wDr, wFl, wMq, wRd, wRx, wCr, wTab, wTr, wNew, wKi, wKn, wTn, wOb, wPt, wTl, wOq] at hw; omega) | (simp [wSub, wRun, wNar, wFil, wCan, wLst, wCar, wDr, wFl, wMq, wRd, wRx, wCr, wTab, wTr, wNew, wKi, wKn, wTn, wOb, wPt, wTl, wOq] at hw; done) | (simp [wSub, wRun, wNar, wFil, wCan, wLst, wCar, wDr, wFl, wMq, wRd, wRx, wCr, wTab, wTr, wNew, wKi, wKn, wTn, wOb, wPt, wTl, wOq] at hw; omega))
            have k22_9 := fM.ld (o := 22) (j := 9) (by intro hw; first | omega | (dsimp only [wSub, wRun, wNar, wFil, wCan, wLst, wCar, wDr, wFl, wMq, wRd, wRx, wCr, wTab, wTr, wNew, wKi, wKn, wTn, wOb, wPt, wTl, wOq] at hw; omega) | (simp [wSub, wRun, wNar, wFil, wCan, wLst, wCar, wDr, wFl, wMq, wRd, wRx, wCr, wTab, wTr, wNew, wKi, wKn, wTn, wOb, wPt, wTl, wOq] at hw; done) | (simp [wSub, wRun, wNar, wFil, wCan, wLst, wCar, wDr, wFl, wMq, wRd, wRx, wCr, wTab, wTr, wNew, wKi, wKn, wTn, wOb, wPt, wTl, wOq] at hw; omega))
            have k22_10 := fM.ld (o := 22) (j := 10) (by intro hw; first | omega | (dsimp only [wSub, wRun, wNar, wFil, wCan, wLst, wCar, wDr, wFl, wMq, wRd, wRx, wCr, wTab, wTr, wNew, wKi, wKn, wTn, wOb, wPt, wTl, wOq] at hw; omega) | (simp [wSub, wRun, wNar, wFil, wCan, wLst, wCar, wDr, wFl, wMq, wRd, wRx, wCr, wTab, wTr, wNew, wKi, wKn, wTn, wOb, wPt, wTl, wOq] at hw; done) | (simp [wSub, wRun, wNar, wFil, wCan, wLst, wCar, wDr, wFl, wMq, wRd, wRx, wCr, wTab, wTr, wNew, wKi, wKn, wTn, wOb, wPt, wTl, wOq] at hw; omega))
            have k1_0 := fM.ld (o := 1) (j := 0) (by intro hw; first | omega | (dsimp only [wSub, wRun, wNar, wFil, wCan, wLst, wCar, wDr, wFl, wMq, wRd, wRx, wCr, wTab, wTr, wNew, wKi, wKn, wTn, wOb, wPt, wTl, wOq] at hw; omega) | (simp [wSub, wRun, wNar, wFil, wCan, wLst, wCar, wDr, wFl, wMq, wRd, wRx, wCr, wTab, wTr, wNew, wKi, wKn, wTn, wOb, wPt, wTl, wOq] at hw; done) | (simp [wSub, wRun, wNar, wFil, wCan, wLst, wCar, wDr, wFl, wMq, wRd, wRx, wCr, wTab, wTr, wNew, wKi, wKn, wTn, wOb, wPt, wTl, wOq] at hw; omega))
            have q141 := p4a
            replace sm := sm.fr fM4 (by omega) (by omega) (fun _ => by omega)
            have sm7 := sm.1
            have z157 : v141 = 0 → SRQ T f k n (PA T f k n (ld M (24 + x1.toNat)) (x3 / 8) (x3 % 8) (x5 + 1)) M M4 := fun e => (i4.mv sm.1 sm.2.1 sm.2.2).cg hk1 hn2 (fun κ v => by
              have w := s7 κ v
              have nf := fl_no hT hn2 (q141.elim (fun q => absurd q.1 (by omega)) (fun q => q.2)) v
              exact ⟨fun q => w.1.mpr (Or.inl q), fun q => (w.1.mp q).elim (fun q => q) (fun q => absurd ((fl129 κ).mp q) nf)⟩)
            have h160 : v141 ≠ 0 → SOK T f k n (ld M3 x4) (ld M4 x4) := fun e => q141.elim (fun q => q.2) (fun q => absurd q.1 e)
            refine uX7_goOn_157 (by first | omega | assumption | with_reducible exact rng_ld _ _ _ | with_reducible exact rng_yand _ _ | with_reducible exact rng_yor _ _ | with_reducible exact rng_zcmp _ _ | with_reducible exact yand7 _ | with_reducible exact rng_toInt _ | with_reducible exact yarr23 (by omega) | with_reducible exact yarr57 (by omega) | with_reducible exact Or.inl rfl | with_reducible exact Or.inr rfl) (fun hc => ?_) (fun hc => ?_)
            · skip
              refine uX7_goOn_172 ?_
              exact ih0 _ _ _ _ M4 fM (by first | omega | assumption | with_reducible exact rng_ld _ _ _ | with_reducible exact rng_yand _ _ | with_reducible exact rng_yor _ _ | with_reducible exact rng_zcmp _ _ | with_reducible exact yand7 _ | with_reducible exact rng_toInt _ | with_reducible exact yarr23 (by omega) | with_reducible exact yarr57 (by omega) | with_reducible exact Or.inl rfl | with_reducible exact Or.inr rfl) (by first | exact ⟨rfl, rfl, by omega⟩ | assumption) (by first | assumption | exact g85) (by first | assumption | exact o85) (by first | exact SRQ.no hk1 hn2 (fun κ v => pa_0 g85.1 v) hD | exact i4.cg hk1 hn2 (fun κ v => (pa_n hT hn2 sn i2.1 (by omega) n105 v).symm) | exact z157 (by assumption) | exact z167 (by assumption)) (by first | exact ht.2.1 | exact i5 | exact n160 (by assumption) | omega) (by first | assumption | exact ⟨rfl, Nat.le_of_ble_eq_true rfl⟩ | with_reducible exact yarr23 (by omega) | with_reducible exact yarr57 (by omega)) (by first | assumption | exact ⟨rfl, Nat.le_of_ble_eq_true rfl⟩ | with_reducible exact yarr23 (by omega) | with_reducible exact yarr57 (by omega)) (by omega)
            · skip
              have ok160 := h160 (by assumption)
              have l141 : LV1 T f k n (ld M4 x4) := ⟨ok160.1, ok160.2.1, ok160.2.2.1, fun d a b => (ok160.2.2.2.2.2 d a b).trans (d129 d a b)⟩
              have o160 := o129 _ ok160.1 ok160.2.2.2.1
              have k10c := k22_10
              have k9c := k22_9
              have t160 := i4.t0
              have w160 : ld M4 22 10 ≠ 0 → 0 ≤ ld M4 22 8 ∧ ld M4 22 8 ≤ ld M4 22 7 := fun q => by
                rw [sm.1, sm.2.1]
                exact i4.ww hk1 hn2 hw (by omega)
              have f160 : ∀ κ, KV k n κ → (Fl T f k n (ld M4 x4) κ ↔ Fl T f k n (sng f k (ld M (24 + x1.toNat)) (x3 / 8) (x3 % 8) x5) κ) := fun κ v => (fl_sok hT hn2 ok160 v).symm.trans (fl129 κ).symm
              refine uX7_goOn_160 ?_
              refine XC.deep (d' := d + 3 + m) (IH (d := d) (by omega) (by omega) (k22_6.trans hn) (by first | omega | assumption | with_reducible exact rng_ld _ _ _ | with_reducible exact rng_yand _ _ | with_reducible exact rng_yor _ _ | with_reducible exact rng_zcmp _ _ | with_reducible exact yand7 _ | with_reducible exact rng_toInt _ | with_reducible exact yarr23 (by omega) | with_reducible exact yarr57 (by omega) | with_reducible exact Or.inl rfl | with_reducible exact Or.inr rfl) (hCT.fr fM (by (first | (dsimp only [wNo]; omega) | omega)) (fun _ => by (first | (dsimp only [wNo]; omega) | omega)) (fun _ => by (first | (dsimp only [wNo]; omega) | omega))) (by rw [← i1.2.1]; exact l141) (by rw [← i1.2.1]; omega) (by omega) w160 (by rw [sm.2.2]; exact i4.2.2.1) (fun q => (hBT (by omega)).fr fM (fun _ => by omega)) (fun v160 M5 fM5 p5a => ?_)) (by omega)
              replace fM := fM.tr fM5 (by intro o j hw; first | omega | exact hw | (dsimp only [wSub, wRun, wNar, wFil, wCan, wLst, wCar, wDr, wFl, wMq, wRd, wRx, wCr, wTab, wTr, wNew, wKi, wKn, wTn, wOb, wPt, wTl, wOq] at hw; dsimp only [wSub, wRun, wNar, wFil, wCan, wLst, wCar, wDr, wFl, wMq, wRd, wRx, wCr, wTab, wTr, wNew, wKi, wKn, wTn, wOb, wPt, wTl, wOq]; omega) | (dsimp only [wSub, wRun, wNar, wFil, wCan, wLst, wCar, wDr, wFl, wMq, wRd, wRx, wCr, wTab, wTr, wNew, wKi, wKn, wTn, wOb, wPt, wTl, wOq]; omega) | (dsimp only [wSub, wRun, wNar, wFil, wCan, wLst, wCar, wDr, wFl, wMq, wRd, wRx, wCr, wTab, wTr, wNew, wKi, wKn, wTn, wOb, wPt, wTl, wOq] at hw; omega) | (simp [wSub, wRun, wNar, wFil, wCan, wLst, wCar, wDr, wFl, wMq, wRd, wRx, wCr, wTab, wTr, wNew, wKi, wKn, wTn, wOb, wPt, wTl, wOq] at hw; simp [wSub, wRun, wNar, wFil, wCan, wLst, wCar, wDr, wFl, wMq, wRd, wRx, wCr, wTab, wTr, wNew, wKi, wKn, wTn, wOb, wPt, wTl, wOq]; omega))
              have k22_6 := fM.ld (o := 22) (j := 6) (by intro hw; first | omega | (dsimp only [wSub, wRun, wNar, wFil, wCan, wLst, wCar, wDr, wFl, wMq, wRd, wRx, wCr, wTab, wTr, wNew, wKi, wKn, wTn, wOb, wPt, wTl, wOq] at hw; omega) | (simp [wSub, wRun, wNar, wFil, wCan, wLst, wCar, wDr, wFl, wMq, wRd, wRx, wCr, wTab, wTr, wNew, wKi, wKn, wTn, wOb, wPt, wTl, wOq] at hw; done) | (simp [wSub, wRun, wNar, wFil, wCan, wLst, wCar, wDr, wFl, wMq, wRd, wRx, wCr, wTab, wTr, wNew, wKi, wKn, wTn, wOb, wPt, wTl, wOq] at hw; omega))
              have k22_9 := fM.ld (o := 22) (j := 9) (by intro hw; first | omega | (dsimp only [wSub, wRun, wNar, wFil, wCan, wLst, wCar, wDr, wFl, wMq, wRd, wRx, wCr, wTab, wTr, wNew, wKi, wKn, wTn, wOb, wPt, wTl, wOq] at hw; omega) | (simp [wSub, wRun, wNar, wFil, wCan, wLst, wCar, wDr, wFl, wMq, wRd, wRx, wCr, wTab, wTr, wNew, wKi, wKn, wTn, wOb, wPt, wTl, wOq] at hw; done) | (simp [wSub, wRun, wNar, wFil, wCan, wLst, wCar, wDr, wFl, wMq, wRd, wRx, wCr, wTab, wTr, wNew, wKi, wKn, wTn, wOb, wPt, wTl, wOq] at hw; omega))
              have k22_10 := fM.ld (o := 22) (j := 10) (by intro hw; first | omega | (dsimp only [wSub, wRun, wNar, wFil, wCan, wLst, wCar, wDr, wFl, wMq, wRd, wRx, wCr, wTab, wTr, wNew, wKi, wKn, wTn, wOb, wPt, wTl, wOq] at hw; omega) | (simp [wSub, wRun, wNar, wFil, wCan, wLst, wCar, wDr, wFl, wMq, wRd, wRx, wCr, wTab, wTr, wNew, wKi, wKn, wTn, wOb, wPt, wTl, wOq] at hw; done) | (simp [wSub, wRun, wNar, wFil, wCan, wLst, wCar, wDr, wFl, wMq, wRd, wRx, wCr, wTab, wTr, wNew, wKi, wKn, wTn, wOb, wPt, wTl, wOq] at hw; omega))
              have k1_0 := fM.ld (o := 1) (j := 0) (by intro hw; first | omega | (dsimp only [wSub, wRun, wNar, wFil, wCan, wLst, wCar, wDr, wFl, wMq, wRd, wRx, wCr, wTab, wTr, wNew, wKi, wKn, wTn, wOb, wPt, wTl, wOq] at hw; omega) | (simp [wSub, wRun, wNar, wFil, wCan, wLst, wCar, wDr, wFl, wMq, wRd, wRx, wCr, wTab, wTr, wNew, wKi, wKn, wTn, wOb, wPt, wTl, wOq] at hw; done) | (simp [wSub, wRun, wNar, wFil, wCan, wLst, wCar, wDr, wFl, wMq, wRd, wRx, wCr, wTab, wTr, wNew, wKi, wKn, wTn, wOb, wPt, wTl, wOq] at hw; omega))
              have q160 := p5a
              rw [← i1.2.1] at q160
              have z167 : v160 = 0 → SRQ T f k n (PA T f k n (ld M (24 + x1.toNat)) (x3 / 8) (x3 % 8) (x5 + 1)) M M5 := fun e => SRQ.tr hk1 hn2 (i4.mv sm.1 sm.2.1 sm.2.2) (q160.elim (fun q => q.2.1) (fun q => absurd q.1 (by omega))) k10c (fun κ v => by
                have w := s7 κ v
                rw [← f160 κ v] at w
                exact w)
              have n160 : v160 = 0 → ld M5 22 7 < ld M5 22 9 := fun e => q160.elim (fun q => q.2.2) (fun q => absurd q.1 (by omega))
              have p160 : v160 ≠ 0 → ENo f k n (Fl T f k n (ld M (24 + x1.toNat))) M M5 := fun e => ENo.tr hk1 hn2 (i4.mv sm.1 sm.2.1 sm.2.2) (q160.elim (fun q => absurd q.1 e) (fun q => q.2)) k9c (fun κ v => ⟨fun q => ((s7 κ v).1.mpr (q.imp id (f160 κ v).mp)).1, fun q => (s7 κ v).2 ⟨q.1, (f160 κ v).mp q.2⟩⟩)
              refine uX7_goOn_167 (by first | omega | assumption | with_reducible exact rng_ld _ _ _ | with_reducible exact rng_yand _ _ | with_reducible exact rng_yor _ _ | with_reducible exact rng_zcmp _ _ | with_reducible exact yand7 _ | with_reducible exact rng_toInt _ | with_reducible exact yarr23 (by omega) | with_reducible exact yarr57 (by omega) | with_reducible exact Or.inl rfl | with_reducible exact Or.inr rfl) (fun hc => ?_) (fun hc => ?_)
              · skip
                refine uX7_goOn_172 ?_
                exact ih0 _ _ _ _ M5 fM (by first | omega | assumption | with_reducible exact rng_ld _ _ _ | with_reducible exact rng_yand _ _ | with_reducible exact rng_yor _ _ | with_reducible exact rng_zcmp _ _ | with_reducible exact yand7 _ | with_reducible exact rng_toInt _ | with_reducible exact yarr23 (by omega) | with_reducible exact yarr57 (by omega) | with_reducible exact Or.inl rfl | with_reducible exact Or.inr rfl) (by first | exact ⟨rfl, rfl, by omega⟩ | assumption) (by first | assumption | exact g85) (by first | assumption | exact o85) (by first | exact SRQ.no hk1 hn2 (fun κ v => pa_0 g85.1 v) hD | exact i4.cg hk1 hn2 (fun κ v => (pa_n hT hn2 sn i2.1 (by omega) n105 v).symm) | exact z157 (by assumption) | exact z167 (by assumption)) (by first | exact ht.2.1 | exact i5 | exact n160 (by assumption) | omega) (by first | assumption | exact ⟨rfl, Nat.le_of_ble_eq_true rfl⟩ | with_reducible exact yarr23 (by omega) | with_reducible exact yarr57 (by omega)) (by first | assumption | exact ⟨rfl, Nat.le_of_ble_eq_true rfl⟩ | with_reducible exact yarr23 (by omega) | with_reducible exact yarr57 (by omega)) (by omega)
              · skip
                refine uX7_goOn_170 ?_
                exact kont _ _ fM (Or.inr ⟨rfl, p160 (by assumption)⟩)
          · skip
            rw [e105] at hc
            have n105 : bt ((ld M (24 + x1.toNat)) (8 * (x3 / 8) + x3 % 8)) x5.toNat ≠ true := by
              rw [pl]
              exact fun q => by have := yb.mpr q; omega
            refine uX7_goOn_116 ?_
            refine uX7_goOn_172 ?_
            exact ih0 _ _ _ _ M1 fM (by first | omega | assumption | with_reducible exact rng_ld _ _ _ | with_reducible exact rng_yand _ _ | with_reducible exact rng_yor _ _ | with_reducible exact rng_zcmp _ _ | with_reducible exact yand7 _ | with_reducible exact rng_toInt _ | with_reducible exact yarr23 (by omega) | with_reducible exact yarr57 (by omega) | with_reducible exact Or.inl rfl | with_reducible exact Or.inr rfl) (by first | exact ⟨rfl, rfl, by omega⟩ | assumption) (by first | assumption | exact g85) (by first | assumption | exact o85) (by first | exact SRQ.no hk1 hn2 (fun κ v => pa_0 g85.1 v) hD | exact i4.cg hk1 hn2 (fun κ v => (pa_n hT hn2 sn i2.1 (by omega) n105 v).symm) | exact z157 (by assumption) | exact z167 (by assumption)) (by first | exact ht.2.1 | exact i5 | exact n160 (by assumption) | omega) (by first | assumption | exact ⟨rfl, Nat.le_of_ble_eq_true rfl⟩ | with_reducible exact yarr23 (by omega) | with_reducible exact yarr57 (by omega)) (by first | assumption | exact ⟨rfl, Nat.le_of_ble_eq_true rfl⟩ | with_reducible exact yarr23 (by omega) | with_reducible exact yarr57 (by omega)) (by omega)
    refine uX7_goOn_0 (by first | omega | assumption | with_reducible exact rng_ld _ _ _ | with_reducible exact rng_yand _ _ | with_reducible exact rng_yor _ _ | with_reducible exact rng_zcmp _ _ | with_reducible exact yand7 _ | with_reducible exact rng_toInt _ | with_reducible exact yarr23 (by omega) | with_reducible exact yarr57 (by omega) | with_reducible exact Or.inl rfl | with_reducible exact Or.inr rfl) ?_
    refine XC.deep (d' := d + 3 + m) (n7_narrowestOpen  (d := 0) (by omega) (yarr23 (by omega)) (fun p q a b c => by have := (sn p q a (by omega) (by omega) (by omega) (by omega)).1; omega) (fun v0 p6a => ?_)) (by omega)
    have q0 := p6a
    rw [hn] at q0
    have r0 : -1 ≤ v0 ∧ v0 < 64 := by
      rcases q0 with ⟨q, _⟩ | ⟨i, c, i1, ic, cn, e, _⟩ <;> omega
    refine uX7_goOn_12 (by first | omega | assumption | with_reducible exact rng_ld _ _ _ | with_reducible exact rng_yand _ _ | with_reducible exact rng_yor _ _ | with_reducible exact rng_zcmp _ _ | with_reducible exact yand7 _ | with_reducible exact rng_toInt _ | with_reducible exact yarr23 (by omega) | with_reducible exact yarr57 (by omega) | with_reducible exact Or.inl rfl | with_reducible exact Or.inr rfl) (fun hc => ?_) (fun hc => ?_)
    · skip
      have nb25 : v0 = -1 := by
        rcases q0 with q | ⟨i, c, i1, ic, cn, e, om⟩
        · exact q.1
        · exfalso
          have op := opc_p hn2 ⟨i1, ic, cn⟩ (by rw [← e]; exact om)
          omega
      have q25 := q0.elim (fun q => q.2) (fun ⟨i, c, i1, ic, cn, e, om⟩ => by exfalso; omega)
      have oo25 : OneOp n (ld M (24 + x1.toNat)) := one_op hk8 hn2 sn hT.2.1 ne (by
        by_cases z : ld M 22 10 = 0
        · exact q25.1 z
        · exact fun p q q' _ e => absurd e (q25.2 z p q))
      have pb25 := pd_bd hT hn8 sn ne oo25
      have cn25 : ct (Fl T f k n (ld M (24 + x1.toNat))) (UV k n) = pd (fun q => (ld M (24 + x1.toNat)) (8 * q.1 + q.2)) 8 (prs n) := (cn_one hT hn2 sn cl oo25).trans (pd_k hk8 hn2 sn)
      have lfl := low_fl hT hn8 hL oo25
      refine uX7_goOn_25 ?_
      refine XC.deep (d' := d + 3 + m) (n7_takeBox  (d := 0) hn (by first | omega | assumption | with_reducible exact rng_ld _ _ _ | with_reducible exact rng_yand _ _ | with_reducible exact rng_yor _ _ | with_reducible exact rng_zcmp _ _ | with_reducible exact yand7 _ | with_reducible exact rng_toInt _ | with_reducible exact yarr23 (by omega) | with_reducible exact yarr57 (by omega) | with_reducible exact Or.inl rfl | with_reducible exact Or.inr rfl) (yarr23 (by omega)) (by omega) (fun p q a b c => by have := (sn p q a (by omega) (by omega) c (by omega)).1; omega) pb25 (by omega) (fun M7 fM7 p7a p7b => ?_)) (by omega)
      replace fM := fM.tr fM7 (by intro o j hw; first | omega | exact hw | (dsimp only [wSub, wRun, wNar, wFil, wCan, wLst, wCar, wDr, wFl, wMq, wRd, wRx, wCr, wTab, wTr, wNew, wKi, wKn, wTn, wOb, wPt, wTl, wOq] at hw; dsimp only [wSub, wRun, wNar, wFil, wCan, wLst, wCar, wDr, wFl, wMq, wRd, wRx, wCr, wTab, wTr, wNew, wKi, wKn, wTn, wOb, wPt, wTl, wOq]; omega) | (dsimp only [wSub, wRun, wNar, wFil, wCan, wLst, wCar, wDr, wFl, wMq, wRd, wRx, wCr, wTab, wTr, wNew, wKi, wKn, wTn, wOb, wPt, wTl, wOq]; omega) | (dsimp only [wSub, wRun, wNar, wFil, wCan, wLst, wCar, wDr, wFl, wMq, wRd, wRx, wCr, wTab, wTr, wNew, wKi, wKn, wTn, wOb, wPt, wTl, wOq] at hw; omega) | (simp [wSub, wRun, wNar, wFil, wCan, wLst, wCar, wDr, wFl, wMq, wRd, wRx, wCr, wTab, wTr, wNew, wKi, wKn, wTn, wOb, wPt, wTl, wOq] at hw; simp [wSub, wRun, wNar, wFil, wCan, wLst, wCar, wDr, wFl, wMq, wRd, wRx, wCr, wTab, wTr, wNew, wKi, wKn, wTn, wOb, wPt, wTl, wOq]; omega))
      have k22_6 := fM.ld (o := 22) (j := 6) (by intro hw; first | omega | (dsimp only [wSub, wRun, wNar, wFil, wCan, wLst, wCar, wDr, wFl, wMq, wRd, wRx, wCr, wTab, wTr, wNew, wKi, wKn, wTn, wOb, wPt, wTl, wOq] at hw; omega) | (simp [wSub, wRun, wNar, wFil, wCan, wLst, wCar, wDr, wFl, wMq, wRd, wRx, wCr, wTab, wTr, wNew, wKi, wKn, wTn, wOb, wPt, wTl, wOq] at hw; done) | (simp [wSub, wRun, wNar, wFil, wCan, wLst, wCar, wDr, wFl, wMq, wRd, wRx, wCr, wTab, wTr, wNew, wKi, wKn, wTn, wOb, wPt, wTl, wOq] at hw; omega))
      have k22_9 := fM.ld (o := 22) (j := 9) (by intro hw; first | omega | (dsimp only [wSub, wRun, wNar, wFil, wCan, wLst, wCar, wDr, wFl, wMq, wRd, wRx, wCr, wTab, wTr, wNew, wKi, wKn, wTn, wOb, wPt, wTl, wOq] at hw; omega) | (simp [wSub, wRun, wNar, wFil, wCan, wLst, wCar, wDr, wFl, wMq, wRd, wRx, wCr, wTab, wTr, wNew, wKi, wKn, wTn, wOb, wPt, wTl, wOq] at hw; done) | (simp [wSub, wRun, wNar, wFil, wCan, wLst, wCar, wDr, wFl, wMq, wRd, wRx, wCr, wTab, wTr, wNew, wKi, wKn, wTn, wOb, wPt, wTl, wOq] at hw; omega))
      have k22_10 := fM.ld (o := 22) (j := 10) (by intro hw; first | omega | (dsimp only [wSub, wRun, wNar, wFil, wCan, wLst, wCar, wDr, wFl, wMq, wRd, wRx, wCr, wTab, wTr, wNew, wKi, wKn, wTn, wOb, wPt, wTl, wOq] at hw; omega) | (simp [wSub, wRun, wNar, wFil, wCan, wLst, wCar, wDr, wFl, wMq, wRd, wRx, wCr, wTab, wTr, wNew, wKi, wKn, wTn, wOb, wPt, wTl, wOq] at hw; done) | (simp [wSub, wRun, wNar, wFil, wCan, wLst, wCar, wDr, wFl, wMq, wRd, wRx, wCr, wTab, wTr, wNew, wKi, wKn, wTn, wOb, wPt, wTl, wOq] at hw; omega))
      have k1_0 := fM.ld (o := 1) (j := 0) (by intro hw; first | omega | (dsimp only [wSub, wRun, wNar, wFil, wCan, wLst, wCar, wDr, wFl, wMq, wRd, wRx, wCr, wTab, wTr, wNew, wKi, wKn, wTn, wOb, wPt, wTl, wOq] at hw; omega) | (simp [wSub, wRun, wNar, wFil, wCan, wLst, wCar, wDr, wFl, wMq, wRd, wRx, wCr, wTab, wTr, wNew, wKi, wKn, wTn, wOb, wPt, wTl, wOq] at hw; done) | (simp [wSub, wRun, wNar, wFil, wCan, wLst, wCar, wDr, wFl, wMq, wRd, wRx, wCr, wTab, wTr, wNew, wKi, wKn, wTn, wOb, wPt, wTl, wOq] at hw; omega))
      have t25 : ld M7 22 7 = ld M 22 7 + ct (Fl T f k n (ld M (24 + x1.toNat))) (UV k n) := by rw [p7a, cn25]
      have sb25 := sbx_bq hT hn8 hL oo25 p7b hD
      have b25 := sb25.1
      have d25 := sb25.2
      have x25 : ld M7 (24 + x1.toNat) = (ld M (24 + x1.toNat)) := funext fun j => fM.ld (by omega)
      have z8 : ld M7 22 8 = ld M 22 8 := fM7.ld (by omega)
      have p25 := pb25.2
      refine uX7_goOn_30 (fun hc => ?_) (fun hc => ?_)
      · skip
        have x43 : ld M7 (24 + x1.toNat) = (ld M (24 + x1.toNat)) := funext fun j => fM.ld (by omega)
        refine uX7_goOn_43 (fun hc => ?_) (fun hc => ?_)
        · skip
          have w68 : ld M 22 10 ≠ 0 → ld M7 22 8 = ld M 22 8 + ct (fun κ => Fl T f k n (ld M (24 + x1.toNat)) κ ∧ WH T k n (nK f κ)) (UV k n) := by first | exact (fun q => absurd (by omega) q) | exact w58 | exact w50 (by assumption)
          have s68 : SRQ T f k n (Fl T f k n (ld M (24 + x1.toNat))) M M7 := ⟨t25, b25, d25, w68⟩
          refine uX7_goOn_68 (fun hc => ?_) (fun hc => ?_)
          · skip
            refine uX7_goOn_83 ?_
            refine uX7_goOn_84 (by first | omega | assumption | with_reducible exact rng_ld _ _ _ | with_reducible exact rng_yand _ _ | with_reducible exact rng_yor _ _ | with_reducible exact rng_zcmp _ _ | with_reducible exact yand7 _ | with_reducible exact rng_toInt _ | with_reducible exact yarr23 (by omega) | with_reducible exact yarr57 (by omega) | with_reducible exact Or.inl rfl | with_reducible exact Or.inr rfl) ?_
            exact kont _ _ fM (by first | exact Or.inl ⟨rfl, s68, by omega⟩ | exact Or.inr ⟨rfl, by omega, by omega, by omega, fun e => by first | exact ⟨_, lfl.1, lfl.2, l38⟩ | exact absurd e (by omega)⟩)
          · skip
            refine uX7_goOn_79 ?_
            refine uX7_goOn_84 (by first | omega | assumption | with_reducible exact rng_ld _ _ _ | with_reducible exact rng_yand _ _ | with_reducible exact rng_yor _ _ | with_reducible exact rng_zcmp _ _ | with_reducible exact yand7 _ | with_reducible exact rng_toInt _ | with_reducible exact yarr23 (by omega) | with_reducible exact yarr57 (by omega) | with_reducible exact Or.inl rfl | with_reducible exact Or.inr rfl) ?_
            exact kont _ _ fM (by first | exact Or.inl ⟨rfl, s68, by omega⟩ | exact Or.inr ⟨rfl, by omega, by omega, by omega, fun e => by first | exact ⟨_, lfl.1, lfl.2, l38⟩ | exact absurd e (by omega)⟩)
        · skip
          refine uX7_goOn_50 ?_
          refine XC.deep (d' := d + 3 + m) (n7_isWhole  (d := 0) (k22_6.trans hn) (by first | omega | assumption | with_reducible exact rng_ld _ _ _ | with_reducible exact rng_yand _ _ | with_reducible exact rng_yor _ _ | with_reducible exact rng_zcmp _ _ | with_reducible exact yand7 _ | with_reducible exact rng_toInt _ | with_reducible exact yarr23 (by omega) | with_reducible exact yarr57 (by omega) | with_reducible exact Or.inl rfl | with_reducible exact Or.inr rfl) (yarr23 (by omega)) (hCT.fr fM (by (first | (dsimp only [wNo]; omega) | omega)) (fun _ => by (first | (dsimp only [wNo]; omega) | omega)) (fun _ => by (first | (dsimp only [wNo]; omega) | omega))) (by rw [x43]; exact sn) (by rw [x43]; exact ne) ((hBT (by omega)).fr fM (fun _ => by omega)) (fun v50 p8a => ?_)) (by omega)
          have q50 := p8a
          rw [x43] at q50
          have o50 := one_fl hT hn8 sn cl ne (q25.2 (by omega))
          have w50 : v50 = 0 → ld M 22 10 ≠ 0 → ld M7 22 8 = ld M 22 8 + ct (fun κ => Fl T f k n (ld M (24 + x1.toNat)) κ ∧ WH T k n (nK f κ)) (UV k n) := fun e _ => by
            rw [o50.1, b01_f (q50.elim (fun q => absurd q.1 (by omega)) (fun q => q.2))]
            omega
          refine uX7_goOn_55 (by first | omega | assumption | with_reducible exact rng_ld _ _ _ | with_reducible exact rng_yand _ _ | with_reducible exact rng_yor _ _ | with_reducible exact rng_zcmp _ _ | with_reducible exact yand7 _ | with_reducible exact rng_toInt _ | with_reducible exact yarr23 (by omega) | with_reducible exact yarr57 (by omega) | with_reducible exact Or.inl rfl | with_reducible exact Or.inr rfl) (fun hc => ?_) (fun hc => ?_)
          · skip
            have w68 : ld M 22 10 ≠ 0 → ld M7 22 8 = ld M 22 8 + ct (fun κ => Fl T f k n (ld M (24 + x1.toNat)) κ ∧ WH T k n (nK f κ)) (UV k n) := by first | exact (fun q => absurd (by omega) q) | exact w58 | exact w50 (by assumption)
            have s68 : SRQ T f k n (Fl T f k n (ld M (24 + x1.toNat))) M M7 := ⟨t25, b25, d25, w68⟩
            refine uX7_goOn_68 (fun hc => ?_) (fun hc => ?_)
            · skip
              refine uX7_goOn_83 ?_
              refine uX7_goOn_84 (by first | omega | assumption | with_reducible exact rng_ld _ _ _ | with_reducible exact rng_yand _ _ | with_reducible exact rng_yor _ _ | with_reducible exact rng_zcmp _ _ | with_reducible exact yand7 _ | with_reducible exact rng_toInt _ | with_reducible exact yarr23 (by omega) | with_reducible exact yarr57 (by omega) | with_reducible exact Or.inl rfl | with_reducible exact Or.inr rfl) ?_
              exact kont _ _ fM (by first | exact Or.inl ⟨rfl, s68, by omega⟩ | exact Or.inr ⟨rfl, by omega, by omega, by omega, fun e => by first | exact ⟨_, lfl.1, lfl.2, l38⟩ | exact absurd e (by omega)⟩)
            · skip
              refine uX7_goOn_79 ?_
              refine uX7_goOn_84 (by first | omega | assumption | with_reducible exact rng_ld _ _ _ | with_reducible exact rng_yand _ _ | with_reducible exact rng_yor _ _ | with_reducible exact rng_zcmp _ _ | with_reducible exact yand7 _ | with_reducible exact rng_toInt _ | with_reducible exact yarr23 (by omega) | with_reducible exact yarr57 (by omega) | with_reducible exact Or.inl rfl | with_reducible exact Or.inr rfl) ?_
              exact kont _ _ fM (by first | exact Or.inl ⟨rfl, s68, by omega⟩ | exact Or.inr ⟨rfl, by omega, by omega, by omega, fun e => by first | exact ⟨_, lfl.1, lfl.2, l38⟩ | exact absurd e (by omega)⟩)
          · skip
            refine uX7_goOn_58 ?_
            intro M9 hM9
            replace fM := fr.put fM hM9 (by first | omega | (dsimp only [wSub, wRun, wNar, wFil, wCan, wLst, wCar, wDr, wFl, wMq, wRd, wRx, wCr, wTab, wTr, wNew, wKi, wKn, wTn, wOb, wPt, wTl, wOq]; done) | (dsimp only [wSub, wRun, wNar, wFil, wCan, wLst, wCar, wDr, wFl, wMq, wRd, wRx, wCr, wTab, wTr, wNew, wKi, wKn, wTn, wOb, wPt, wTl, wOq]; omega) | (simp [wSub, wRun, wNar, wFil, wCan, wLst, wCar, wDr, wFl, wMq, wRd, wRx, wCr, wTab, wTr, wNew, wKi, wKn, wTn, wOb, wPt, wTl, wOq]; done) | (simp [wSub, wRun, wNar, wFil, wCan, wLst, wCar, wDr, wFl, wMq, wRd, wRx, wCr, wTab, wTr, wNew, wKi, wKn, wTn, wOb, wPt, wTl, wOq]; omega))
            have k22_6 := fM.ld (o := 22) (j := 6) (by intro hw; first | omega | (dsimp only [wSub, wRun, wNar, wFil, wCan, wLst, wCar, wDr, wFl, wMq, wRd, wRx, wCr, wTab, wTr, wNew, wKi, wKn, wTn, wOb, wPt, wTl, wOq] at hw; omega) | (simp [wSub, wRun, wNar, wFil, wCan, wLst, wCar, wDr, wFl, wMq, wRd, wRx, wCr, wTab, wTr, wNew, wKi, wKn, wTn, wOb, wPt, wTl, wOq] at hw; done) | (simp [wSub, wRun, wNar, wFil, wCan, wLst, wCar, wDr, wFl, wMq, wRd, wRx, wCr, wTab, wTr, wNew, wKi, wKn, wTn, wOb, wPt, wTl, wOq] at hw; omega))
            have k22_9 := fM.ld (o := 22) (j := 9) (by intro hw; first | omega | (dsimp only [wSub, wRun, wNar, wFil, wCan, wLst, wCar, wDr, wFl, wMq, wRd, wRx, wCr, wTab, wTr, wNew, wKi, wKn, wTn, wOb, wPt, wTl, wOq] at hw; omega) | (simp [wSub, wRun, wNar, wFil, wCan, wLst, wCar, wDr, wFl, wMq, wRd, wRx, wCr, wTab, wTr, wNew, wKi, wKn, wTn, wOb, wPt, wTl, wOq] at hw; done) | (simp [wSub, wRun, wNar, wFil, wCan, wLst, wCar, wDr, wFl, wMq, wRd, wRx, wCr, wTab, wTr, wNew, wKi, wKn, wTn, wOb, wPt, wTl, wOq] at hw; omega))
            have k22_10 := fM.ld (o := 22) (j := 10) (by intro hw; first | omega | (dsimp only [wSub, wRun, wNar, wFil, wCan, wLst, wCar, wDr, wFl, wMq, wRd, wRx, wCr, wTab, wTr, wNew, wKi, wKn, wTn, wOb, wPt, wTl, wOq] at hw; omega) | (simp [wSub, wRun, wNar, wFil, wCan, wLst, wCar, wDr, wFl, wMq, wRd, wRx, wCr, wTab, wTr, wNew, wKi, wKn, wTn, wOb, wPt, wTl, wOq] at hw; done) | (simp [wSub, wRun, wNar, wFil, wCan, wLst, wCar, wDr, wFl, wMq, wRd, wRx, wCr, wTab, wTr, wNew, wKi, wKn, wTn, wOb, wPt, wTl, wOq] at hw; omega))
            have k1_0 := fM.ld (o := 1) (j := 0) (by intro hw; first | omega | (dsimp only [wSub, wRun, wNar, wFil, wCan, wLst, wCar, wDr, wFl, wMq, wRd, wRx, wCr, wTab, wTr, wNew, wKi, wKn, wTn, wOb, wPt, wTl, wOq] at hw; omega) | (simp [wSub, wRun, wNar, wFil, wCan, wLst, wCar, wDr, wFl, wMq, wRd, wRx, wCr, wTab, wTr, wNew, wKi, wKn, wTn, wOb, wPt, wTl, wOq] at hw; done) | (simp [wSub, wRun, wNar, wFil, wCan, wLst, wCar, wDr, wFl, wMq, wRd, wRx, wCr, wTab, wTr, wNew, wKi, wKn, wTn, wOb, wPt, wTl, wOq] at hw; omega))
            have e58 := hM9
            have w58 : ld M 22 10 ≠ 0 → ld M9 22 8 = ld M 22 8 + ct (fun κ => Fl T f k n (ld M (24 + x1.toNat)) κ ∧ WH T k n (nK f κ)) (UV k n) := fun q => by
              have := hw q
              rw [e58, ld_same (by omega), z8, o50.1, b01_t (q50.elim (fun q => q.2) (fun q => absurd q.1 (by omega))), o50.2]
              omega
            replace t25 : ld M9 22 7 = ld M 22 7 + ct (Fl T f k n (ld M (24 + x1.toNat))) (UV k n) := by rw [e58, ld_putne (by omega)]; exact t25
            have e58b : ld M9 53 = ld M7 53 := funext fun j => by rw [e58, ld_putne (by omega)]
            rw [← e58b] at b25 d25
            have e58c : ld M9 54 = ld M7 54 := funext fun j => by rw [e58, ld_putne (by omega)]
            try rw [← e58c] at l38
            have w68 : ld M 22 10 ≠ 0 → ld M9 22 8 = ld M 22 8 + ct (fun κ => Fl T f k n (ld M (24 + x1.toNat)) κ ∧ WH T k n (nK f κ)) (UV k n) := by first | exact (fun q => absurd (by omega) q) | exact w58 | exact w50 (by assumption)
            have s68 : SRQ T f k n (Fl T f k n (ld M (24 + x1.toNat))) M M9 := ⟨t25, b25, d25, w68⟩
            refine uX7_goOn_68 (fun hc => ?_) (fun hc => ?_)
            · skip
              refine uX7_goOn_83 ?_
              refine uX7_goOn_84 (by first | omega | assumption | with_reducible exact rng_ld _ _ _ | with_reducible exact rng_yand _ _ | with_reducible exact rng_yor _ _ | with_reducible exact rng_zcmp _ _ | with_reducible exact yand7 _ | with_reducible exact rng_toInt _ | with_reducible exact yarr23 (by omega) | with_reducible exact yarr57 (by omega) | with_reducible exact Or.inl rfl | with_reducible exact Or.inr rfl) ?_
              exact kont _ _ fM (by first | exact Or.inl ⟨rfl, s68, by omega⟩ | exact Or.inr ⟨rfl, by omega, by omega, by omega, fun e => by first | exact ⟨_, lfl.1, lfl.2, l38⟩ | exact absurd e (by omega)⟩)
            · skip
              refine uX7_goOn_79 ?_
              refine uX7_goOn_84 (by first | omega | assumption | with_reducible exact rng_ld _ _ _ | with_reducible exact rng_yand _ _ | with_reducible exact rng_yor _ _ | with_reducible exact rng_zcmp _ _ | with_reducible exact yand7 _ | with_reducible exact rng_toInt _ | with_reducible exact yarr23 (by omega) | with_reducible exact yarr57 (by omega) | with_reducible exact Or.inl rfl | with_reducible exact Or.inr rfl) ?_
              exact kont _ _ fM (by first | exact Or.inl ⟨rfl, s68, by omega⟩ | exact Or.inr ⟨rfl, by omega, by omega, by omega, fun e => by first | exact ⟨_, lfl.1, lfl.2, l38⟩ | exact absurd e (by omega)⟩)
      · skip
        refine uX7_goOn_38 ?_
        refine XC.deep (d' := d + 3 + m) (n7_takeLowest  (d := 0) (k22_6.trans hn) (by first | omega | assumption | with_reducible exact rng_ld _ _ _ | with_reducible exact rng_yand _ _ | with_reducible exact rng_yor _ _ | with_reducible exact rng_zcmp _ _ | with_reducible exact yand7 _ | with_reducible exact rng_toInt _ | with_reducible exact yarr23 (by omega) | with_reducible exact yarr57 (by omega) | with_reducible exact Or.inl rfl | with_reducible exact Or.inr rfl) (yarr23 (by omega)) (by omega) (hCT.fr fM (by (first | (dsimp only [wNo]; omega) | omega)) (fun _ => by (first | (dsimp only [wNo]; omega) | omega)) (fun _ => by (first | (dsimp only [wNo]; omega) | omega))) (by rw [x25]; exact sn) (by rw [x25]; exact ne) (by rw [x25]; exact d8) (fun M10 fM10 p10a => ?_)) (by omega)
        replace fM := fM.tr fM10 (by intro o j hw; first | omega | exact hw | (dsimp only [wSub, wRun, wNar, wFil, wCan, wLst, wCar, wDr, wFl, wMq, wRd, wRx, wCr, wTab, wTr, wNew, wKi, wKn, wTn, wOb, wPt, wTl, wOq] at hw; dsimp only [wSub, wRun, wNar, wFil, wCan, wLst, wCar, wDr, wFl, wMq, wRd, wRx, wCr, wTab, wTr, wNew, wKi, wKn, wTn, wOb, wPt, wTl, wOq]; omega) | (dsimp only [wSub, wRun, wNar, wFil, wCan, wLst, wCar, wDr, wFl, wMq, wRd, wRx, wCr, wTab, wTr, wNew, wKi, wKn, wTn, wOb, wPt, wTl, wOq]; omega) | (dsimp only [wSub, wRun, wNar, wFil, wCan, wLst, wCar, wDr, wFl, wMq, wRd, wRx, wCr, wTab, wTr, wNew, wKi, wKn, wTn, wOb, wPt, wTl, wOq] at hw; omega) | (simp [wSub, wRun, wNar, wFil, wCan, wLst, wCar, wDr, wFl, wMq, wRd, wRx, wCr, wTab, wTr, wNew, wKi, wKn, wTn, wOb, wPt, wTl, wOq] at hw; simp [wSub, wRun, wNar, wFil, wCan, wLst, wCar, wDr, wFl, wMq, wRd, wRx, wCr, wTab, wTr, wNew, wKi, wKn, wTn, wOb, wPt, wTl, wOq]; omega))
        have k22_6 := fM.ld (o := 22) (j := 6) (by intro hw; first | omega | (dsimp only [wSub, wRun, wNar, wFil, wCan, wLst, wCar, wDr, wFl, wMq, wRd, wRx, wCr, wTab, wTr, wNew, wKi, wKn, wTn, wOb, wPt, wTl, wOq] at hw; omega) | (simp [wSub, wRun, wNar, wFil, wCan, wLst, wCar, wDr, wFl, wMq, wRd, wRx, wCr, wTab, wTr, wNew, wKi, wKn, wTn, wOb, wPt, wTl, wOq] at hw; done) | (simp [wSub, wRun, wNar, wFil, wCan, wLst, wCar, wDr, wFl, wMq, wRd, wRx, wCr, wTab, wTr, wNew, wKi, wKn, wTn, wOb, wPt, wTl, wOq] at hw; omega))
        have k22_9 := fM.ld (o := 22) (j := 9) (by intro hw; first | omega | (dsimp only [wSub, wRun, wNar, wFil, wCan, wLst, wCar, wDr, wFl, wMq, wRd, wRx, wCr, wTab, wTr, wNew, wKi, wKn, wTn, wOb, wPt, wTl, wOq] at hw; omega) | (simp [wSub, wRun, wNar, wFil, wCan, wLst, wCar, wDr, wFl, wMq, wRd, wRx, wCr, wTab, wTr, wNew, wKi, wKn, wTn, wOb, wPt, wTl, wOq] at hw; done) | (simp [wSub, wRun, wNar, wFil, wCan, wLst, wCar, wDr, wFl, wMq, wRd, wRx, wCr, wTab, wTr, wNew, wKi, wKn, wTn, wOb, wPt, wTl, wOq] at hw; omega))
        have k22_10 := fM.ld (o := 22) (j := 10) (by intro hw; first | omega | (dsimp only [wSub, wRun, wNar, wFil, wCan, wLst, wCar, wDr, wFl, wMq, wRd, wRx, wCr, wTab, wTr, wNew, wKi, wKn, wTn, wOb, wPt, wTl, wOq] at hw; omega) | (simp [wSub, wRun, wNar, wFil, wCan, wLst, wCar, wDr, wFl, wMq, wRd, wRx, wCr, wTab, wTr, wNew, wKi, wKn, wTn, wOb, wPt, wTl, wOq] at hw; done) | (simp [wSub, wRun, wNar, wFil, wCan, wLst, wCar, wDr, wFl, wMq, wRd, wRx, wCr, wTab, wTr, wNew, wKi, wKn, wTn, wOb, wPt, wTl, wOq] at hw; omega))
        have k1_0 := fM.ld (o := 1) (j := 0) (by intro hw; first | omega | (dsimp only [wSub, wRun, wNar, wFil, wCan, wLst, wCar, wDr, wFl, wMq, wRd, wRx, wCr, wTab, wTr, wNew, wKi, wKn, wTn, wOb, wPt, wTl, wOq] at hw; omega) | (simp [wSub, wRun, wNar, wFil, wCan, wLst, wCar, wDr, wFl, wMq, wRd, wRx, wCr, wTab, wTr, wNew, wKi, wKn, wTn, wOb, wPt, wTl, wOq] at hw; done) | (simp [wSub, wRun, wNar, wFil, wCan, wLst, wCar, wDr, wFl, wMq, wRd, wRx, wCr, wTab, wTr, wNew, wKi, wKn, wTn, wOb, wPt, wTl, wOq] at hw; omega))
        have l38 : LK n f (fun z => low ((ld M (24 + x1.toNat)) z)) (ld M10 54) := by rw [← x25]; exact p10a
        replace t25 : ld M10 22 7 = ld M 22 7 + ct (Fl T f k n (ld M (24 + x1.toNat))) (UV k n) := by rw [fM10.ld (by omega)]; exact t25
        have e38 : ld M10 53 = ld M7 53 := funext fun j => fM10.ld (by omega)
        rw [← e38] at b25 d25
        replace z8 : ld M10 22 8 = ld M 22 8 := by rw [fM10.ld (by omega)]; exact z8
        have x43 : ld M10 (24 + x1.toNat) = (ld M (24 + x1.toNat)) := funext fun j => fM.ld (by omega)
        refine uX7_goOn_43 (fun hc => ?_) (fun hc => ?_)
        · skip
          have w68 : ld M 22 10 ≠ 0 → ld M10 22 8 = ld M 22 8 + ct (fun κ => Fl T f k n (ld M (24 + x1.toNat)) κ ∧ WH T k n (nK f κ)) (UV k n) := by first | exact (fun q => absurd (by omega) q) | exact w58 | exact w50 (by assumption)
          have s68 : SRQ T f k n (Fl T f k n (ld M (24 + x1.toNat))) M M10 := ⟨t25, b25, d25, w68⟩
          refine uX7_goOn_68 (fun hc => ?_) (fun hc => ?_)
          · skip
            refine uX7_goOn_83 ?_
            refine uX7_goOn_84 (by first | omega | assumption | with_reducible exact rng_ld _ _ _ | with_reducible exact rng_yand _ _ | with_reducible exact rng_yor _ _ | with_reducible exact rng_zcmp _ _ | with_reducible exact yand7 _ | with_reducible exact rng_toInt _ | with_reducible exact yarr23 (by omega) | with_reducible exact yarr57 (by omega) | with_reducible exact Or.inl rfl | with_reducible exact Or.inr rfl) ?_
            exact kont _ _ fM (by first | exact Or.inl ⟨rfl, s68, by omega⟩ | exact Or.inr ⟨rfl, by omega, by omega, by omega, fun e => by first | exact ⟨_, lfl.1, lfl.2, l38⟩ | exact absurd e (by omega)⟩)
          · skip
            refine uX7_goOn_79 ?_
            refine uX7_goOn_84 (by first | omega | assumption | with_reducible exact rng_ld _ _ _ | with_reducible exact rng_yand _ _ | with_reducible exact rng_yor _ _ | with_reducible exact rng_zcmp _ _ | with_reducible exact yand7 _ | with_reducible exact rng_toInt _ | with_reducible exact yarr23 (by omega) | with_reducible exact yarr57 (by omega) | with_reducible exact Or.inl rfl | with_reducible exact Or.inr rfl) ?_
            exact kont _ _ fM (by first | exact Or.inl ⟨rfl, s68, by omega⟩ | exact Or.inr ⟨rfl, by omega, by omega, by omega, fun e => by first | exact ⟨_, lfl.1, lfl.2, l38⟩ | exact absurd e (by omega)⟩)
        · skip
          refine uX7_goOn_50 ?_
          refine XC.deep (d' := d + 3 + m) (n7_isWhole  (d := 0) (k22_6.trans hn) (by first | omega | assumption | with_reducible exact rng_ld _ _ _ | with_reducible exact rng_yand _ _ | with_reducible exact rng_yor _ _ | with_reducible exact rng_zcmp _ _ | with_reducible exact yand7 _ | with_reducible exact rng_toInt _ | with_reducible exact yarr23 (by omega) | with_reducible exact yarr57 (by omega) | with_reducible exact Or.inl rfl | with_reducible exact Or.inr rfl) (yarr23 (by omega)) (hCT.fr fM (by (first | (dsimp only [wNo]; omega) | omega)) (fun _ => by (first | (dsimp only [wNo]; omega) | omega)) (fun _ => by (first | (dsimp only [wNo]; omega) | omega))) (by rw [x43]; exact sn) (by rw [x43]; exact ne) ((hBT (by omega)).fr fM (fun _ => by omega)) (fun v50 p11a => ?_)) (by omega)
          have q50 := p11a
          rw [x43] at q50
          have o50 := one_fl hT hn8 sn cl ne (q25.2 (by omega))
          have w50 : v50 = 0 → ld M 22 10 ≠ 0 → ld M10 22 8 = ld M 22 8 + ct (fun κ => Fl T f k n (ld M (24 + x1.toNat)) κ ∧ WH T k n (nK f κ)) (UV k n) := fun e _ => by
            rw [o50.1, b01_f (q50.elim (fun q => absurd q.1 (by omega)) (fun q => q.2))]
            omega
          refine uX7_goOn_55 (by first | omega | assumption | with_reducible exact rng_ld _ _ _ | with_reducible exact rng_yand _ _ | with_reducible exact rng_yor _ _ | with_reducible exact rng_zcmp _ _ | with_reducible exact yand7 _ | with_reducible exact rng_toInt _ | with_reducible exact yarr23 (by omega) | with_reducible exact yarr57 (by omega) | with_reducible exact Or.inl rfl | with_reducible exact Or.inr rfl) (fun hc => ?_) (fun hc => ?_)
          · skip
            have w68 : ld M 22 10 ≠ 0 → ld M10 22 8 = ld M 22 8 + ct (fun κ => Fl T f k n (ld M (24 + x1.toNat)) κ ∧ WH T k n (nK f κ)) (UV k n) := by first | exact (fun q => absurd (by omega) q) | exact w58 | exact w50 (by assumption)
            have s68 : SRQ T f k n (Fl T f k n (ld M (24 + x1.toNat))) M M10 := ⟨t25, b25, d25, w68⟩
            refine uX7_goOn_68 (fun hc => ?_) (fun hc => ?_)
            · skip
              refine uX7_goOn_83 ?_
              refine uX7_goOn_84 (by first | omega | assumption | with_reducible exact rng_ld _ _ _ | with_reducible exact rng_yand _ _ | with_reducible exact rng_yor _ _ | with_reducible exact rng_zcmp _ _ | with_reducible exact yand7 _ | with_reducible exact rng_toInt _ | with_reducible exact yarr23 (by omega) | with_reducible exact yarr57 (by omega) | with_reducible exact Or.inl rfl | with_reducible exact Or.inr rfl) ?_
              exact kont _ _ fM (by first | exact Or.inl ⟨rfl, s68, by omega⟩ | exact Or.inr ⟨rfl, by omega, by omega, by omega, fun e => by first | exact ⟨_, lfl.1, lfl.2, l38⟩ | exact absurd e (by omega)⟩)
            · skip
              refine uX7_goOn_79 ?_
              refine uX7_goOn_84 (by first | omega | assumption | with_reducible exact rng_ld _ _ _ | with_reducible exact rng_yand _ _ | with_reducible exact rng_yor _ _ | with_reducible exact rng_zcmp _ _ | with_reducible exact yand7 _ | with_reducible exact rng_toInt _ | with_reducible exact yarr23 (by omega) | with_reducible exact yarr57 (by omega) | with_reducible exact Or.inl rfl | with_reducible exact Or.inr rfl) ?_
              exact kont _ _ fM (by first | exact Or.inl ⟨rfl, s68, by omega⟩ | exact Or.inr ⟨rfl, by omega, by omega, by omega, fun e => by first | exact ⟨_, lfl.1, lfl.2, l38⟩ | exact absurd e (by omega)⟩)
          · skip
            refine uX7_goOn_58 ?_
            intro M12 hM12
            replace fM := fr.put fM hM12 (by first | omega | (dsimp only [wSub, wRun, wNar, wFil, wCan, wLst, wCar, wDr, wFl, wMq, wRd, wRx, wCr, wTab, wTr, wNew, wKi, wKn, wTn, wOb, wPt, wTl, wOq]; done) | (dsimp only [wSub, wRun, wNar, wFil, wCan, wLst, wCar, wDr, wFl, wMq, wRd, wRx, wCr, wTab, wTr, wNew, wKi, wKn, wTn, wOb, wPt, wTl, wOq]; omega) | (simp [wSub, wRun, wNar, wFil, wCan, wLst, wCar, wDr, wFl, wMq, wRd, wRx, wCr, wTab, wTr, wNew, wKi, wKn, wTn, wOb, wPt, wTl, wOq]; done) | (simp [wSub, wRun, wNar, wFil, wCan, wLst, wCar, wDr, wFl, wMq, wRd, wRx, wCr, wTab, wTr, wNew, wKi, wKn, wTn, wOb, wPt, wTl, wOq]; omega))
            have k22_6 := fM.ld (o := 22) (j := 6) (by intro hw; first | omega | (dsimp only [wSub, wRun, wNar, wFil, wCan, wLst, wCar, wDr, wFl, wMq, wRd, wRx, wCr, wTab, wTr, wNew, wKi, wKn, wTn, wOb, wPt, wTl, wOq] at hw; omega) | (simp [wSub, wRun, wNar, wFil, wCan, wLst, wCar, wDr, wFl, wMq, wRd, wRx, wCr, wTab, wTr, wNew, wKi, wKn, wTn, wOb, wPt, wTl, wOq] at hw; done) | (simp [wSub, wRun, wNar, wFil, wCan, wLst, wCar, wDr, wFl, wMq, wRd, wRx, wCr, wTab, wTr, wNew, wKi, wKn, wTn, wOb, wPt, wTl, wOq] at hw; omega))
            have k22_9 := fM.ld (o := 22) (j := 9) (by intro hw; first | omega | (dsimp only [wSub, wRun, wNar, wFil, wCan, wLst, wCar, wDr, wFl, wMq, wRd, wRx, wCr, wTab, wTr, wNew, wKi, wKn, wTn, wOb, wPt, wTl, wOq] at hw; omega) | (simp [wSub, wRun, wNar, wFil, wCan, wLst, wCar, wDr, wFl, wMq, wRd, wRx, wCr, wTab, wTr, wNew, wKi, wKn, wTn, wOb, wPt, wTl, wOq] at hw; done) | (simp [wSub, wRun, wNar, wFil, wCan, wLst, wCar, wDr, wFl, wMq, wRd, wRx, wCr, wTab, wTr, wNew, wKi, wKn, wTn, wOb, wPt, wTl, wOq] at hw; omega))
            have k22_10 := fM.ld (o := 22) (j := 10) (by intro hw; first | omega | (dsimp only [wSub, wRun, wNar, wFil, wCan, wLst, wCar, wDr, wFl, wMq, wRd, wRx, wCr, wTab, wTr, wNew, wKi, wKn, wTn, wOb, wPt, wTl, wOq] at hw; omega) | (simp [wSub, wRun, wNar, wFil, wCan, wLst, wCar, wDr, wFl, wMq, wRd, wRx, wCr, wTab, wTr, wNew, wKi, wKn, wTn, wOb, wPt, wTl, wOq] at hw; done) | (simp [wSub, wRun, wNar, wFil, wCan, wLst, wCar, wDr, wFl, wMq, wRd, wRx, wCr, wTab, wTr, wNew, wKi, wKn, wTn, wOb, wPt, wTl, wOq] at hw; omega))
            have k1_0 := fM.ld (o := 1) (j := 0) (by intro hw; first | omega | (dsimp only [wSub, wRun, wNar, wFil, wCan, wLst, wCar, wDr, wFl, wMq, wRd, wRx, wCr, wTab, wTr, wNew, wKi, wKn, wTn, wOb, wPt, wTl, wOq] at hw; omega) | (simp [wSub, wRun, wNar, wFil, wCan, wLst, wCar, wDr, wFl, wMq, wRd, wRx, wCr, wTab, wTr, wNew, wKi, wKn, wTn, wOb, wPt, wTl, wOq] at hw; done) | (simp [wSub, wRun, wNar, wFil, wCan, wLst, wCar, wDr, wFl, wMq, wRd, wRx, wCr, wTab, wTr, wNew, wKi, wKn, wTn, wOb, wPt, wTl, wOq] at hw; omega))
            have e58 := hM12
            have w58 : ld M 22 10 ≠ 0 → ld M12 22 8 = ld M 22 8 + ct (fun κ => Fl T f k n (ld M (24 + x1.toNat)) κ ∧ WH T k n (nK f κ)) (UV k n) := fun q => by
              have := hw q
              rw [e58, ld_same (by omega), z8, o50.1, b01_t (q50.elim (fun q => q.2) (fun q => absurd q.1 (by omega))), o50.2]
              omega
            replace t25 : ld M12 22 7 = ld M 22 7 + ct (Fl T f k n (ld M (24 + x1.toNat))) (UV k n) := by rw [e58, ld_putne (by omega)]; exact t25
            have e58b : ld M12 53 = ld M10 53 := funext fun j => by rw [e58, ld_putne (by omega)]
            rw [← e58b] at b25 d25
            have e58c : ld M12 54 = ld M10 54 := funext fun j => by rw [e58, ld_putne (by omega)]
            try rw [← e58c] at l38
            have w68 : ld M 22 10 ≠ 0 → ld M12 22 8 = ld M 22 8 + ct (fun κ => Fl T f k n (ld M (24 + x1.toNat)) κ ∧ WH T k n (nK f κ)) (UV k n) := by first | exact (fun q => absurd (by omega) q) | exact w58 | exact w50 (by assumption)
            have s68 : SRQ T f k n (Fl T f k n (ld M (24 + x1.toNat))) M M12 := ⟨t25, b25, d25, w68⟩
            refine uX7_goOn_68 (fun hc => ?_) (fun hc => ?_)
            · skip
              refine uX7_goOn_83 ?_
              refine uX7_goOn_84 (by first | omega | assumption | with_reducible exact rng_ld _ _ _ | with_reducible exact rng_yand _ _ | with_reducible exact rng_yor _ _ | with_reducible exact rng_zcmp _ _ | with_reducible exact yand7 _ | with_reducible exact rng_toInt _ | with_reducible exact yarr23 (by omega) | with_reducible exact yarr57 (by omega) | with_reducible exact Or.inl rfl | with_reducible exact Or.inr rfl) ?_
              exact kont _ _ fM (by first | exact Or.inl ⟨rfl, s68, by omega⟩ | exact Or.inr ⟨rfl, by omega, by omega, by omega, fun e => by first | exact ⟨_, lfl.1, lfl.2, l38⟩ | exact absurd e (by omega)⟩)
            · skip
              refine uX7_goOn_79 ?_
              refine uX7_goOn_84 (by first | omega | assumption | with_reducible exact rng_ld _ _ _ | with_reducible exact rng_yand _ _ | with_reducible exact rng_yor _ _ | with_reducible exact rng_zcmp _ _ | with_reducible exact yand7 _ | with_reducible exact rng_toInt _ | with_reducible exact yarr23 (by omega) | with_reducible exact yarr57 (by omega) | with_reducible exact Or.inl rfl | with_reducible exact Or.inr rfl) ?_
              exact kont _ _ fM (by first | exact Or.inl ⟨rfl, s68, by omega⟩ | exact Or.inr ⟨rfl, by omega, by omega, by omega, fun e => by first | exact ⟨_, lfl.1, lfl.2, l38⟩ | exact absurd e (by omega)⟩)
    · skip
      refine uX7_goOn_17 (by first | omega | assumption | with_reducible exact rng_ld _ _ _ | with_reducible exact rng_yand _ _ | with_reducible exact rng_yor _ _ | with_reducible exact rng_zcmp _ _ | with_reducible exact yand7 _ | with_reducible exact rng_toInt _ | with_reducible exact yarr23 (by omega) | with_reducible exact yarr57 (by omega) | with_reducible exact Or.inl rfl | with_reducible exact Or.inr rfl) (fun hc => ?_) (fun hc => ?_)
      · skip
        have e85 := q0.resolve_left (fun q => by omega)
        obtain ⟨ii, cc, g1, g2, g3, g4, o85⟩ := e85
        have g85 : (0 ≤ v0 / 8 ∧ v0 / 8 < v0 % 8 ∧ v0 % 8 < n) ∧ 0 ≤ v0 ∧ v0 < 64 := by omega
        refine uX7_goOn_85 (by first | omega | assumption | with_reducible exact rng_ld _ _ _ | with_reducible exact rng_yand _ _ | with_reducible exact rng_yor _ _ | with_reducible exact rng_zcmp _ _ | with_reducible exact yand7 _ | with_reducible exact rng_toInt _ | with_reducible exact yarr23 (by omega) | with_reducible exact yarr57 (by omega) | with_reducible exact Or.inl rfl | with_reducible exact Or.inr rfl) ?_
        exact (go 1000000) _ _ _ _ M fM (by first | omega | assumption | with_reducible exact rng_ld _ _ _ | with_reducible exact rng_yand _ _ | with_reducible exact rng_yor _ _ | with_reducible exact rng_zcmp _ _ | with_reducible exact yand7 _ | with_reducible exact rng_toInt _ | with_reducible exact yarr23 (by omega) | with_reducible exact yarr57 (by omega) | with_reducible exact Or.inl rfl | with_reducible exact Or.inr rfl) (by first | exact ⟨rfl, rfl, by omega⟩ | assumption) (by first | assumption | exact g85) (by first | assumption | exact o85) (by first | exact SRQ.no hk1 hn2 (fun κ v => pa_0 g85.1 v) hD | exact i4.cg hk1 hn2 (fun κ v => (pa_n hT hn2 sn i2.1 (by omega) n105 v).symm) | exact z157 (by assumption) | exact z167 (by assumption)) (by first | exact ht.2.1 | exact i5 | exact n160 (by assumption) | omega) (by first | assumption | exact ⟨rfl, Nat.le_of_ble_eq_true rfl⟩ | with_reducible exact yarr23 (by omega) | with_reducible exact yarr57 (by omega)) (by first | assumption | exact ⟨rfl, Nat.le_of_ble_eq_true rfl⟩ | with_reducible exact yarr23 (by omega) | with_reducible exact yarr57 (by omega)) (by omega)
      · skip
        have nb25 : v0 = -1 := by
          rcases q0 with q | ⟨i, c, i1, ic, cn, e, om⟩
          · exact q.1
          · exfalso
            have op := opc_p hn2 ⟨i1, ic, cn⟩ (by rw [← e]; exact om)
            omega
        have q25 := q0.elim (fun q => q.2) (fun ⟨i, c, i1, ic, cn, e, om⟩ => by exfalso; omega)
        have oo25 : OneOp n (ld M (24 + x1.toNat)) := one_op hk8 hn2 sn hT.2.1 ne (by
          by_cases z : ld M 22 10 = 0
          · exact q25.1 z
          · exact fun p q q' _ e => absurd e (q25.2 z p q))
        have pb25 := pd_bd hT hn8 sn ne oo25
        have cn25 : ct (Fl T f k n (ld M (24 + x1.toNat))) (UV k n) = pd (fun q => (ld M (24 + x1.toNat)) (8 * q.1 + q.2)) 8 (prs n) := (cn_one hT hn2 sn cl oo25).trans (pd_k hk8 hn2 sn)
        have lfl := low_fl hT hn8 hL oo25
        refine uX7_goOn_25 ?_
        refine XC.deep (d' := d + 3 + m) (n7_takeBox  (d := 0) hn (by first | omega | assumption | with_reducible exact rng_ld _ _ _ | with_reducible exact rng_yand _ _ | with_reducible exact rng_yor _ _ | with_reducible exact rng_zcmp _ _ | with_reducible exact yand7 _ | with_reducible exact rng_toInt _ | with_reducible exact yarr23 (by omega) | with_reducible exact yarr57 (by omega) | with_reducible exact Or.inl rfl | with_reducible exact Or.inr rfl) (yarr23 (by omega)) (by omega) (fun p q a b c => by have := (sn p q a (by omega) (by omega) c (by omega)).1; omega) pb25 (by omega) (fun M13 fM13 p13a p13b => ?_)) (by omega)
        replace fM := fM.tr fM13 (by intro o j hw; first | omega | exact hw | (dsimp only [wSub, wRun, wNar, wFil, wCan, wLst, wCar, wDr, wFl, wMq, wRd, wRx, wCr, wTab, wTr, wNew, wKi, wKn, wTn, wOb, wPt, wTl, wOq] at hw; dsimp only [wSub, wRun, wNar, wFil, wCan, wLst, wCar, wDr, wFl, wMq, wRd, wRx, wCr, wTab, wTr, wNew, wKi, wKn, wTn, wOb, wPt, wTl, wOq]; omega) | (dsimp only [wSub, wRun, wNar, wFil, wCan, wLst, wCar, wDr, wFl, wMq, wRd, wRx, wCr, wTab, wTr, wNew, wKi, wKn, wTn, wOb, wPt, wTl, wOq]; omega) | (dsimp only [wSub, wRun, wNar, wFil, wCan, wLst, wCar, wDr, wFl, wMq, wRd, wRx, wCr, wTab, wTr, wNew, wKi, wKn, wTn, wOb, wPt, wTl, wOq] at hw; omega) | (simp [wSub, wRun, wNar, wFil, wCan, wLst, wCar, wDr, wFl, wMq, wRd, wRx, wCr, wTab, wTr, wNew, wKi, wKn, wTn, wOb, wPt, wTl, wOq] at hw; simp [wSub, wRun, wNar, wFil, wCan, wLst, wCar, wDr, wFl, wMq, wRd, wRx, wCr, wTab, wTr, wNew, wKi, wKn, wTn, wOb, wPt, wTl, wOq]; omega))
        have k22_6 := fM.ld (o := 22) (j := 6) (by intro hw; first | omega | (dsimp only [wSub, wRun, wNar, wFil, wCan, wLst, wCar, wDr, wFl, wMq, wRd, wRx, wCr, wTab, wTr, wNew, wKi, wKn, wTn, wOb, wPt, wTl, wOq] at hw; omega) | (simp [wSub, wRun, wNar, wFil, wCan, wLst, wCar, wDr, wFl, wMq, wRd, wRx, wCr, wTab, wTr, wNew, wKi, wKn, wTn, wOb, wPt, wTl, wOq] at hw; done) | (simp [wSub, wRun, wNar, wFil, wCan, wLst, wCar, wDr, wFl, wMq, wRd, wRx, wCr, wTab, wTr, wNew, wKi, wKn, wTn, wOb, wPt, wTl, wOq] at hw; omega))
        have k22_9 := fM.ld (o := 22) (j := 9) (by intro hw; first | omega | (dsimp only [wSub, wRun, wNar, wFil, wCan, wLst, wCar, wDr, wFl, wMq, wRd, wRx, wCr, wTab, wTr, wNew, wKi, wKn, wTn, wOb, wPt, wTl, wOq] at hw; omega) | (simp [wSub, wRun, wNar, wFil, wCan, wLst, wCar, wDr, wFl, wMq, wRd, wRx, wCr, wTab, wTr, wNew, wKi, wKn, wTn, wOb, wPt, wTl, wOq] at hw; done) | (simp [wSub, wRun, wNar, wFil, wCan, wLst, wCar, wDr, wFl, wMq, wRd, wRx, wCr, wTab, wTr, wNew, wKi, wKn, wTn, wOb, wPt, wTl, wOq] at hw; omega))
        have k22_10 := fM.ld (o := 22) (j := 10) (by intro hw; first | omega | (dsimp only [wSub, wRun, wNar, wFil, wCan, wLst, wCar, wDr, wFl, wMq, wRd, wRx, wCr, wTab, wTr, wNew, wKi, wKn, wTn, wOb, wPt, wTl, wOq] at hw; omega) | (simp [wSub, wRun, wNar, wFil, wCan, wLst, wCar, wDr, wFl, wMq, wRd, wRx, wCr, wTab, wTr, wNew, wKi, wKn, wTn, wOb, wPt, wTl, wOq] at hw; done) | (simp [wSub, wRun, wNar, wFil, wCan, wLst, wCar, wDr, wFl, wMq, wRd, wRx, wCr, wTab, wTr, wNew, wKi, wKn, wTn, wOb, wPt, wTl, wOq] at hw; omega))
        have k1_0 := fM.ld (o := 1) (j := 0) (by intro hw; first | omega | (dsimp only [wSub, wRun, wNar, wFil, wCan, wLst, wCar, wDr, wFl, wMq, wRd, wRx, wCr, wTab, wTr, wNew, wKi, wKn, wTn, wOb, wPt, wTl, wOq] at hw; omega) | (simp [wSub, wRun, wNar, wFil, wCan, wLst, wCar, wDr, wFl, wMq, wRd, wRx, wCr, wTab, wTr, wNew, wKi, wKn, wTn, wOb, wPt, wTl, wOq] at hw; done) | (simp [wSub, wRun, wNar, wFil, wCan, wLst, wCar, wDr, wFl, wMq, wRd, wRx, wCr, wTab, wTr, wNew, wKi, wKn, wTn, wOb, wPt, wTl, wOq] at hw; omega))
        have t25 : ld M13 22 7 = ld M 22 7 + ct (Fl T f k n (ld M (24 + x1.toNat))) (UV k n) := by rw [p13a, cn25]
        have sb25 := sbx_bq hT hn8 hL oo25 p13b hD
        have b25 := sb25.1
        have d25 := sb25.2
        have x25 : ld M13 (24 + x1.toNat) = (ld M (24 + x1.toNat)) := funext fun j => fM.ld (by omega)
        have z8 : ld M13 22 8 = ld M 22 8 := fM13.ld (by omega)
        have p25 := pb25.2
        refine uX7_goOn_30 (fun hc => ?_) (fun hc => ?_)
        · skip
          have x43 : ld M13 (24 + x1.toNat) = (ld M (24 + x1.toNat)) := funext fun j => fM.ld (by omega)
          refine uX7_goOn_43 (fun hc => ?_) (fun hc => ?_)
          · skip
            have w68 : ld M 22 10 ≠ 0 → ld M13 22 8 = ld M 22 8 + ct (fun κ => Fl T f k n (ld M (24 + x1.toNat)) κ ∧ WH T k n (nK f κ)) (UV k n) := by first | exact (fun q => absurd (by omega) q) | exact w58 | exact w50 (by assumption)
            have s68 : SRQ T f k n (Fl T f k n (ld M (24 + x1.toNat))) M M13 := ⟨t25, b25, d25, w68⟩
            refine uX7_goOn_68 (fun hc => ?_) (fun hc => ?_)
            · skip
              refine uX7_goOn_83 ?_
              refine uX7_goOn_84 (by first | omega | assumption | with_reducible exact rng_ld _ _ _ | with_reducible exact rng_yand _ _ | with_reducible exact rng_yor _ _ | with_reducible exact rng_zcmp _ _ | with_reducible exact yand7 _ | with_reducible exact rng_toInt _ | with_reducible exact yarr23 (by omega) | with_reducible exact yarr57 (by omega) | with_reducible exact Or.inl rfl | with_reducible exact Or.inr rfl) ?_
              exact kont _ _ fM (by first | exact Or.inl ⟨rfl, s68, by omega⟩ | exact Or.inr ⟨rfl, by omega, by omega, by omega, fun e => by first | exact ⟨_, lfl.1, lfl.2, l38⟩ | exact absurd e (by omega)⟩)
            · skip
              refine uX7_goOn_79 ?_
              refine uX7_goOn_84 (by first | omega | assumption | with_reducible exact rng_ld _ _ _ | with_reducible exact rng_yand _ _ | with_reducible exact rng_yor _ _ | with_reducible exact rng_zcmp _ _ | with_reducible exact yand7 _ | with_reducible exact rng_toInt _ | with_reducible exact yarr23 (by omega) | with_reducible exact yarr57 (by omega) | with_reducible exact Or.inl rfl | with_reducible exact Or.inr rfl) ?_
              exact kont _ _ fM (by first | exact Or.inl ⟨rfl, s68, by omega⟩ | exact Or.inr ⟨rfl, by omega, by omega, by omega, fun e => by first | exact ⟨_, lfl.1, lfl.2, l38⟩ | exact absurd e (by omega)⟩)
          · skip
            refine uX7_goOn_50 ?_
            refine XC.deep (d' := d + 3 + m) (n7_isWhole  (d := 0) (k22_6.trans hn) (by first | omega | assumption | with_reducible exact rng_ld _ _ _ | with_reducible exact rng_yand _ _ | with_reducible exact rng_yor _ _ | with_reducible exact rng_zcmp _ _ | with_reducible exact yand7 _ | with_reducible exact rng_toInt _ | with_reducible exact yarr23 (by omega) | with_reducible exact yarr57 (by omega) | with_reducible exact Or.inl rfl | with_reducible exact Or.inr rfl) (yarr23 (by omega)) (hCT.fr fM (by (first | (dsimp only [wNo]; omega) | omega)) (fun _ => by (first | (dsimp only [wNo]; omega) | omega)) (fun _ => by (first | (dsimp only [wNo]; omega) | omega))) (by rw [x43]; exact sn) (by rw [x43]; exact ne) ((hBT (by omega)).fr fM (fun _ => by omega)) (fun v50 p14a => ?_)) (by omega)
            have q50 := p14a
            rw [x43] at q50
            have o50 := one_fl hT hn8 sn cl ne (q25.2 (by omega))
            have w50 : v50 = 0 → ld M 22 10 ≠ 0 → ld M13 22 8 = ld M 22 8 + ct (fun κ => Fl T f k n (ld M (24 + x1.toNat)) κ ∧ WH T k n (nK f κ)) (UV k n) := fun e _ => by
              rw [o50.1, b01_f (q50.elim (fun q => absurd q.1 (by omega)) (fun q => q.2))]
              omega
            refine uX7_goOn_55 (by first | omega | assumption | with_reducible exact rng_ld _ _ _ | with_reducible exact rng_yand _ _ | with_reducible exact rng_yor _ _ | with_reducible exact rng_zcmp _ _ | with_reducible exact yand7 _ | with_reducible exact rng_toInt _ | with_reducible exact yarr23 (by omega) | with_reducible exact yarr57 (by omega) | with_reducible exact Or.inl rfl | with_reducible exact Or.inr rfl) (fun hc => ?_) (fun hc => ?_)
            · skip
              have w68 : ld M 22 10 ≠ 0 → ld M13 22 8 = ld M 22 8 + ct (fun κ => Fl T f k n (ld M (24 + x1.toNat)) κ ∧ WH T k n (nK f κ)) (UV k n) := by first | exact (fun q => absurd (by omega) q) | exact w58 | exact w50 (by assumption)
              have s68 : SRQ T f k n (Fl T f k n (ld M (24 + x1.toNat))) M M13 := ⟨t25, b25, d25, w68⟩
              refine uX7_goOn_68 (fun hc => ?_) (fun hc => ?_)
              · skip
                refine uX7_goOn_83 ?_
                refine uX7_goOn_84 (by first | omega | assumption | with_reducible exact rng_ld _ _ _ | with_reducible exact rng_yand _ _ | with_reducible exact rng_yor _ _ | with_reducible exact rng_zcmp _ _ | with_reducible exact yand7 _ | with_reducible exact rng_toInt _ | with_reducible exact yarr23 (by omega) | with_reducible exact yarr57 (by omega) | with_reducible exact Or.inl rfl | with_reducible exact Or.inr rfl) ?_
                exact kont _ _ fM (by first | exact Or.inl ⟨rfl, s68, by omega⟩ | exact Or.inr ⟨rfl, by omega, by omega, by omega, fun e => by first | exact ⟨_, lfl.1, lfl.2, l38⟩ | exact absurd e (by omega)⟩)
              · skip
                refine uX7_goOn_79 ?_
                refine uX7_goOn_84 (by first | omega | assumption | with_reducible exact rng_ld _ _ _ | with_reducible exact rng_yand _ _ | with_reducible exact rng_yor _ _ | with_reducible exact rng_zcmp _ _ | with_reducible exact yand7 _ | with_reducible exact rng_toInt _ | with_reducible exact yarr23 (by omega) | with_reducible exact yarr57 (by omega) | with_reducible exact Or.inl rfl | with_reducible exact Or.inr rfl) ?_
                exact kont _ _ fM (by first | exact Or.inl ⟨rfl, s68, by omega⟩ | exact Or.inr ⟨rfl, by omega, by omega, by omega, fun e => by first | exact ⟨_, lfl.1, lfl.2, l38⟩ | exact absurd e (by omega)⟩)
            · skip
              refine uX7_goOn_58 ?_
              intro M15 hM15
              replace fM := fr.put fM hM15 (by first | omega | (dsimp only [wSub, wRun, wNar, wFil, wCan, wLst, wCar, wDr, wFl, wMq, wRd, wRx, wCr, wTab, wTr, wNew, wKi, wKn, wTn, wOb, wPt, wTl, wOq]; done) | (dsimp only [wSub, wRun, wNar, wFil, wCan, wLst, wCar, wDr, wFl, wMq, wRd, wRx, wCr, wTab, wTr, wNew, wKi, wKn, wTn, wOb, wPt, wTl, wOq]; omega) | (simp [wSub, wRun, wNar, wFil, wCan, wLst, wCar, wDr, wFl, wMq, wRd, wRx, wCr, wTab, wTr, wNew, wKi, wKn, wTn, wOb, wPt, wTl, wOq]; done) | (simp [wSub, wRun, wNar, wFil, wCan, wLst, wCar, wDr, wFl, wMq, wRd, wRx, wCr, wTab, wTr, wNew, wKi, wKn, wTn, wOb, wPt, wTl, wOq]; omega))
              have k22_6 := fM.ld (o := 22) (j := 6) (by intro hw; first | omega | (dsimp only [wSub, wRun, wNar, wFil, wCan, wLst, wCar, wDr, wFl, wMq, wRd, wRx, wCr, wTab, wTr, wNew, wKi, wKn, wTn, wOb, wPt, wTl, wOq] at hw; omega) | (simp [wSub, wRun, wNar, wFil, wCan, wLst, wCar, wDr, wFl, wMq, wRd, wRx, wCr, wTab, wTr, wNew, wKi, wKn, wTn, wOb, wPt, wTl, wOq] at hw; done) | (simp [wSub, wRun, wNar, wFil, wCan, wLst, wCar, wDr, wFl, wMq, wRd, wRx, wCr, wTab, wTr, wNew, wKi, wKn, wTn, wOb, wPt, wTl, wOq] at hw; omega))
              have k22_9 := fM.ld (o := 22) (j := 9) (by intro hw; first | omega | (dsimp only [wSub, wRun, wNar, wFil, wCan, wLst, wCar, wDr, wFl, wMq, wRd, wRx, wCr, wTab, wTr, wNew, wKi, wKn, wTn, wOb, wPt, wTl, wOq] at hw; omega) | (simp [wSub, wRun, wNar, wFil, wCan, wLst, wCar, wDr, wFl, wMq, wRd, wRx, wCr, wTab, wTr, wNew, wKi, wKn, wTn, wOb, wPt, wTl, wOq] at hw; done) | (simp [wSub, wRun, wNar, wFil, wCan, wLst, wCar, wDr, wFl, wMq, wRd, wRx, wCr, wTab, wTr, wNew, wKi, wKn, wTn, wOb, wPt, wTl, wOq] at hw; omega))
              have k22_10 := fM.ld (o := 22) (j := 10) (by intro hw; first | omega | (dsimp only [wSub, wRun, wNar, wFil, wCan, wLst, wCar, wDr, wFl, wMq, wRd, wRx, wCr, wTab, wTr, wNew, wKi, wKn, wTn, wOb, wPt, wTl, wOq] at hw; omega) | (simp [wSub, wRun, wNar, wFil, wCan, wLst, wCar, wDr, wFl, wMq, wRd, wRx, wCr, wTab, wTr, wNew, wKi, wKn, wTn, wOb, wPt, wTl, wOq] at hw; done) | (simp [wSub, wRun, wNar, wFil, wCan, wLst, wCar, wDr, wFl, wMq, wRd, wRx, wCr, wTab, wTr, wNew, wKi, wKn, wTn, wOb, wPt, wTl, wOq] at hw; omega))
              have k1_0 := fM.ld (o := 1) (j := 0) (by intro hw; first | omega | (dsimp only [wSub, wRun, wNar, wFil, wCan, wLst, wCar, wDr, wFl, wMq, wRd, wRx, wCr, wTab, wTr, wNew, wKi, wKn, wTn, wOb, wPt, wTl, wOq] at hw; omega) | (simp [wSub, wRun, wNar, wFil, wCan, wLst, wCar, wDr, wFl, wMq, wRd, wRx, wCr, wTab, wTr, wNew, wKi, wKn, wTn, wOb, wPt, wTl, wOq] at hw; done) | (simp [wSub, wRun, wNar, wFil, wCan, wLst, wCar, wDr, wFl, wMq, wRd, wRx, wCr, wTab, wTr, wNew, wKi, wKn, wTn, wOb, wPt, wTl, wOq] at hw; omega))
              have e58 := hM15
              have w58 : ld M 22 10 ≠ 0 → ld M15 22 8 = ld M 22 8 + ct (fun κ => Fl T f k n (ld M (24 + x1.toNat)) κ ∧ WH T k n (nK f κ)) (UV k n) := fun q => by
                have := hw q
                rw [e58, ld_same (by omega), z8, o50.1, b01_t (q50.elim (fun q => q.2) (fun q => absurd q.1 (by omega))), o50.2]
                omega
              replace t25 : ld M15 22 7 = ld M 22 7 + ct (Fl T f k n (ld M (24 + x1.toNat))) (UV k n) := by rw [e58, ld_putne (by omega)]; exact t25
              have e58b : ld M15 53 = ld M13 53 := funext fun j => by rw [e58, ld_putne (by omega)]
              rw [← e58b] at b25 d25
              have e58c : ld M15 54 = ld M13 54 := funext fun j => by rw [e58, ld_putne (by omega)]
              try rw [← e58c] at l38
              have w68 : ld M 22 10 ≠ 0 → ld M15 22 8 = ld M 22 8 + ct (fun κ => Fl T f k n (ld M (24 + x1.toNat)) κ ∧ WH T k n (nK f κ)) (UV k n) := by first | exact (fun q => absurd (by omega) q) | exact w58 | exact w50 (by assumption)
              have s68 : SRQ T f k n (Fl T f k n (ld M (24 + x1.toNat))) M M15 := ⟨t25, b25, d25, w68⟩
              refine uX7_goOn_68 (fun hc => ?_) (fun hc => ?_)
              · skip
                refine uX7_goOn_83 ?_
                refine uX7_goOn_84 (by first | omega | assumption | with_reducible exact rng_ld _ _ _ | with_reducible exact rng_yand _ _ | with_reducible exact rng_yor _ _ | with_reducible exact rng_zcmp _ _ | with_reducible exact yand7 _ | with_reducible exact rng_toInt _ | with_reducible exact yarr23 (by omega) | with_reducible exact yarr57 (by omega) | with_reducible exact Or.inl rfl | with_reducible exact Or.inr rfl) ?_
                exact kont _ _ fM (by first | exact Or.inl ⟨rfl, s68, by omega⟩ | exact Or.inr ⟨rfl, by omega, by omega, by omega, fun e => by first | exact ⟨_, lfl.1, lfl.2, l38⟩ | exact absurd e (by omega)⟩)
              · skip
                refine uX7_goOn_79 ?_
                refine uX7_goOn_84 (by first | omega | assumption | with_reducible exact rng_ld _ _ _ | with_reducible exact rng_yand _ _ | with_reducible exact rng_yor _ _ | with_reducible exact rng_zcmp _ _ | with_reducible exact yand7 _ | with_reducible exact rng_toInt _ | with_reducible exact yarr23 (by omega) | with_reducible exact yarr57 (by omega) | with_reducible exact Or.inl rfl | with_reducible exact Or.inr rfl) ?_
                exact kont _ _ fM (by first | exact Or.inl ⟨rfl, s68, by omega⟩ | exact Or.inr ⟨rfl, by omega, by omega, by omega, fun e => by first | exact ⟨_, lfl.1, lfl.2, l38⟩ | exact absurd e (by omega)⟩)
        · skip
          refine uX7_goOn_38 ?_
          refine XC.deep (d' := d + 3 + m) (n7_takeLowest  (d := 0) (k22_6.trans hn) (by first | omega | assumption | with_reducible exact rng_ld _ _ _ | with_reducible exact rng_yand _ _ | with_reducible exact rng_yor _ _ | with_reducible exact rng_zcmp _ _ | with_reducible exact yand7 _ | with_reducible exact rng_toInt _ | with_reducible exact yarr23 (by omega) | with_reducible exact yarr57 (by omega) | with_reducible exact Or.inl rfl | with_reducible exact Or.inr rfl) (yarr23 (by omega)) (by omega) (hCT.fr fM (by (first | (dsimp only [wNo]; omega) | omega)) (fun _ => by (first | (dsimp only [wNo]; omega) | omega)) (fun _ => by (first | (dsimp only [wNo]; omega) | omega))) (by rw [x25]; exact sn) (by rw [x25]; exact ne) (by rw [x25]; exact d8) (fun M16 fM16 p16a => ?_)) (by omega)
          replace fM := fM.tr fM16 (by intro o j hw; first | omega | exact hw | (dsimp only [wSub, wRun, wNar, wFil, wCan, wLst, wCar, wDr, wFl, wMq, wRd, wRx, wCr, wTab, wTr, wNew, wKi, wKn, wTn, wOb, wPt, wTl, wOq] at hw; dsimp only [wSub, wRun, wNar, wFil, wCan, wLst, wCar, wDr, wFl, wMq, wRd, wRx, wCr, wTab, wTr, wNew, wKi, wKn, wTn, wOb, wPt, wTl, wOq]; omega) | (dsimp only [wSub, wRun, wNar, wFil, wCan, wLst, wCar, wDr, wFl, wMq, wRd, wRx, wCr, wTab, wTr, wNew, wKi, wKn, wTn, wOb, wPt, wTl, wOq]; omega) | (dsimp only [wSub, wRun, wNar, wFil, wCan, wLst, wCar, wDr, wFl, wMq, wRd, wRx, wCr, wTab, wTr, wNew, wKi, wKn, wTn, wOb, wPt, wTl, wOq] at hw; omega) | (simp [wSub, wRun, wNar, wFil, wCan, wLst, wCar, wDr, wFl, wMq, wRd, wRx, wCr, wTab, wTr, wNew, wKi, wKn, wTn, wOb, wPt, wTl, wOq] at hw; simp [wSub, wRun, wNar, wFil, wCan, wLst, wCar, wDr, wFl, wMq, wRd, wRx, wCr, wTab, wTr, wNew, wKi, wKn, wTn, wOb, wPt, wTl, wOq]; omega))
          have k22_6 := fM.ld (o := 22) (j := 6) (by intro hw; first | omega | (dsimp only [wSub, wRun, wNar, wFil, wCan, wLst, wCar, wDr, wFl, wMq, wRd, wRx, wCr, wTab, wTr, wNew, wKi, wKn, wTn, wOb, wPt, wTl, wOq] at hw; omega) | (simp [wSub, wRun, wNar, wFil, wCan, wLst, wCar, wDr, wFl, wMq, wRd, wRx, wCr, wTab, wTr, wNew, wKi, wKn, wTn, wOb, wPt, wTl, wOq] at hw; done) | (simp [wSub, wRun, wNar, wFil, wCan, wLst, wCar, wDr, wFl, wMq, wRd, wRx, wCr, wTab, wTr, wNew, wKi, wKn, wTn, wOb, wPt, wTl, wOq] at hw; omega))
          have k22_9 := fM.ld (o := 22) (j := 9) (by intro hw; first | omega | (dsimp only [wSub, wRun, wNar, wFil, wCan, wLst, wCar, wDr, wFl, wMq, wRd, wRx, wCr, wTab, wTr, wNew, wKi, wKn, wTn, wOb, wPt, wTl, wOq] at hw; omega) | (simp [wSub, wRun, wNar, wFil, wCan, wLst, wCar, wDr, wFl, wMq, wRd, wRx, wCr, wTab, wTr, wNew, wKi, wKn, wTn, wOb, wPt, wTl, wOq] at hw; done) | (simp [wSub, wRun, wNar, wFil, wCan, wLst, wCar, wDr, wFl, wMq, wRd, wRx, wCr, wTab, wTr, wNew, wKi, wKn, wTn, wOb, wPt, wTl, wOq] at hw; omega))
          have k22_10 := fM.ld (o := 22) (j := 10) (by intro hw; first | omega | (dsimp only [wSub, wRun, wNar, wFil, wCan, wLst, wCar, wDr, wFl, wMq, wRd, wRx, wCr, wTab, wTr, wNew, wKi, wKn, wTn, wOb, wPt, wTl, wOq] at hw; omega) | (simp [wSub, wRun, wNar, wFil, wCan, wLst, wCar, wDr, wFl, wMq, wRd, wRx, wCr, wTab, wTr, wNew, wKi, wKn, wTn, wOb, wPt, wTl, wOq] at hw; done) | (simp [wSub, wRun, wNar, wFil, wCan, wLst, wCar, wDr, wFl, wMq, wRd, wRx, wCr, wTab, wTr, wNew, wKi, wKn, wTn, wOb, wPt, wTl, wOq] at hw; omega))
          have k1_0 := fM.ld (o := 1) (j := 0) (by intro hw; first | omega | (dsimp only [wSub, wRun, wNar, wFil, wCan, wLst, wCar, wDr, wFl, wMq, wRd, wRx, wCr, wTab, wTr, wNew, wKi, wKn, wTn, wOb, wPt, wTl, wOq] at hw; omega) | (simp [wSub, wRun, wNar, wFil, wCan, wLst, wCar, wDr, wFl, wMq, wRd, wRx, wCr, wTab, wTr, wNew, wKi, wKn, wTn, wOb, wPt, wTl, wOq] at hw; done) | (simp [wSub, wRun, wNar, wFil, wCan, wLst, wCar, wDr, wFl, wMq, wRd, wRx, wCr, wTab, wTr, wNew, wKi, wKn, wTn, wOb, wPt, wTl, wOq] at hw; omega))
          have l38 : LK n f (fun z => low ((ld M (24 + x1.toNat)) z)) (ld M16 54) := by rw [← x25]; exact p16a
          replace t25 : ld M16 22 7 = ld M 22 7 + ct (Fl T f k n (ld M (24 + x1.toNat))) (UV k n) := by rw [fM16.ld (by omega)]; exact t25
          have e38 : ld M16 53 = ld M13 53 := funext fun j => fM16.ld (by omega)
          rw [← e38] at b25 d25
          replace z8 : ld M16 22 8 = ld M 22 8 := by rw [fM16.ld (by omega)]; exact z8
          have x43 : ld M16 (24 + x1.toNat) = (ld M (24 + x1.toNat)) := funext fun j => fM.ld (by omega)
          refine uX7_goOn_43 (fun hc => ?_) (fun hc => ?_)
          · skip
            have w68 : ld M 22 10 ≠ 0 → ld M16 22 8 = ld M 22 8 + ct (fun κ => Fl T f k n (ld M (24 + x1.toNat)) κ ∧ WH T k n (nK f κ)) (UV k n) := by first | exact (fun q => absurd (by omega) q) | exact w58 | exact w50 (by assumption)
            have s68 : SRQ T f k n (Fl T f k n (ld M (24 + x1.toNat))) M M16 := ⟨t25, b25, d25, w68⟩
            refine uX7_goOn_68 (fun hc => ?_) (fun hc => ?_)
            · skip
              refine uX7_goOn_83 ?_
              refine uX7_goOn_84 (by first | omega | assumption | with_reducible exact rng_ld _ _ _ | with_reducible exact rng_yand _ _ | with_reducible exact rng_yor _ _ | with_reducible exact rng_zcmp _ _ | with_reducible exact yand7 _ | with_reducible exact rng_toInt _ | with_reducible exact yarr23 (by omega) | with_reducible exact yarr57 (by omega) | with_reducible exact Or.inl rfl | with_reducible exact Or.inr rfl) ?_
              exact kont _ _ fM (by first | exact Or.inl ⟨rfl, s68, by omega⟩ | exact Or.inr ⟨rfl, by omega, by omega, by omega, fun e => by first | exact ⟨_, lfl.1, lfl.2, l38⟩ | exact absurd e (by omega)⟩)
            · skip
              refine uX7_goOn_79 ?_
              refine uX7_goOn_84 (by first | omega | assumption | with_reducible exact rng_ld _ _ _ | with_reducible exact rng_yand _ _ | with_reducible exact rng_yor _ _ | with_reducible exact rng_zcmp _ _ | with_reducible exact yand7 _ | with_reducible exact rng_toInt _ | with_reducible exact yarr23 (by omega) | with_reducible exact yarr57 (by omega) | with_reducible exact Or.inl rfl | with_reducible exact Or.inr rfl) ?_
              exact kont _ _ fM (by first | exact Or.inl ⟨rfl, s68, by omega⟩ | exact Or.inr ⟨rfl, by omega, by omega, by omega, fun e => by first | exact ⟨_, lfl.1, lfl.2, l38⟩ | exact absurd e (by omega)⟩)
          · skip
            refine uX7_goOn_50 ?_
            refine XC.deep (d' := d + 3 + m) (n7_isWhole  (d := 0) (k22_6.trans hn) (by first | omega | assumption | with_reducible exact rng_ld _ _ _ | with_reducible exact rng_yand _ _ | with_reducible exact rng_yor _ _ | with_reducible exact rng_zcmp _ _ | with_reducible exact yand7 _ | with_reducible exact rng_toInt _ | with_reducible exact yarr23 (by omega) | with_reducible exact yarr57 (by omega) | with_reducible exact Or.inl rfl | with_reducible exact Or.inr rfl) (yarr23 (by omega)) (hCT.fr fM (by (first | (dsimp only [wNo]; omega) | omega)) (fun _ => by (first | (dsimp only [wNo]; omega) | omega)) (fun _ => by (first | (dsimp only [wNo]; omega) | omega))) (by rw [x43]; exact sn) (by rw [x43]; exact ne) ((hBT (by omega)).fr fM (fun _ => by omega)) (fun v50 p17a => ?_)) (by omega)
            have q50 := p17a
            rw [x43] at q50
            have o50 := one_fl hT hn8 sn cl ne (q25.2 (by omega))
            have w50 : v50 = 0 → ld M 22 10 ≠ 0 → ld M16 22 8 = ld M 22 8 + ct (fun κ => Fl T f k n (ld M (24 + x1.toNat)) κ ∧ WH T k n (nK f κ)) (UV k n) := fun e _ => by
              rw [o50.1, b01_f (q50.elim (fun q => absurd q.1 (by omega)) (fun q => q.2))]
              omega
            refine uX7_goOn_55 (by first | omega | assumption | with_reducible exact rng_ld _ _ _ | with_reducible exact rng_yand _ _ | with_reducible exact rng_yor _ _ | with_reducible exact rng_zcmp _ _ | with_reducible exact yand7 _ | with_reducible exact rng_toInt _ | with_reducible exact yarr23 (by omega) | with_reducible exact yarr57 (by omega) | with_reducible exact Or.inl rfl | with_reducible exact Or.inr rfl) (fun hc => ?_) (fun hc => ?_)
            · skip
              have w68 : ld M 22 10 ≠ 0 → ld M16 22 8 = ld M 22 8 + ct (fun κ => Fl T f k n (ld M (24 + x1.toNat)) κ ∧ WH T k n (nK f κ)) (UV k n) := by first | exact (fun q => absurd (by omega) q) | exact w58 | exact w50 (by assumption)
              have s68 : SRQ T f k n (Fl T f k n (ld M (24 + x1.toNat))) M M16 := ⟨t25, b25, d25, w68⟩
              refine uX7_goOn_68 (fun hc => ?_) (fun hc => ?_)
              · skip
                refine uX7_goOn_83 ?_
                refine uX7_goOn_84 (by first | omega | assumption | with_reducible exact rng_ld _ _ _ | with_reducible exact rng_yand _ _ | with_reducible exact rng_yor _ _ | with_reducible exact rng_zcmp _ _ | with_reducible exact yand7 _ | with_reducible exact rng_toInt _ | with_reducible exact yarr23 (by omega) | with_reducible exact yarr57 (by omega) | with_reducible exact Or.inl rfl | with_reducible exact Or.inr rfl) ?_
                exact kont _ _ fM (by first | exact Or.inl ⟨rfl, s68, by omega⟩ | exact Or.inr ⟨rfl, by omega, by omega, by omega, fun e => by first | exact ⟨_, lfl.1, lfl.2, l38⟩ | exact absurd e (by omega)⟩)
              · skip
                refine uX7_goOn_79 ?_
                refine uX7_goOn_84 (by first | omega | assumption | with_reducible exact rng_ld _ _ _ | with_reducible exact rng_yand _ _ | with_reducible exact rng_yor _ _ | with_reducible exact rng_zcmp _ _ | with_reducible exact yand7 _ | with_reducible exact rng_toInt _ | with_reducible exact yarr23 (by omega) | with_reducible exact yarr57 (by omega) | with_reducible exact Or.inl rfl | with_reducible exact Or.inr rfl) ?_
                exact kont _ _ fM (by first | exact Or.inl ⟨rfl, s68, by omega⟩ | exact Or.inr ⟨rfl, by omega, by omega, by omega, fun e => by first | exact ⟨_, lfl.1, lfl.2, l38⟩ | exact absurd e (by omega)⟩)
            · skip
              refine uX7_goOn_58 ?_
              intro M18 hM18
              replace fM := fr.put fM hM18 (by first | omega | (dsimp only [wSub, wRun, wNar, wFil, wCan, wLst, wCar, wDr, wFl, wMq, wRd, wRx, wCr, wTab, wTr, wNew, wKi, wKn, wTn, wOb, wPt, wTl, wOq]; done) | (dsimp only [wSub, wRun, wNar, wFil, wCan, wLst, wCar, wDr, wFl, wMq, wRd, wRx, wCr, wTab, wTr, wNew, wKi, wKn, wTn, wOb, wPt, wTl, wOq]; omega) | (simp [wSub, wRun, wNar, wFil, wCan, wLst, wCar, wDr, wFl, wMq, wRd, wRx, wCr, wTab, wTr, wNew, wKi, wKn, wTn, wOb, wPt, wTl, wOq]; done) | (simp [wSub, wRun, wNar, wFil, wCan, wLst, wCar, wDr, wFl, wMq, wRd, wRx, wCr, wTab, wTr, wNew, wKi, wKn, wTn, wOb, wPt, wTl, wOq]; omega))
              have k22_6 := fM.ld (o := 22) (j := 6) (by intro hw; first | omega | (dsimp only [wSub, wRun, wNar, wFil, wCan, wLst, wCar, wDr, wFl, wMq, wRd, wRx, wCr, wTab, wTr, wNew, wKi, wKn, wTn, wOb, wPt, wTl, wOq] at hw; omega) | (simp [wSub, wRun, wNar, wFil, wCan, wLst, wCar, wDr, wFl, wMq, wRd, wRx, wCr, wTab, wTr, wNew, wKi, wKn, wTn, wOb, wPt, wTl, wOq] at hw; done) | (simp [wSub, wRun, wNar, wFil, wCan, wLst, wCar, wDr, wFl, wMq, wRd, wRx, wCr, wTab, wTr, wNew, wKi, wKn, wTn, wOb, wPt, wTl, wOq] at hw; omega))
              have k22_9 := fM.ld (o := 22) (j := 9) (by intro hw; first | omega | (dsimp only [wSub, wRun, wNar, wFil, wCan, wLst, wCar, wDr, wFl, wMq, wRd, wRx, wCr, wTab, wTr, wNew, wKi, wKn, wTn, wOb, wPt, wTl, wOq] at hw; omega) | (simp [wSub, wRun, wNar, wFil, wCan, wLst, wCar, wDr, wFl, wMq, wRd, wRx, wCr, wTab, wTr, wNew, wKi, wKn, wTn, wOb, wPt, wTl, wOq] at hw; done) | (simp [wSub, wRun, wNar, wFil, wCan, wLst, wCar, wDr, wFl, wMq, wRd, wRx, wCr, wTab, wTr, wNew, wKi, wKn, wTn, wOb, wPt, wTl, wOq] at hw; omega))
              have k22_10 := fM.ld (o := 22) (j := 10) (by intro hw; first | omega | (dsimp only [wSub, wRun, wNar, wFil, wCan, wLst, wCar, wDr, wFl, wMq, wRd, wRx, wCr, wTab, wTr, wNew, wKi, wKn, wTn, wOb, wPt, wTl, wOq] at hw; omega) | (simp [wSub, wRun, wNar, wFil, wCan, wLst, wCar, wDr, wFl, wMq, wRd, wRx, wCr, wTab, wTr, wNew, wKi, wKn, wTn, wOb, wPt, wTl, wOq] at hw; done) | (simp [wSub, wRun, wNar, wFil, wCan, wLst, wCar, wDr, wFl, wMq, wRd, wRx, wCr, wTab, wTr, wNew, wKi, wKn, wTn, wOb, wPt, wTl, wOq] at hw; omega))
              have k1_0 := fM.ld (o := 1) (j := 0) (by intro hw; first | omega | (dsimp only [wSub, wRun, wNar, wFil, wCan, wLst, wCar, wDr, wFl, wMq, wRd, wRx, wCr, wTab, wTr, wNew, wKi, wKn, wTn, wOb, wPt, wTl, wOq] at hw; omega) | (simp [wSub, wRun, wNar, wFil, wCan, wLst, wCar, wDr, wFl, wMq, wRd, wRx, wCr, wTab, wTr, wNew, wKi, wKn, wTn, wOb, wPt, wTl, wOq] at hw; done) | (simp [wSub, wRun, wNar, wFil, wCan, wLst, wCar, wDr, wFl, wMq, wRd, wRx, wCr, wTab, wTr, wNew, wKi, wKn, wTn, wOb, wPt, wTl, wOq] at hw; omega))
              have e58 := hM18
              have w58 : ld M 22 10 ≠ 0 → ld M18 22 8 = ld M 22 8 + ct (fun κ => Fl T f k n (ld M (24 + x1.toNat)) κ ∧ WH T k n (nK f κ)) (UV k n) := fun q => by
                have := hw q
                rw [e58, ld_same (by omega), z8, o50.1, b01_t (q50.elim (fun q => q.2) (fun q => absurd q.1 (by omega))), o50.2]
                omega
              replace t25 : ld M18 22 7 = ld M 22 7 + ct (Fl T f k n (ld M (24 + x1.toNat))) (UV k n) := by rw [e58, ld_putne (by omega)]; exact t25
              have e58b : ld M18 53 = ld M16 53 := funext fun j => by rw [e58, ld_putne (by omega)]
              rw [← e58b] at b25 d25
              have e58c : ld M18 54 = ld M16 54 := funext fun j => by rw [e58, ld_putne (by omega)]
              try rw [← e58c] at l38
              have w68 : ld M 22 10 ≠ 0 → ld M18 22 8 = ld M 22 8 + ct (fun κ => Fl T f k n (ld M (24 + x1.toNat)) κ ∧ WH T k n (nK f κ)) (UV k n) := by first | exact (fun q => absurd (by omega) q) | exact w58 | exact w50 (by assumption)
              have s68 : SRQ T f k n (Fl T f k n (ld M (24 + x1.toNat))) M M18 := ⟨t25, b25, d25, w68⟩
              refine uX7_goOn_68 (fun hc => ?_) (fun hc => ?_)
              · skip
                refine uX7_goOn_83 ?_
                refine uX7_goOn_84 (by first | omega | assumption | with_reducible exact rng_ld _ _ _ | with_reducible exact rng_yand _ _ | with_reducible exact rng_yor _ _ | with_reducible exact rng_zcmp _ _ | with_reducible exact yand7 _ | with_reducible exact rng_toInt _ | with_reducible exact yarr23 (by omega) | with_reducible exact yarr57 (by omega) | with_reducible exact Or.inl rfl | with_reducible exact Or.inr rfl) ?_
                exact kont _ _ fM (by first | exact Or.inl ⟨rfl, s68, by omega⟩ | exact Or.inr ⟨rfl, by omega, by omega, by omega, fun e => by first | exact ⟨_, lfl.1, lfl.2, l38⟩ | exact absurd e (by omega)⟩)
              · skip
                refine uX7_goOn_79 ?_
                refine uX7_goOn_84 (by first | omega | assumption | with_reducible exact rng_ld _ _ _ | with_reducible exact rng_yand _ _ | with_reducible exact rng_yor _ _ | with_reducible exact rng_zcmp _ _ | with_reducible exact yand7 _ | with_reducible exact rng_toInt _ | with_reducible exact yarr23 (by omega) | with_reducible exact yarr57 (by omega) | with_reducible exact Or.inl rfl | with_reducible exact Or.inr rfl) ?_
                exact kont _ _ fM (by first | exact Or.inl ⟨rfl, s68, by omega⟩ | exact Or.inr ⟨rfl, by omega, by omega, by omega, fun e => by first | exact ⟨_, lfl.1, lfl.2, l38⟩ | exact absurd e (by omega)⟩)
/-- what a search finds -/
def RUN (T f : Int → Int) (k n lim one : Int) (X : Int → Int) (v : Int) (M' : yM) : Prop := 0 ≤ v ∧ v ≤ 20000000 ∧ ((v < lim ∧ v = ct (Fl T f k n X) (UV k n) ∧ BQ f k n (Fl T f k n X) (fun _ => 0) (ld M' 53) ∧ (one ≠ 0 → ld M' 22 8 = ct (fun κ => Fl T f k n X κ ∧ WH T k n (nK f κ)) (UV k n))) ∨ (lim ≤ v ∧ v ≤ ct (Fl T f k n X) (UV k n) ∧ (lim = 1 → ∃ κ, KV k n κ ∧ Fl T f k n X κ ∧ LK n f κ (ld M' 54))))
section
variable {T f : Int → Int} {k n : Int}
theorem BQ.rp {P : (Int → Int) → Prop} {S S' R R' : Int → Int} (hn : n ≤ 8) (h : BQ f k n P S S') (e : EqN S R) (e' : EqN S' R') : BQ f k n P R R' := fun p q p1 p2 q1 q2 b => by
  rw [← e _ (by omega) (by omega), ← e' _ (by omega) (by omega)]
  exact h p q p1 p2 q1 q2 b
theorem bq_fl {X Y : Int → Int} {S S' : Int → Int} (h : BQ f k n (Fl T f k n X) S S') (e : ∀ κ, KV k n κ → (Fl T f k n X κ ↔ Fl T f k n Y κ)) : BQ f k n (Fl T f k n Y) S S' := h.cg e
/-- nothing is found -/
theorem run_no {X : Int → Int} {M' : yM} {lim one : Int} (hk : 1 ≤ k) (hn : n ≤ 8) (hl : 1 ≤ lim) (h : ∀ κ, KV k n κ → ¬ Fl T f k n X κ) (z : EqN (fun _ => 0) (ld M' 53)) (z8 : ld M' 22 8 = 0) : RUN T f k n lim one X 0 M' := ⟨Int.le_refl _, by decide, Or.inl ⟨by omega, by rw [ct_no hk hn h], (BQ.no h).rp hn (fun _ _ _ => rfl) z, fun _ => by rw [ct_no hk hn (fun κ v q => h κ v q.1), z8]⟩⟩
theorem run_ok {X Y : Int → Int} {M M' : yM} {lim one v : Int} (hk : 1 ≤ k) (hn : n ≤ 8) (hl : 1 ≤ lim ∧ lim ≤ 20001) (e : ∀ κ, KV k n κ → (Fl T f k n Y κ ↔ Fl T f k n X κ)) (e7 : ld M 22 7 = 0) (e8 : ld M 22 8 = 0) (e9 : ld M 22 9 = lim) (e10 : ld M 22 10 = one) (z : EqN (ld M 53) (fun _ => 0)) (h9 : ld M' 22 9 = lim) (hv : v = ld M' 22 7) (h : SRQ T f k n (Fl T f k n Y) M M' ∧ ld M' 22 7 < ld M' 22 9 ∨ ENo f k n (Fl T f k n Y) M M') : RUN T f k n lim one X v M' := by
  have ce := ct_kv (P := Fl T f k n Y) (P' := Fl T f k n X) hk hn e
  rcases h with ⟨h, l⟩ | h
  · have t := h.1
    have t0 := h.t0
    rw [ce] at t
    refine ⟨by omega, by omega, Or.inl ⟨by omega, by omega, (h.2.1.rp hn z (fun _ _ _ => rfl)).cg e, fun q => ?_⟩⟩
    rw [h.2.2.2 (by rw [e10]; exact q), e8, ct_kv (P := fun κ => Fl T f k n Y κ ∧ WH T k n (nK f κ)) (P' := fun κ => Fl T f k n X κ ∧ WH T k n (nK f κ)) hk hn (fun κ v => by rw [e κ v])]
    omega
  · obtain ⟨h1, h2, h3, h4⟩ := h
    rw [ce] at h2
    refine ⟨by omega, by omega, Or.inr ⟨by omega, by omega, fun q => ?_⟩⟩
    obtain ⟨κ, v, fl, lk⟩ := h4 (by omega)
    exact ⟨κ, v, (e κ v).mp fl, lk⟩
theorem pn_tv {X : Int → Int} {a l : Int} (hn : n ≤ 8) (h : PN X a n n 0 l) : TV n (lbt l) := fun p p1 p2 q => by
  obtain ⟨i, c, h1, h2, h3, _, h5, _⟩ := (h p p1 p2).mp q
  exact ⟨i, c, h1, h2, h3, h5⟩
theorem em_no {X κ : Int → Int} (hT : TH T f k) (hn : n ≤ 8) (hX : SN f k n X) (he : emB n X = true) (hv : KV k n κ) : ¬ Fl T f k n X κ := by
  obtain ⟨i, c, a, b, d, e⟩ := (emB_iff hn).mp he
  exact fl_no hT hn (no_good hT ⟨a, by omega⟩ ⟨by omega, d⟩ (by omega) e) hv
end
theorem nJ7_fill {d : Nat} {Q : yM → Prop} {M : yM} {x0 : Nat} {x1 : Int} {n : Nat} (hA : arrSh x0 n) (hr : -2147483648 ≤ x1 ∧ x1 < 2147483648) (kont : ∀ (M' : yM), fr (fun o _ => o = x0) M M' → (∀ j : Int, 0 ≤ j → j < n → ld M' x0 j = x1) → Q M') : XCv d 181 [.inr (.inr x0), .inl x1] M Q := by
  refine eJ7_fill_53178 ?_
  have fM : fr (fun o _ => o = x0) M M := fr.rf
  have hA2 := hA.2
  have go : ∀ N : Nat, (∀ (x2 : Int) (x3 : Int) (M9 : yM), fr (fun o _ => o = x0) M M9 → (0 ≤ x2 ∧ x2 ≤ x3) → (x3 = (n : Int)) → (∀ j : Int, 0 ≤ j → j < x2 → ld M9 x0 j = x1) → (x3 - x2 < (N : Int)) → XW kJ7_fill_53178 d none (wQv Q) 5 [some (.inr (.inr x0)), some (.inl x1), some (.inl x2), some (.inl x3)] [] M9) := by
    intro N
    induction N with
    | zero => intros; exfalso; omega
    | succ N ih =>
      have ih0 := ih
      clear fM
      intro x2 x3 M1 fM i0 i1 i2 hm
      refine uJ7_fill_53178_5 (by first | omega | assumption | with_reducible exact rng_ld _ _ _ | with_reducible exact rng_yand _ _ | with_reducible exact rng_yor _ _ | with_reducible exact rng_zcmp _ _ | with_reducible exact yand7 _ | with_reducible exact rng_toInt _ | with_reducible exact yarr23 (by omega) | with_reducible exact yarr57 (by omega) | with_reducible exact Or.inl rfl | with_reducible exact Or.inr rfl) (by first | omega | assumption | with_reducible exact rng_ld _ _ _ | with_reducible exact rng_yand _ _ | with_reducible exact rng_yor _ _ | with_reducible exact rng_zcmp _ _ | with_reducible exact yand7 _ | with_reducible exact rng_toInt _ | with_reducible exact yarr23 (by omega) | with_reducible exact yarr57 (by omega) | with_reducible exact Or.inl rfl | with_reducible exact Or.inr rfl) (fun hc => ?_) (fun hc => ?_)
      · skip
        refine uJ7_fill_53178_20 ?_
        exact kont _ fM (fun j a1 a2 => i2 j a1 (by omega))
      · skip
        refine uJ7_fill_53178_10 hA (by first | omega | assumption | with_reducible exact rng_ld _ _ _ | with_reducible exact rng_yand _ _ | with_reducible exact rng_yor _ _ | with_reducible exact rng_zcmp _ _ | with_reducible exact yand7 _ | with_reducible exact rng_toInt _ | with_reducible exact yarr23 (by omega) | with_reducible exact yarr57 (by omega) | with_reducible exact Or.inl rfl | with_reducible exact Or.inr rfl) ?_
        intro M2 hM2
        replace fM := fr.put fM hM2 (by first | omega | (dsimp only [wSub, wRun, wNar, wFil, wCan, wLst, wCar, wDr, wFl, wMq, wRd, wRx, wCr, wTab, wTr, wNew, wKi, wKn, wTn, wOb, wPt, wTl, wOq]; done) | (dsimp only [wSub, wRun, wNar, wFil, wCan, wLst, wCar, wDr, wFl, wMq, wRd, wRx, wCr, wTab, wTr, wNew, wKi, wKn, wTn, wOb, wPt, wTl, wOq]; omega) | (simp [wSub, wRun, wNar, wFil, wCan, wLst, wCar, wDr, wFl, wMq, wRd, wRx, wCr, wTab, wTr, wNew, wKi, wKn, wTn, wOb, wPt, wTl, wOq]; done) | (simp [wSub, wRun, wNar, wFil, wCan, wLst, wCar, wDr, wFl, wMq, wRd, wRx, wCr, wTab, wTr, wNew, wKi, wKn, wTn, wOb, wPt, wTl, wOq]; omega))
        have t10 : ∀ j : Int, 0 ≤ j → j < x2 + 1 → ld M2 x0 j = x1 := fun j a1 a2 => by
          rw [hM2, ld_put hr]
          by_cases q : j = x2
          · rw [if_pos ⟨rfl, q⟩]
          · rw [if_neg (fun w => q w.2)]
            exact i2 j a1 (by omega)
        refine uJ7_fill_53178_14 ?_
        exact ih0 _ _ M2 fM (by first | omega | assumption | with_reducible exact rng_ld _ _ _ | with_reducible exact rng_yand _ _ | with_reducible exact rng_yor _ _ | with_reducible exact rng_zcmp _ _ | with_reducible exact yand7 _ | with_reducible exact rng_toInt _ | with_reducible exact yarr23 (by omega) | with_reducible exact yarr57 (by omega) | with_reducible exact Or.inl rfl | with_reducible exact Or.inr rfl) (by first | omega | assumption | with_reducible exact rng_ld _ _ _ | with_reducible exact rng_yand _ _ | with_reducible exact rng_yor _ _ | with_reducible exact rng_zcmp _ _ | with_reducible exact yand7 _ | with_reducible exact rng_toInt _ | with_reducible exact yarr23 (by omega) | with_reducible exact yarr57 (by omega) | with_reducible exact Or.inl rfl | with_reducible exact Or.inr rfl) (by first | exact (fun j a1 a2 => absurd a2 (by omega)) | exact t10) (by omega)
  refine uJ7_fill_53178_0 hA ?_
  exact (go 1000000) _ _ M fM (by first | omega | assumption | with_reducible exact rng_ld _ _ _ | with_reducible exact rng_yand _ _ | with_reducible exact rng_yor _ _ | with_reducible exact rng_zcmp _ _ | with_reducible exact yand7 _ | with_reducible exact rng_toInt _ | with_reducible exact yarr23 (by omega) | with_reducible exact yarr57 (by omega) | with_reducible exact Or.inl rfl | with_reducible exact Or.inr rfl) (by first | omega | assumption | with_reducible exact rng_ld _ _ _ | with_reducible exact rng_yand _ _ | with_reducible exact rng_yor _ _ | with_reducible exact rng_zcmp _ _ | with_reducible exact yand7 _ | with_reducible exact rng_toInt _ | with_reducible exact yarr23 (by omega) | with_reducible exact yarr57 (by omega) | with_reducible exact Or.inl rfl | with_reducible exact Or.inr rfl) (by first | exact (fun j a1 a2 => absurd a2 (by omega)) | exact t10) (by omega)
theorem n7_run {d : Nat} {Q : Int → yM → Prop} {M : yM} {x1 : Nat} {x2 : Int} {x3 : Int} {x4 : Int} {T f : Int → Int} {k n : Int} (hA : arrSh x1 64) (hx : x1 = 20 ∨ 57 ≤ x1) (h2 : x2 = n) (hn8 : 1 ≤ n ∧ n ≤ 8) (h3 : 1 ≤ x3 ∧ x3 ≤ 20001) (h4 : x4 = 0 ∨ x4 = 1) (hCT : CT M T f k) (hSN : SN f k n (ld M x1)) (hD8 : D8 (ld M x1)) (hT3 : ld M 3 = T) (hR : ∀ a b : Int, 0 ≤ a → a < k → 0 ≤ b → b < k → 0 ≤ T (8 * a + b) ∧ T (8 * a + b) < 256) (hU : ∀ b : Int, 0 ≤ b → b < k → bt (T (8 * 0 + b)) b.toNat = true) (kont : ∀ (v : Int) (M' : yM), fr (wRun) M M' → (RUN T f k n x3 x4 (ld M x1) v M') → Q v M') : XCi (d + 32) 46 [.inr (.inr 22), .inr (.inr x1), .inl x2, .inl x3, .inl x4] M Q := by
  refine eX7_run ?_
  have fM : fr (wRun) M M := fr.rf
  have hk8 := hCT.2.1.1
  have ek := hCT.1
  have hT := hCT.2.1
  have hk1 := hk8.1
  have hn2 := hn8.2
  refine uX7_run_0 ?_
  intro M1 hM1
  replace fM := fr.put fM hM1 (by first | omega | (dsimp only [wSub, wRun, wNar, wFil, wCan, wLst, wCar, wDr, wFl, wMq, wRd, wRx, wCr, wTab, wTr, wNew, wKi, wKn, wTn, wOb, wPt, wTl, wOq]; done) | (dsimp only [wSub, wRun, wNar, wFil, wCan, wLst, wCar, wDr, wFl, wMq, wRd, wRx, wCr, wTab, wTr, wNew, wKi, wKn, wTn, wOb, wPt, wTl, wOq]; omega) | (simp [wSub, wRun, wNar, wFil, wCan, wLst, wCar, wDr, wFl, wMq, wRd, wRx, wCr, wTab, wTr, wNew, wKi, wKn, wTn, wOb, wPt, wTl, wOq]; done) | (simp [wSub, wRun, wNar, wFil, wCan, wLst, wCar, wDr, wFl, wMq, wRd, wRx, wCr, wTab, wTr, wNew, wKi, wKn, wTn, wOb, wPt, wTl, wOq]; omega))
  have k1_0 := fM.ld (o := 1) (j := 0) (by intro hw; first | omega | (dsimp only [wSub, wRun, wNar, wFil, wCan, wLst, wCar, wDr, wFl, wMq, wRd, wRx, wCr, wTab, wTr, wNew, wKi, wKn, wTn, wOb, wPt, wTl, wOq] at hw; omega) | (simp [wSub, wRun, wNar, wFil, wCan, wLst, wCar, wDr, wFl, wMq, wRd, wRx, wCr, wTab, wTr, wNew, wKi, wKn, wTn, wOb, wPt, wTl, wOq] at hw; done) | (simp [wSub, wRun, wNar, wFil, wCan, wLst, wCar, wDr, wFl, wMq, wRd, wRx, wCr, wTab, wTr, wNew, wKi, wKn, wTn, wOb, wPt, wTl, wOq] at hw; omega))
  have s6 : ld M1 22 6 = x2 := by (rw [hM1, ld_same (by omega)]) <;> omega
  refine uX7_run_5 ?_
  intro M2 hM2
  replace fM := fr.put fM hM2 (by first | omega | (dsimp only [wSub, wRun, wNar, wFil, wCan, wLst, wCar, wDr, wFl, wMq, wRd, wRx, wCr, wTab, wTr, wNew, wKi, wKn, wTn, wOb, wPt, wTl, wOq]; done) | (dsimp only [wSub, wRun, wNar, wFil, wCan, wLst, wCar, wDr, wFl, wMq, wRd, wRx, wCr, wTab, wTr, wNew, wKi, wKn, wTn, wOb, wPt, wTl, wOq]; omega) | (simp [wSub, wRun, wNar, wFil, wCan, wLst, wCar, wDr, wFl, wMq, wRd, wRx, wCr, wTab, wTr, wNew, wKi, wKn, wTn, wOb, wPt, wTl, wOq]; done) | (simp [wSub, wRun, wNar, wFil, wCan, wLst, wCar, wDr, wFl, wMq, wRd, wRx, wCr, wTab, wTr, wNew, wKi, wKn, wTn, wOb, wPt, wTl, wOq]; omega))
  have k1_0 := fM.ld (o := 1) (j := 0) (by intro hw; first | omega | (dsimp only [wSub, wRun, wNar, wFil, wCan, wLst, wCar, wDr, wFl, wMq, wRd, wRx, wCr, wTab, wTr, wNew, wKi, wKn, wTn, wOb, wPt, wTl, wOq] at hw; omega) | (simp [wSub, wRun, wNar, wFil, wCan, wLst, wCar, wDr, wFl, wMq, wRd, wRx, wCr, wTab, wTr, wNew, wKi, wKn, wTn, wOb, wPt, wTl, wOq] at hw; done) | (simp [wSub, wRun, wNar, wFil, wCan, wLst, wCar, wDr, wFl, wMq, wRd, wRx, wCr, wTab, wTr, wNew, wKi, wKn, wTn, wOb, wPt, wTl, wOq] at hw; omega))
  replace s6 : ld M2 22 6 = x2 := by first | (rw [hM2, ld_putne (by omega)]; exact s6) | (rw [hM2, ld_same (by omega)]; omega) | (rw [hM2, ld_cpyne (by omega)]; exact s6) | (rw [hM2, ld_putL]; exact s6)
  have z5 : ld M2 22 7 = 0 := by rw [hM2]; exact ld_same (by omega)
  refine uX7_run_10 ?_
  intro M3 hM3
  replace fM := fr.put fM hM3 (by first | omega | (dsimp only [wSub, wRun, wNar, wFil, wCan, wLst, wCar, wDr, wFl, wMq, wRd, wRx, wCr, wTab, wTr, wNew, wKi, wKn, wTn, wOb, wPt, wTl, wOq]; done) | (dsimp only [wSub, wRun, wNar, wFil, wCan, wLst, wCar, wDr, wFl, wMq, wRd, wRx, wCr, wTab, wTr, wNew, wKi, wKn, wTn, wOb, wPt, wTl, wOq]; omega) | (simp [wSub, wRun, wNar, wFil, wCan, wLst, wCar, wDr, wFl, wMq, wRd, wRx, wCr, wTab, wTr, wNew, wKi, wKn, wTn, wOb, wPt, wTl, wOq]; done) | (simp [wSub, wRun, wNar, wFil, wCan, wLst, wCar, wDr, wFl, wMq, wRd, wRx, wCr, wTab, wTr, wNew, wKi, wKn, wTn, wOb, wPt, wTl, wOq]; omega))
  have k1_0 := fM.ld (o := 1) (j := 0) (by intro hw; first | omega | (dsimp only [wSub, wRun, wNar, wFil, wCan, wLst, wCar, wDr, wFl, wMq, wRd, wRx, wCr, wTab, wTr, wNew, wKi, wKn, wTn, wOb, wPt, wTl, wOq] at hw; omega) | (simp [wSub, wRun, wNar, wFil, wCan, wLst, wCar, wDr, wFl, wMq, wRd, wRx, wCr, wTab, wTr, wNew, wKi, wKn, wTn, wOb, wPt, wTl, wOq] at hw; done) | (simp [wSub, wRun, wNar, wFil, wCan, wLst, wCar, wDr, wFl, wMq, wRd, wRx, wCr, wTab, wTr, wNew, wKi, wKn, wTn, wOb, wPt, wTl, wOq] at hw; omega))
  replace s6 : ld M3 22 6 = x2 := by first | (rw [hM3, ld_putne (by omega)]; exact s6) | (rw [hM3, ld_same (by omega)]; omega) | (rw [hM3, ld_cpyne (by omega)]; exact s6) | (rw [hM3, ld_putL]; exact s6)
  have z7 : ld M3 22 7 = 0 ∧ ld M3 22 8 = 0 := ⟨by rw [hM3, ld_putne (by omega)]; exact z5, by rw [hM3]; exact ld_same (by omega)⟩
  refine uX7_run_15 ?_
  intro M4 hM4
  replace fM := fr.put fM hM4 (by first | omega | (dsimp only [wSub, wRun, wNar, wFil, wCan, wLst, wCar, wDr, wFl, wMq, wRd, wRx, wCr, wTab, wTr, wNew, wKi, wKn, wTn, wOb, wPt, wTl, wOq]; done) | (dsimp only [wSub, wRun, wNar, wFil, wCan, wLst, wCar, wDr, wFl, wMq, wRd, wRx, wCr, wTab, wTr, wNew, wKi, wKn, wTn, wOb, wPt, wTl, wOq]; omega) | (simp [wSub, wRun, wNar, wFil, wCan, wLst, wCar, wDr, wFl, wMq, wRd, wRx, wCr, wTab, wTr, wNew, wKi, wKn, wTn, wOb, wPt, wTl, wOq]; done) | (simp [wSub, wRun, wNar, wFil, wCan, wLst, wCar, wDr, wFl, wMq, wRd, wRx, wCr, wTab, wTr, wNew, wKi, wKn, wTn, wOb, wPt, wTl, wOq]; omega))
  have k1_0 := fM.ld (o := 1) (j := 0) (by intro hw; first | omega | (dsimp only [wSub, wRun, wNar, wFil, wCan, wLst, wCar, wDr, wFl, wMq, wRd, wRx, wCr, wTab, wTr, wNew, wKi, wKn, wTn, wOb, wPt, wTl, wOq] at hw; omega) | (simp [wSub, wRun, wNar, wFil, wCan, wLst, wCar, wDr, wFl, wMq, wRd, wRx, wCr, wTab, wTr, wNew, wKi, wKn, wTn, wOb, wPt, wTl, wOq] at hw; done) | (simp [wSub, wRun, wNar, wFil, wCan, wLst, wCar, wDr, wFl, wMq, wRd, wRx, wCr, wTab, wTr, wNew, wKi, wKn, wTn, wOb, wPt, wTl, wOq] at hw; omega))
  replace s6 : ld M4 22 6 = x2 := by first | (rw [hM4, ld_putne (by omega)]; exact s6) | (rw [hM4, ld_same (by omega)]; omega) | (rw [hM4, ld_cpyne (by omega)]; exact s6) | (rw [hM4, ld_putL]; exact s6)
  have s9 : ld M4 22 9 = x3 := by (rw [hM4, ld_same (by omega)]) <;> omega
  replace z7 : ld M4 22 7 = 0 ∧ ld M4 22 8 = 0 := ⟨by rw [hM4, ld_putne (by omega)]; exact z7.1, by rw [hM4, ld_putne (by omega)]; exact z7.2⟩
  refine uX7_run_20 (by first | omega | assumption | with_reducible exact rng_ld _ _ _ | with_reducible exact rng_yand _ _ | with_reducible exact rng_yor _ _ | with_reducible exact rng_zcmp _ _ | with_reducible exact yand7 _ | with_reducible exact rng_toInt _ | with_reducible exact yarr23 (by omega) | with_reducible exact yarr57 (by omega) | with_reducible exact Or.inl rfl | with_reducible exact Or.inr rfl) ?_
  intro M5 hM5
  replace fM := fr.put fM hM5 (by first | omega | (dsimp only [wSub, wRun, wNar, wFil, wCan, wLst, wCar, wDr, wFl, wMq, wRd, wRx, wCr, wTab, wTr, wNew, wKi, wKn, wTn, wOb, wPt, wTl, wOq]; done) | (dsimp only [wSub, wRun, wNar, wFil, wCan, wLst, wCar, wDr, wFl, wMq, wRd, wRx, wCr, wTab, wTr, wNew, wKi, wKn, wTn, wOb, wPt, wTl, wOq]; omega) | (simp [wSub, wRun, wNar, wFil, wCan, wLst, wCar, wDr, wFl, wMq, wRd, wRx, wCr, wTab, wTr, wNew, wKi, wKn, wTn, wOb, wPt, wTl, wOq]; done) | (simp [wSub, wRun, wNar, wFil, wCan, wLst, wCar, wDr, wFl, wMq, wRd, wRx, wCr, wTab, wTr, wNew, wKi, wKn, wTn, wOb, wPt, wTl, wOq]; omega))
  have k1_0 := fM.ld (o := 1) (j := 0) (by intro hw; first | omega | (dsimp only [wSub, wRun, wNar, wFil, wCan, wLst, wCar, wDr, wFl, wMq, wRd, wRx, wCr, wTab, wTr, wNew, wKi, wKn, wTn, wOb, wPt, wTl, wOq] at hw; omega) | (simp [wSub, wRun, wNar, wFil, wCan, wLst, wCar, wDr, wFl, wMq, wRd, wRx, wCr, wTab, wTr, wNew, wKi, wKn, wTn, wOb, wPt, wTl, wOq] at hw; done) | (simp [wSub, wRun, wNar, wFil, wCan, wLst, wCar, wDr, wFl, wMq, wRd, wRx, wCr, wTab, wTr, wNew, wKi, wKn, wTn, wOb, wPt, wTl, wOq] at hw; omega))
  replace s6 : ld M5 22 6 = x2 := by first | (rw [hM5, ld_putne (by omega)]; exact s6) | (rw [hM5, ld_same (by omega)]; omega) | (rw [hM5, ld_cpyne (by omega)]; exact s6) | (rw [hM5, ld_putL]; exact s6)
  replace s9 : ld M5 22 9 = x3 := by first | (rw [hM5, ld_putne (by omega)]; exact s9) | (rw [hM5, ld_same (by omega)]; omega) | (rw [hM5, ld_cpyne (by omega)]; exact s9) | (rw [hM5, ld_putL]; exact s9)
  have s10 : ld M5 22 10 = x4 := by (rw [hM5, ld_same (by omega)]) <;> omega
  replace z7 : ld M5 22 7 = 0 ∧ ld M5 22 8 = 0 := ⟨by rw [hM5, ld_putne (by omega)]; exact z7.1, by rw [hM5, ld_putne (by omega)]; exact z7.2⟩
  refine uX7_run_26 (fun hc => ?_) (fun hc => ?_)
  · skip
    refine uX7_run_37 ?_
    refine nJ7_fill  ⟨rfl, Nat.le_of_ble_eq_true rfl⟩ (by omega) (fun M6 fM6 p6a => ?_)
    replace fM := fM.tr fM6 (by intro o j hw; first | omega | exact hw | (dsimp only [wSub, wRun, wNar, wFil, wCan, wLst, wCar, wDr, wFl, wMq, wRd, wRx, wCr, wTab, wTr, wNew, wKi, wKn, wTn, wOb, wPt, wTl, wOq] at hw; dsimp only [wSub, wRun, wNar, wFil, wCan, wLst, wCar, wDr, wFl, wMq, wRd, wRx, wCr, wTab, wTr, wNew, wKi, wKn, wTn, wOb, wPt, wTl, wOq]; omega) | (dsimp only [wSub, wRun, wNar, wFil, wCan, wLst, wCar, wDr, wFl, wMq, wRd, wRx, wCr, wTab, wTr, wNew, wKi, wKn, wTn, wOb, wPt, wTl, wOq]; omega) | (dsimp only [wSub, wRun, wNar, wFil, wCan, wLst, wCar, wDr, wFl, wMq, wRd, wRx, wCr, wTab, wTr, wNew, wKi, wKn, wTn, wOb, wPt, wTl, wOq] at hw; omega) | (simp [wSub, wRun, wNar, wFil, wCan, wLst, wCar, wDr, wFl, wMq, wRd, wRx, wCr, wTab, wTr, wNew, wKi, wKn, wTn, wOb, wPt, wTl, wOq] at hw; simp [wSub, wRun, wNar, wFil, wCan, wLst, wCar, wDr, wFl, wMq, wRd, wRx, wCr, wTab, wTr, wNew, wKi, wKn, wTn, wOb, wPt, wTl, wOq]; omega))
    have k1_0 := fM.ld (o := 1) (j := 0) (by intro hw; first | omega | (dsimp only [wSub, wRun, wNar, wFil, wCan, wLst, wCar, wDr, wFl, wMq, wRd, wRx, wCr, wTab, wTr, wNew, wKi, wKn, wTn, wOb, wPt, wTl, wOq] at hw; omega) | (simp [wSub, wRun, wNar, wFil, wCan, wLst, wCar, wDr, wFl, wMq, wRd, wRx, wCr, wTab, wTr, wNew, wKi, wKn, wTn, wOb, wPt, wTl, wOq] at hw; done) | (simp [wSub, wRun, wNar, wFil, wCan, wLst, wCar, wDr, wFl, wMq, wRd, wRx, wCr, wTab, wTr, wNew, wKi, wKn, wTn, wOb, wPt, wTl, wOq] at hw; omega))
    replace s6 : ld M6 22 6 = x2 := by first | assumption | (rw [fM6.ld (o := 22) (j := 6) (by intro hw; first | omega | (dsimp only [wSub, wRun, wNar, wFil, wCan, wLst, wCar, wDr, wFl, wMq, wRd, wRx, wCr, wTab, wTr, wNew, wKi, wKn, wTn, wOb, wPt, wTl, wOq] at hw; omega) | (simp [wSub, wRun, wNar, wFil, wCan, wLst, wCar, wDr, wFl, wMq, wRd, wRx, wCr, wTab, wTr, wNew, wKi, wKn, wTn, wOb, wPt, wTl, wOq] at hw; done) | (simp [wSub, wRun, wNar, wFil, wCan, wLst, wCar, wDr, wFl, wMq, wRd, wRx, wCr, wTab, wTr, wNew, wKi, wKn, wTn, wOb, wPt, wTl, wOq] at hw; omega))]; exact s6) | omega | exact p6a
    replace s9 : ld M6 22 9 = x3 := by first | assumption | (rw [fM6.ld (o := 22) (j := 9) (by intro hw; first | omega | (dsimp only [wSub, wRun, wNar, wFil, wCan, wLst, wCar, wDr, wFl, wMq, wRd, wRx, wCr, wTab, wTr, wNew, wKi, wKn, wTn, wOb, wPt, wTl, wOq] at hw; omega) | (simp [wSub, wRun, wNar, wFil, wCan, wLst, wCar, wDr, wFl, wMq, wRd, wRx, wCr, wTab, wTr, wNew, wKi, wKn, wTn, wOb, wPt, wTl, wOq] at hw; done) | (simp [wSub, wRun, wNar, wFil, wCan, wLst, wCar, wDr, wFl, wMq, wRd, wRx, wCr, wTab, wTr, wNew, wKi, wKn, wTn, wOb, wPt, wTl, wOq] at hw; omega))]; exact s9) | omega | exact p6a
    replace s10 : ld M6 22 10 = x4 := by first | assumption | (rw [fM6.ld (o := 22) (j := 10) (by intro hw; first | omega | (dsimp only [wSub, wRun, wNar, wFil, wCan, wLst, wCar, wDr, wFl, wMq, wRd, wRx, wCr, wTab, wTr, wNew, wKi, wKn, wTn, wOb, wPt, wTl, wOq] at hw; omega) | (simp [wSub, wRun, wNar, wFil, wCan, wLst, wCar, wDr, wFl, wMq, wRd, wRx, wCr, wTab, wTr, wNew, wKi, wKn, wTn, wOb, wPt, wTl, wOq] at hw; done) | (simp [wSub, wRun, wNar, wFil, wCan, wLst, wCar, wDr, wFl, wMq, wRd, wRx, wCr, wTab, wTr, wNew, wKi, wKn, wTn, wOb, wPt, wTl, wOq] at hw; omega))]; exact s10) | omega | exact p6a
    replace z7 : ld M6 22 7 = 0 ∧ ld M6 22 8 = 0 := ⟨by rw [fM6.ld (by omega)]; exact z7.1, by rw [fM6.ld (by omega)]; exact z7.2⟩
    have z53 : EqN (ld M6 53) (fun _ => 0) := fun j a1 a2 => p6a j a1 (by omega)
    have b37 : ld M6 22 10 ≠ 0 → BT M6 T k := fun q => by
      have q2 : ld M5 22 10 ≠ 0 := by rw [← fM6.ld (o := 22) (j := 10) (by omega)]; exact q
      first | exact absurd (by assumption) q2 | exact b33.fr fM6 (fun _ => by omega)
    have fPrev := fM
    refine uX7_run_45 (by first | assumption | exact ⟨rfl, Nat.le_of_ble_eq_true rfl⟩ | with_reducible exact yarr23 (by omega) | with_reducible exact yarr57 (by omega)) ?_
    intro M7 hM7
    replace fM := fr.cpy fM hM7 (by intro j hj1 hj2; exact (by first | omega | (dsimp only [wSub, wRun, wNar, wFil, wCan, wLst, wCar, wDr, wFl, wMq, wRd, wRx, wCr, wTab, wTr, wNew, wKi, wKn, wTn, wOb, wPt, wTl, wOq]; done) | (dsimp only [wSub, wRun, wNar, wFil, wCan, wLst, wCar, wDr, wFl, wMq, wRd, wRx, wCr, wTab, wTr, wNew, wKi, wKn, wTn, wOb, wPt, wTl, wOq]; omega) | (simp [wSub, wRun, wNar, wFil, wCan, wLst, wCar, wDr, wFl, wMq, wRd, wRx, wCr, wTab, wTr, wNew, wKi, wKn, wTn, wOb, wPt, wTl, wOq]; done) | (simp [wSub, wRun, wNar, wFil, wCan, wLst, wCar, wDr, wFl, wMq, wRd, wRx, wCr, wTab, wTr, wNew, wKi, wKn, wTn, wOb, wPt, wTl, wOq]; omega)))
    have k1_0 := fM.ld (o := 1) (j := 0) (by intro hw; first | omega | (dsimp only [wSub, wRun, wNar, wFil, wCan, wLst, wCar, wDr, wFl, wMq, wRd, wRx, wCr, wTab, wTr, wNew, wKi, wKn, wTn, wOb, wPt, wTl, wOq] at hw; omega) | (simp [wSub, wRun, wNar, wFil, wCan, wLst, wCar, wDr, wFl, wMq, wRd, wRx, wCr, wTab, wTr, wNew, wKi, wKn, wTn, wOb, wPt, wTl, wOq] at hw; done) | (simp [wSub, wRun, wNar, wFil, wCan, wLst, wCar, wDr, wFl, wMq, wRd, wRx, wCr, wTab, wTr, wNew, wKi, wKn, wTn, wOb, wPt, wTl, wOq] at hw; omega))
    replace s6 : ld M7 22 6 = x2 := by first | (rw [hM7, ld_putne (by omega)]; exact s6) | (rw [hM7, ld_same (by omega)]; omega) | (rw [hM7, ld_cpyne (by omega)]; exact s6) | (rw [hM7, ld_putL]; exact s6)
    replace s9 : ld M7 22 9 = x3 := by first | (rw [hM7, ld_putne (by omega)]; exact s9) | (rw [hM7, ld_same (by omega)]; omega) | (rw [hM7, ld_cpyne (by omega)]; exact s9) | (rw [hM7, ld_putL]; exact s9)
    replace s10 : ld M7 22 10 = x4 := by first | (rw [hM7, ld_putne (by omega)]; exact s10) | (rw [hM7, ld_same (by omega)]; omega) | (rw [hM7, ld_cpyne (by omega)]; exact s10) | (rw [hM7, ld_putL]; exact s10)
    replace z7 : ld M7 22 7 = 0 ∧ ld M7 22 8 = 0 := ⟨by rw [hM7, ld_cpyne (by omega)]; exact z7.1, by rw [hM7, ld_cpyne (by omega)]; exact z7.2⟩
    have e53 : ld M7 53 = ld M6 53 := funext fun j => by rw [hM7, ld_cpyne (by omega)]
    rw [← e53] at z53
    have b45 : ld M7 22 10 ≠ 0 → BT M7 T k := fun q => by
      have w := b37 (by rw [show ld M6 22 10 = ld M7 22 10 from by rw [hM7, ld_cpyne (by omega)]]; exact q)
      rw [hM7]
      exact w
    have x45 : ld M6 x1 = ld M x1 := funext fun j => fPrev.ld (by dsimp only [wRun]; omega)
    have e45 : EqN (ld M7 24) (ld M x1) := fun j a1 a2 => by
      rw [hM7, ld_cpy, if_pos ⟨rfl, a1, by omega⟩, x45]
      congr 1
      omega
    have s45 : SN f k n (ld M7 24) := hSN.eq hn2 e45.sy
    have d45 : D8 (ld M7 24) := fun d a b => by rw [e45 _ (by omega) (by omega)]; exact hD8 d a b
    have fl45 : ∀ κ, Fl T f k n (ld M7 24) κ ↔ Fl T f k n (ld M x1) κ := fun κ => fl_eq hn2 e45
    refine uX7_run_59 ?_
    refine n11_hasEmpty  ⟨rfl, Nat.le_of_ble_eq_true rfl⟩ (by omega) (fun v59 p8a => ?_)
    have q59 := p8a
    rw [s6, h2] at q59
    refine uX7_run_72 (by first | omega | assumption | with_reducible exact rng_ld _ _ _ | with_reducible exact rng_yand _ _ | with_reducible exact rng_yor _ _ | with_reducible exact rng_zcmp _ _ | with_reducible exact yand7 _ | with_reducible exact rng_toInt _ | with_reducible exact yarr23 (by omega) | with_reducible exact yarr57 (by omega) | with_reducible exact Or.inl rfl | with_reducible exact Or.inr rfl) (fun hc => ?_) (fun hc => ?_)
    · skip
      refine uX7_run_105 ?_
      exact kont _ _ fM (by first | exact run_ok hk1 hn2 h3 f99 z7.1 z7.2 x93 y93 z53c s9 rfl (q99.imp (fun q => q.2) (fun q => q.2)) | (rw [z7.1]; exact run_no hk1 hn2 h3.1 (fun κ v q => fl_no hT hn2 (q93.elim (fun q => absurd q.1 (by omega)) (fun q => q.2)) v ((fl45 κ).mpr q)) z53.sy z7.2) | (rw [z7.1]; exact run_no hk1 hn2 h3.1 (fun κ v q => em_no hT hn2 s45 (q59.elim (fun q => q.2) (fun q => absurd q.1 (by assumption))) v ((fl45 κ).mpr q)) z53.sy z7.2))
    · skip
      have f72 : emB n (ld M7 24) = false := q59.elim (fun q => absurd q.1 (by omega)) (fun q => q.2)
      have n72 := (emB_ne hk8 hT.2.1 hn2 s45).mp f72
      refine uX7_run_75 ?_
      refine XC.deep (n7_pairsNotAll  (d := 0) (by omega) (by omega) (fun v75 p9a => ?_)) (by omega)
      have q75 := p9a
      rw [k1_0, ek, s6, h2] at q75
      refine uX7_run_93 ?_
      refine XC.deep (n8_settles  (d := 0) ⟨rfl, Nat.le_of_ble_eq_true rfl⟩ (s6.trans h2) (by first | omega | assumption | with_reducible exact rng_ld _ _ _ | with_reducible exact rng_yand _ _ | with_reducible exact rng_yor _ _ | with_reducible exact rng_zcmp _ _ | with_reducible exact yand7 _ | with_reducible exact rng_toInt _ | with_reducible exact yarr23 (by omega) | with_reducible exact yarr57 (by omega) | with_reducible exact Or.inl rfl | with_reducible exact Or.inr rfl) (by omega) (hCT.fr fM (by (first | (dsimp only [wRun]; omega) | omega)) (fun _ => by (first | (dsimp only [wRun]; omega) | omega)) (fun _ => by (first | (dsimp only [wRun]; omega) | omega))) s45 n72 (vs_pn hT hn2 s45 hU q75) (pn_tv hn2 q75) (fun v93 M10 fM10 p10a => ?_)) (by omega)
      replace fM := fM.tr fM10 (by intro o j hw; first | omega | exact hw | (dsimp only [wSub, wRun, wNar, wFil, wCan, wLst, wCar, wDr, wFl, wMq, wRd, wRx, wCr, wTab, wTr, wNew, wKi, wKn, wTn, wOb, wPt, wTl, wOq] at hw; dsimp only [wSub, wRun, wNar, wFil, wCan, wLst, wCar, wDr, wFl, wMq, wRd, wRx, wCr, wTab, wTr, wNew, wKi, wKn, wTn, wOb, wPt, wTl, wOq]; omega) | (dsimp only [wSub, wRun, wNar, wFil, wCan, wLst, wCar, wDr, wFl, wMq, wRd, wRx, wCr, wTab, wTr, wNew, wKi, wKn, wTn, wOb, wPt, wTl, wOq]; omega) | (dsimp only [wSub, wRun, wNar, wFil, wCan, wLst, wCar, wDr, wFl, wMq, wRd, wRx, wCr, wTab, wTr, wNew, wKi, wKn, wTn, wOb, wPt, wTl, wOq] at hw; omega) | (simp [wSub, wRun, wNar, wFil, wCan, wLst, wCar, wDr, wFl, wMq, wRd, wRx, wCr, wTab, wTr, wNew, wKi, wKn, wTn, wOb, wPt, wTl, wOq] at hw; simp [wSub, wRun, wNar, wFil, wCan, wLst, wCar, wDr, wFl, wMq, wRd, wRx, wCr, wTab, wTr, wNew, wKi, wKn, wTn, wOb, wPt, wTl, wOq]; omega))
      have k1_0 := fM.ld (o := 1) (j := 0) (by intro hw; first | omega | (dsimp only [wSub, wRun, wNar, wFil, wCan, wLst, wCar, wDr, wFl, wMq, wRd, wRx, wCr, wTab, wTr, wNew, wKi, wKn, wTn, wOb, wPt, wTl, wOq] at hw; omega) | (simp [wSub, wRun, wNar, wFil, wCan, wLst, wCar, wDr, wFl, wMq, wRd, wRx, wCr, wTab, wTr, wNew, wKi, wKn, wTn, wOb, wPt, wTl, wOq] at hw; done) | (simp [wSub, wRun, wNar, wFil, wCan, wLst, wCar, wDr, wFl, wMq, wRd, wRx, wCr, wTab, wTr, wNew, wKi, wKn, wTn, wOb, wPt, wTl, wOq] at hw; omega))
      replace s6 : ld M10 22 6 = x2 := by first | assumption | (rw [fM10.ld (o := 22) (j := 6) (by intro hw; first | omega | (dsimp only [wSub, wRun, wNar, wFil, wCan, wLst, wCar, wDr, wFl, wMq, wRd, wRx, wCr, wTab, wTr, wNew, wKi, wKn, wTn, wOb, wPt, wTl, wOq] at hw; omega) | (simp [wSub, wRun, wNar, wFil, wCan, wLst, wCar, wDr, wFl, wMq, wRd, wRx, wCr, wTab, wTr, wNew, wKi, wKn, wTn, wOb, wPt, wTl, wOq] at hw; done) | (simp [wSub, wRun, wNar, wFil, wCan, wLst, wCar, wDr, wFl, wMq, wRd, wRx, wCr, wTab, wTr, wNew, wKi, wKn, wTn, wOb, wPt, wTl, wOq] at hw; omega))]; exact s6) | omega | exact p10a
      replace s9 : ld M10 22 9 = x3 := by first | assumption | (rw [fM10.ld (o := 22) (j := 9) (by intro hw; first | omega | (dsimp only [wSub, wRun, wNar, wFil, wCan, wLst, wCar, wDr, wFl, wMq, wRd, wRx, wCr, wTab, wTr, wNew, wKi, wKn, wTn, wOb, wPt, wTl, wOq] at hw; omega) | (simp [wSub, wRun, wNar, wFil, wCan, wLst, wCar, wDr, wFl, wMq, wRd, wRx, wCr, wTab, wTr, wNew, wKi, wKn, wTn, wOb, wPt, wTl, wOq] at hw; done) | (simp [wSub, wRun, wNar, wFil, wCan, wLst, wCar, wDr, wFl, wMq, wRd, wRx, wCr, wTab, wTr, wNew, wKi, wKn, wTn, wOb, wPt, wTl, wOq] at hw; omega))]; exact s9) | omega | exact p10a
      replace s10 : ld M10 22 10 = x4 := by first | assumption | (rw [fM10.ld (o := 22) (j := 10) (by intro hw; first | omega | (dsimp only [wSub, wRun, wNar, wFil, wCan, wLst, wCar, wDr, wFl, wMq, wRd, wRx, wCr, wTab, wTr, wNew, wKi, wKn, wTn, wOb, wPt, wTl, wOq] at hw; omega) | (simp [wSub, wRun, wNar, wFil, wCan, wLst, wCar, wDr, wFl, wMq, wRd, wRx, wCr, wTab, wTr, wNew, wKi, wKn, wTn, wOb, wPt, wTl, wOq] at hw; done) | (simp [wSub, wRun, wNar, wFil, wCan, wLst, wCar, wDr, wFl, wMq, wRd, wRx, wCr, wTab, wTr, wNew, wKi, wKn, wTn, wOb, wPt, wTl, wOq] at hw; omega))]; exact s10) | omega | exact p10a
      have q93 := p10a
      replace z7 : ld M10 22 7 = 0 ∧ ld M10 22 8 = 0 := ⟨by rw [fM10.ld (by omega)]; exact z7.1, by rw [fM10.ld (by omega)]; exact z7.2⟩
      have e93 : ld M10 53 = ld M7 53 := funext fun j => fM10.ld (by omega)
      rw [← e93] at z53
      have b93 : ld M10 22 10 ≠ 0 → BT M10 T k := fun q => (b45 (by rw [show ld M7 22 10 = ld M10 22 10 from (fM10.ld (by omega)).symm]; exact q)).fr fM10 (fun _ => by omega)
      have d93 : D01 (ld M10 53) := fun d a b => Or.inl (z53 _ (by omega) (by omega))
      have x93 := s9
      have y93 := s10
      refine uX7_run_96 (by first | omega | assumption | with_reducible exact rng_ld _ _ _ | with_reducible exact rng_yand _ _ | with_reducible exact rng_yor _ _ | with_reducible exact rng_zcmp _ _ | with_reducible exact yand7 _ | with_reducible exact rng_toInt _ | with_reducible exact yarr23 (by omega) | with_reducible exact yarr57 (by omega) | with_reducible exact Or.inl rfl | with_reducible exact Or.inr rfl) (fun hc => ?_) (fun hc => ?_)
      · skip
        refine uX7_run_105 ?_
        exact kont _ _ fM (by first | exact run_ok hk1 hn2 h3 f99 z7.1 z7.2 x93 y93 z53c s9 rfl (q99.imp (fun q => q.2) (fun q => q.2)) | (rw [z7.1]; exact run_no hk1 hn2 h3.1 (fun κ v q => fl_no hT hn2 (q93.elim (fun q => absurd q.1 (by omega)) (fun q => q.2)) v ((fl45 κ).mpr q)) z53.sy z7.2) | (rw [z7.1]; exact run_no hk1 hn2 h3.1 (fun κ v q => em_no hT hn2 s45 (q59.elim (fun q => q.2) (fun q => absurd q.1 (by assumption))) v ((fl45 κ).mpr q)) z53.sy z7.2))
      · skip
        have ok99 := (q93.elim (fun q => q.2) (fun q => absurd q.1 (by assumption)))
        have l93 : LV1 T f k n (ld M10 (24 + (0 : Int).toNat)) := ⟨ok99.1, ok99.2.1, ok99.2.2.1, fun d a b => (ok99.2.2.2.2.2 d a b).trans (d45 d a b)⟩
        have f99 : ∀ κ, KV k n κ → (Fl T f k n (ld M10 (24 + (0 : Int).toNat)) κ ↔ Fl T f k n (ld M x1) κ) := fun κ v => (fl_sok hT hn2 ok99 v).symm.trans (fl45 κ)
        have z53c := z53
        refine uX7_run_99 ?_
        refine XC.deep (n7_goOn 28  (d := 0) (by omega) (by omega) (s6.trans h2) (by first | omega | assumption | with_reducible exact rng_ld _ _ _ | with_reducible exact rng_yand _ _ | with_reducible exact rng_yor _ _ | with_reducible exact rng_zcmp _ _ | with_reducible exact yand7 _ | with_reducible exact rng_toInt _ | with_reducible exact yarr23 (by omega) | with_reducible exact yarr57 (by omega) | with_reducible exact Or.inl rfl | with_reducible exact Or.inr rfl) (hCT.fr fM (by (first | (dsimp only [wRun]; omega) | omega)) (fun _ => by (first | (dsimp only [wRun]; omega) | omega)) (fun _ => by (first | (dsimp only [wRun]; omega) | omega))) l93 (by have := (opc_b n (ld M10 (24 + (0 : Int).toNat))).2; omega) (by omega) (fun _ => by omega) d93 b93 (fun v99 M11 fM11 p11a => ?_)) (by omega)
        replace fM := fM.tr fM11 (by intro o j hw; first | omega | exact hw | (dsimp only [wSub, wRun, wNar, wFil, wCan, wLst, wCar, wDr, wFl, wMq, wRd, wRx, wCr, wTab, wTr, wNew, wKi, wKn, wTn, wOb, wPt, wTl, wOq] at hw; dsimp only [wSub, wRun, wNar, wFil, wCan, wLst, wCar, wDr, wFl, wMq, wRd, wRx, wCr, wTab, wTr, wNew, wKi, wKn, wTn, wOb, wPt, wTl, wOq]; omega) | (dsimp only [wSub, wRun, wNar, wFil, wCan, wLst, wCar, wDr, wFl, wMq, wRd, wRx, wCr, wTab, wTr, wNew, wKi, wKn, wTn, wOb, wPt, wTl, wOq]; omega) | (dsimp only [wSub, wRun, wNar, wFil, wCan, wLst, wCar, wDr, wFl, wMq, wRd, wRx, wCr, wTab, wTr, wNew, wKi, wKn, wTn, wOb, wPt, wTl, wOq] at hw; omega) | (simp [wSub, wRun, wNar, wFil, wCan, wLst, wCar, wDr, wFl, wMq, wRd, wRx, wCr, wTab, wTr, wNew, wKi, wKn, wTn, wOb, wPt, wTl, wOq] at hw; simp [wSub, wRun, wNar, wFil, wCan, wLst, wCar, wDr, wFl, wMq, wRd, wRx, wCr, wTab, wTr, wNew, wKi, wKn, wTn, wOb, wPt, wTl, wOq]; omega))
        have k1_0 := fM.ld (o := 1) (j := 0) (by intro hw; first | omega | (dsimp only [wSub, wRun, wNar, wFil, wCan, wLst, wCar, wDr, wFl, wMq, wRd, wRx, wCr, wTab, wTr, wNew, wKi, wKn, wTn, wOb, wPt, wTl, wOq] at hw; omega) | (simp [wSub, wRun, wNar, wFil, wCan, wLst, wCar, wDr, wFl, wMq, wRd, wRx, wCr, wTab, wTr, wNew, wKi, wKn, wTn, wOb, wPt, wTl, wOq] at hw; done) | (simp [wSub, wRun, wNar, wFil, wCan, wLst, wCar, wDr, wFl, wMq, wRd, wRx, wCr, wTab, wTr, wNew, wKi, wKn, wTn, wOb, wPt, wTl, wOq] at hw; omega))
        replace s6 : ld M11 22 6 = x2 := by first | assumption | (rw [fM11.ld (o := 22) (j := 6) (by intro hw; first | omega | (dsimp only [wSub, wRun, wNar, wFil, wCan, wLst, wCar, wDr, wFl, wMq, wRd, wRx, wCr, wTab, wTr, wNew, wKi, wKn, wTn, wOb, wPt, wTl, wOq] at hw; omega) | (simp [wSub, wRun, wNar, wFil, wCan, wLst, wCar, wDr, wFl, wMq, wRd, wRx, wCr, wTab, wTr, wNew, wKi, wKn, wTn, wOb, wPt, wTl, wOq] at hw; done) | (simp [wSub, wRun, wNar, wFil, wCan, wLst, wCar, wDr, wFl, wMq, wRd, wRx, wCr, wTab, wTr, wNew, wKi, wKn, wTn, wOb, wPt, wTl, wOq] at hw; omega))]; exact s6) | omega | exact p11a
        replace s9 : ld M11 22 9 = x3 := by first | assumption | (rw [fM11.ld (o := 22) (j := 9) (by intro hw; first | omega | (dsimp only [wSub, wRun, wNar, wFil, wCan, wLst, wCar, wDr, wFl, wMq, wRd, wRx, wCr, wTab, wTr, wNew, wKi, wKn, wTn, wOb, wPt, wTl, wOq] at hw; omega) | (simp [wSub, wRun, wNar, wFil, wCan, wLst, wCar, wDr, wFl, wMq, wRd, wRx, wCr, wTab, wTr, wNew, wKi, wKn, wTn, wOb, wPt, wTl, wOq] at hw; done) | (simp [wSub, wRun, wNar, wFil, wCan, wLst, wCar, wDr, wFl, wMq, wRd, wRx, wCr, wTab, wTr, wNew, wKi, wKn, wTn, wOb, wPt, wTl, wOq] at hw; omega))]; exact s9) | omega | exact p11a
        replace s10 : ld M11 22 10 = x4 := by first | assumption | (rw [fM11.ld (o := 22) (j := 10) (by intro hw; first | omega | (dsimp only [wSub, wRun, wNar, wFil, wCan, wLst, wCar, wDr, wFl, wMq, wRd, wRx, wCr, wTab, wTr, wNew, wKi, wKn, wTn, wOb, wPt, wTl, wOq] at hw; omega) | (simp [wSub, wRun, wNar, wFil, wCan, wLst, wCar, wDr, wFl, wMq, wRd, wRx, wCr, wTab, wTr, wNew, wKi, wKn, wTn, wOb, wPt, wTl, wOq] at hw; done) | (simp [wSub, wRun, wNar, wFil, wCan, wLst, wCar, wDr, wFl, wMq, wRd, wRx, wCr, wTab, wTr, wNew, wKi, wKn, wTn, wOb, wPt, wTl, wOq] at hw; omega))]; exact s10) | omega | exact p11a
        have q99 := p11a
        refine uX7_run_104 ?_
        refine uX7_run_105 ?_
        exact kont _ _ fM (by first | exact run_ok hk1 hn2 h3 f99 z7.1 z7.2 x93 y93 z53c s9 rfl (q99.imp (fun q => q.2) (fun q => q.2)) | (rw [z7.1]; exact run_no hk1 hn2 h3.1 (fun κ v q => fl_no hT hn2 (q93.elim (fun q => absurd q.1 (by omega)) (fun q => q.2)) v ((fl45 κ).mpr q)) z53.sy z7.2) | (rw [z7.1]; exact run_no hk1 hn2 h3.1 (fun κ v q => em_no hT hn2 s45 (q59.elim (fun q => q.2) (fun q => absurd q.1 (by assumption))) v ((fl45 κ).mpr q)) z53.sy z7.2))
  · skip
    refine uX7_run_33 ?_
    refine XC.deep (n7_listBetween  (d := 0) (hCT.fr fM (by (first | (dsimp only [wRun]; omega) | omega)) (fun _ => by (first | (dsimp only [wRun]; omega) | omega)) (fun _ => by (first | (dsimp only [wRun]; omega) | omega))) (by rw [← hT3]; exact funext fun j => fM.ld (by dsimp only [wRun]; omega)) hR (fun M12 fM12 p12a => ?_)) (by omega)
    replace fM := fM.tr fM12 (by intro o j hw; first | omega | exact hw | (dsimp only [wSub, wRun, wNar, wFil, wCan, wLst, wCar, wDr, wFl, wMq, wRd, wRx, wCr, wTab, wTr, wNew, wKi, wKn, wTn, wOb, wPt, wTl, wOq] at hw; dsimp only [wSub, wRun, wNar, wFil, wCan, wLst, wCar, wDr, wFl, wMq, wRd, wRx, wCr, wTab, wTr, wNew, wKi, wKn, wTn, wOb, wPt, wTl, wOq]; omega) | (dsimp only [wSub, wRun, wNar, wFil, wCan, wLst, wCar, wDr, wFl, wMq, wRd, wRx, wCr, wTab, wTr, wNew, wKi, wKn, wTn, wOb, wPt, wTl, wOq]; omega) | (dsimp only [wSub, wRun, wNar, wFil, wCan, wLst, wCar, wDr, wFl, wMq, wRd, wRx, wCr, wTab, wTr, wNew, wKi, wKn, wTn, wOb, wPt, wTl, wOq] at hw; omega) | (simp [wSub, wRun, wNar, wFil, wCan, wLst, wCar, wDr, wFl, wMq, wRd, wRx, wCr, wTab, wTr, wNew, wKi, wKn, wTn, wOb, wPt, wTl, wOq] at hw; simp [wSub, wRun, wNar, wFil, wCan, wLst, wCar, wDr, wFl, wMq, wRd, wRx, wCr, wTab, wTr, wNew, wKi, wKn, wTn, wOb, wPt, wTl, wOq]; omega))
    have k1_0 := fM.ld (o := 1) (j := 0) (by intro hw; first | omega | (dsimp only [wSub, wRun, wNar, wFil, wCan, wLst, wCar, wDr, wFl, wMq, wRd, wRx, wCr, wTab, wTr, wNew, wKi, wKn, wTn, wOb, wPt, wTl, wOq] at hw; omega) | (simp [wSub, wRun, wNar, wFil, wCan, wLst, wCar, wDr, wFl, wMq, wRd, wRx, wCr, wTab, wTr, wNew, wKi, wKn, wTn, wOb, wPt, wTl, wOq] at hw; done) | (simp [wSub, wRun, wNar, wFil, wCan, wLst, wCar, wDr, wFl, wMq, wRd, wRx, wCr, wTab, wTr, wNew, wKi, wKn, wTn, wOb, wPt, wTl, wOq] at hw; omega))
    replace s6 : ld M12 22 6 = x2 := by first | assumption | (rw [fM12.ld (o := 22) (j := 6) (by intro hw; first | omega | (dsimp only [wSub, wRun, wNar, wFil, wCan, wLst, wCar, wDr, wFl, wMq, wRd, wRx, wCr, wTab, wTr, wNew, wKi, wKn, wTn, wOb, wPt, wTl, wOq] at hw; omega) | (simp [wSub, wRun, wNar, wFil, wCan, wLst, wCar, wDr, wFl, wMq, wRd, wRx, wCr, wTab, wTr, wNew, wKi, wKn, wTn, wOb, wPt, wTl, wOq] at hw; done) | (simp [wSub, wRun, wNar, wFil, wCan, wLst, wCar, wDr, wFl, wMq, wRd, wRx, wCr, wTab, wTr, wNew, wKi, wKn, wTn, wOb, wPt, wTl, wOq] at hw; omega))]; exact s6) | omega | exact p12a
    replace s9 : ld M12 22 9 = x3 := by first | assumption | (rw [fM12.ld (o := 22) (j := 9) (by intro hw; first | omega | (dsimp only [wSub, wRun, wNar, wFil, wCan, wLst, wCar, wDr, wFl, wMq, wRd, wRx, wCr, wTab, wTr, wNew, wKi, wKn, wTn, wOb, wPt, wTl, wOq] at hw; omega) | (simp [wSub, wRun, wNar, wFil, wCan, wLst, wCar, wDr, wFl, wMq, wRd, wRx, wCr, wTab, wTr, wNew, wKi, wKn, wTn, wOb, wPt, wTl, wOq] at hw; done) | (simp [wSub, wRun, wNar, wFil, wCan, wLst, wCar, wDr, wFl, wMq, wRd, wRx, wCr, wTab, wTr, wNew, wKi, wKn, wTn, wOb, wPt, wTl, wOq] at hw; omega))]; exact s9) | omega | exact p12a
    replace s10 : ld M12 22 10 = x4 := by first | assumption | (rw [fM12.ld (o := 22) (j := 10) (by intro hw; first | omega | (dsimp only [wSub, wRun, wNar, wFil, wCan, wLst, wCar, wDr, wFl, wMq, wRd, wRx, wCr, wTab, wTr, wNew, wKi, wKn, wTn, wOb, wPt, wTl, wOq] at hw; omega) | (simp [wSub, wRun, wNar, wFil, wCan, wLst, wCar, wDr, wFl, wMq, wRd, wRx, wCr, wTab, wTr, wNew, wKi, wKn, wTn, wOb, wPt, wTl, wOq] at hw; done) | (simp [wSub, wRun, wNar, wFil, wCan, wLst, wCar, wDr, wFl, wMq, wRd, wRx, wCr, wTab, wTr, wNew, wKi, wKn, wTn, wOb, wPt, wTl, wOq] at hw; omega))]; exact s10) | omega | exact p12a
    replace z7 : ld M12 22 7 = 0 ∧ ld M12 22 8 = 0 := ⟨by rw [fM12.ld (by omega)]; exact z7.1, by rw [fM12.ld (by omega)]; exact z7.2⟩
    have b33 := p12a
    refine uX7_run_37 ?_
    refine nJ7_fill  ⟨rfl, Nat.le_of_ble_eq_true rfl⟩ (by omega) (fun M13 fM13 p13a => ?_)
    replace fM := fM.tr fM13 (by intro o j hw; first | omega | exact hw | (dsimp only [wSub, wRun, wNar, wFil, wCan, wLst, wCar, wDr, wFl, wMq, wRd, wRx, wCr, wTab, wTr, wNew, wKi, wKn, wTn, wOb, wPt, wTl, wOq] at hw; dsimp only [wSub, wRun, wNar, wFil, wCan, wLst, wCar, wDr, wFl, wMq, wRd, wRx, wCr, wTab, wTr, wNew, wKi, wKn, wTn, wOb, wPt, wTl, wOq]; omega) | (dsimp only [wSub, wRun, wNar, wFil, wCan, wLst, wCar, wDr, wFl, wMq, wRd, wRx, wCr, wTab, wTr, wNew, wKi, wKn, wTn, wOb, wPt, wTl, wOq]; omega) | (dsimp only [wSub, wRun, wNar, wFil, wCan, wLst, wCar, wDr, wFl, wMq, wRd, wRx, wCr, wTab, wTr, wNew, wKi, wKn, wTn, wOb, wPt, wTl, wOq] at hw; omega) | (simp [wSub, wRun, wNar, wFil, wCan, wLst, wCar, wDr, wFl, wMq, wRd, wRx, wCr, wTab, wTr, wNew, wKi, wKn, wTn, wOb, wPt, wTl, wOq] at hw; simp [wSub, wRun, wNar, wFil, wCan, wLst, wCar, wDr, wFl, wMq, wRd, wRx, wCr, wTab, wTr, wNew, wKi, wKn, wTn, wOb, wPt, wTl, wOq]; omega))
    have k1_0 := fM.ld (o := 1) (j := 0) (by intro hw; first | omega | (dsimp only [wSub, wRun, wNar, wFil, wCan, wLst, wCar, wDr, wFl, wMq, wRd, wRx, wCr, wTab, wTr, wNew, wKi, wKn, wTn, wOb, wPt, wTl, wOq] at hw; omega) | (simp [wSub, wRun, wNar, wFil, wCan, wLst, wCar, wDr, wFl, wMq, wRd, wRx, wCr, wTab, wTr, wNew, wKi, wKn, wTn, wOb, wPt, wTl, wOq] at hw; done) | (simp [wSub, wRun, wNar, wFil, wCan, wLst, wCar, wDr, wFl, wMq, wRd, wRx, wCr, wTab, wTr, wNew, wKi, wKn, wTn, wOb, wPt, wTl, wOq] at hw; omega))
    replace s6 : ld M13 22 6 = x2 := by first | assumption | (rw [fM13.ld (o := 22) (j := 6) (by intro hw; first | omega | (dsimp only [wSub, wRun, wNar, wFil, wCan, wLst, wCar, wDr, wFl, wMq, wRd, wRx, wCr, wTab, wTr, wNew, wKi, wKn, wTn, wOb, wPt, wTl, wOq] at hw; omega) | (simp [wSub, wRun, wNar, wFil, wCan, wLst, wCar, wDr, wFl, wMq, wRd, wRx, wCr, wTab, wTr, wNew, wKi, wKn, wTn, wOb, wPt, wTl, wOq] at hw; done) | (simp [wSub, wRun, wNar, wFil, wCan, wLst, wCar, wDr, wFl, wMq, wRd, wRx, wCr, wTab, wTr, wNew, wKi, wKn, wTn, wOb, wPt, wTl, wOq] at hw; omega))]; exact s6) | omega | exact p13a
    replace s9 : ld M13 22 9 = x3 := by first | assumption | (rw [fM13.ld (o := 22) (j := 9) (by intro hw; first | omega | (dsimp only [wSub, wRun, wNar, wFil, wCan, wLst, wCar, wDr, wFl, wMq, wRd, wRx, wCr, wTab, wTr, wNew, wKi, wKn, wTn, wOb, wPt, wTl, wOq] at hw; omega) | (simp [wSub, wRun, wNar, wFil, wCan, wLst, wCar, wDr, wFl, wMq, wRd, wRx, wCr, wTab, wTr, wNew, wKi, wKn, wTn, wOb, wPt, wTl, wOq] at hw; done) | (simp [wSub, wRun, wNar, wFil, wCan, wLst, wCar, wDr, wFl, wMq, wRd, wRx, wCr, wTab, wTr, wNew, wKi, wKn, wTn, wOb, wPt, wTl, wOq] at hw; omega))]; exact s9) | omega | exact p13a
    replace s10 : ld M13 22 10 = x4 := by first | assumption | (rw [fM13.ld (o := 22) (j := 10) (by intro hw; first | omega | (dsimp only [wSub, wRun, wNar, wFil, wCan, wLst, wCar, wDr, wFl, wMq, wRd, wRx, wCr, wTab, wTr, wNew, wKi, wKn, wTn, wOb, wPt, wTl, wOq] at hw; omega) | (simp [wSub, wRun, wNar, wFil, wCan, wLst, wCar, wDr, wFl, wMq, wRd, wRx, wCr, wTab, wTr, wNew, wKi, wKn, wTn, wOb, wPt, wTl, wOq] at hw; done) | (simp [wSub, wRun, wNar, wFil, wCan, wLst, wCar, wDr, wFl, wMq, wRd, wRx, wCr, wTab, wTr, wNew, wKi, wKn, wTn, wOb, wPt, wTl, wOq] at hw; omega))]; exact s10) | omega | exact p13a
    replace z7 : ld M13 22 7 = 0 ∧ ld M13 22 8 = 0 := ⟨by rw [fM13.ld (by omega)]; exact z7.1, by rw [fM13.ld (by omega)]; exact z7.2⟩
    have z53 : EqN (ld M13 53) (fun _ => 0) := fun j a1 a2 => p13a j a1 (by omega)
    have b37 : ld M13 22 10 ≠ 0 → BT M13 T k := fun q => by
      have q2 : ld M12 22 10 ≠ 0 := by rw [← fM13.ld (o := 22) (j := 10) (by omega)]; exact q
      first | exact absurd (by assumption) q2 | exact b33.fr fM13 (fun _ => by omega)
    have fPrev := fM
    refine uX7_run_45 (by first | assumption | exact ⟨rfl, Nat.le_of_ble_eq_true rfl⟩ | with_reducible exact yarr23 (by omega) | with_reducible exact yarr57 (by omega)) ?_
    intro M14 hM14
    replace fM := fr.cpy fM hM14 (by intro j hj1 hj2; exact (by first | omega | (dsimp only [wSub, wRun, wNar, wFil, wCan, wLst, wCar, wDr, wFl, wMq, wRd, wRx, wCr, wTab, wTr, wNew, wKi, wKn, wTn, wOb, wPt, wTl, wOq]; done) | (dsimp only [wSub, wRun, wNar, wFil, wCan, wLst, wCar, wDr, wFl, wMq, wRd, wRx, wCr, wTab, wTr, wNew, wKi, wKn, wTn, wOb, wPt, wTl, wOq]; omega) | (simp [wSub, wRun, wNar, wFil, wCan, wLst, wCar, wDr, wFl, wMq, wRd, wRx, wCr, wTab, wTr, wNew, wKi, wKn, wTn, wOb, wPt, wTl, wOq]; done) | (simp [wSub, wRun, wNar, wFil, wCan, wLst, wCar, wDr, wFl, wMq, wRd, wRx, wCr, wTab, wTr, wNew, wKi, wKn, wTn, wOb, wPt, wTl, wOq]; omega)))
    have k1_0 := fM.ld (o := 1) (j := 0) (by intro hw; first | omega | (dsimp only [wSub, wRun, wNar, wFil, wCan, wLst, wCar, wDr, wFl, wMq, wRd, wRx, wCr, wTab, wTr, wNew, wKi, wKn, wTn, wOb, wPt, wTl, wOq] at hw; omega) | (simp [wSub, wRun, wNar, wFil, wCan, wLst, wCar, wDr, wFl, wMq, wRd, wRx, wCr, wTab, wTr, wNew, wKi, wKn, wTn, wOb, wPt, wTl, wOq] at hw; done) | (simp [wSub, wRun, wNar, wFil, wCan, wLst, wCar, wDr, wFl, wMq, wRd, wRx, wCr, wTab, wTr, wNew, wKi, wKn, wTn, wOb, wPt, wTl, wOq] at hw; omega))
    replace s6 : ld M14 22 6 = x2 := by first | (rw [hM14, ld_putne (by omega)]; exact s6) | (rw [hM14, ld_same (by omega)]; omega) | (rw [hM14, ld_cpyne (by omega)]; exact s6) | (rw [hM14, ld_putL]; exact s6)
    replace s9 : ld M14 22 9 = x3 := by first | (rw [hM14, ld_putne (by omega)]; exact s9) | (rw [hM14, ld_same (by omega)]; omega) | (rw [hM14, ld_cpyne (by omega)]; exact s9) | (rw [hM14, ld_putL]; exact s9)
    replace s10 : ld M14 22 10 = x4 := by first | (rw [hM14, ld_putne (by omega)]; exact s10) | (rw [hM14, ld_same (by omega)]; omega) | (rw [hM14, ld_cpyne (by omega)]; exact s10) | (rw [hM14, ld_putL]; exact s10)
    replace z7 : ld M14 22 7 = 0 ∧ ld M14 22 8 = 0 := ⟨by rw [hM14, ld_cpyne (by omega)]; exact z7.1, by rw [hM14, ld_cpyne (by omega)]; exact z7.2⟩
    have e53 : ld M14 53 = ld M13 53 := funext fun j => by rw [hM14, ld_cpyne (by omega)]
    rw [← e53] at z53
    have b45 : ld M14 22 10 ≠ 0 → BT M14 T k := fun q => by
      have w := b37 (by rw [show ld M13 22 10 = ld M14 22 10 from by rw [hM14, ld_cpyne (by omega)]]; exact q)
      rw [hM14]
      exact w
    have x45 : ld M13 x1 = ld M x1 := funext fun j => fPrev.ld (by dsimp only [wRun]; omega)
    have e45 : EqN (ld M14 24) (ld M x1) := fun j a1 a2 => by
      rw [hM14, ld_cpy, if_pos ⟨rfl, a1, by omega⟩, x45]
      congr 1
      omega
    have s45 : SN f k n (ld M14 24) := hSN.eq hn2 e45.sy
    have d45 : D8 (ld M14 24) := fun d a b => by rw [e45 _ (by omega) (by omega)]; exact hD8 d a b
    have fl45 : ∀ κ, Fl T f k n (ld M14 24) κ ↔ Fl T f k n (ld M x1) κ := fun κ => fl_eq hn2 e45
    refine uX7_run_59 ?_
    refine n11_hasEmpty  ⟨rfl, Nat.le_of_ble_eq_true rfl⟩ (by omega) (fun v59 p15a => ?_)
    have q59 := p15a
    rw [s6, h2] at q59
    refine uX7_run_72 (by first | omega | assumption | with_reducible exact rng_ld _ _ _ | with_reducible exact rng_yand _ _ | with_reducible exact rng_yor _ _ | with_reducible exact rng_zcmp _ _ | with_reducible exact yand7 _ | with_reducible exact rng_toInt _ | with_reducible exact yarr23 (by omega) | with_reducible exact yarr57 (by omega) | with_reducible exact Or.inl rfl | with_reducible exact Or.inr rfl) (fun hc => ?_) (fun hc => ?_)
    · skip
      refine uX7_run_105 ?_
      exact kont _ _ fM (by first | exact run_ok hk1 hn2 h3 f99 z7.1 z7.2 x93 y93 z53c s9 rfl (q99.imp (fun q => q.2) (fun q => q.2)) | (rw [z7.1]; exact run_no hk1 hn2 h3.1 (fun κ v q => fl_no hT hn2 (q93.elim (fun q => absurd q.1 (by omega)) (fun q => q.2)) v ((fl45 κ).mpr q)) z53.sy z7.2) | (rw [z7.1]; exact run_no hk1 hn2 h3.1 (fun κ v q => em_no hT hn2 s45 (q59.elim (fun q => q.2) (fun q => absurd q.1 (by assumption))) v ((fl45 κ).mpr q)) z53.sy z7.2))
    · skip
      have f72 : emB n (ld M14 24) = false := q59.elim (fun q => absurd q.1 (by omega)) (fun q => q.2)
      have n72 := (emB_ne hk8 hT.2.1 hn2 s45).mp f72
      refine uX7_run_75 ?_
      refine XC.deep (n7_pairsNotAll  (d := 0) (by omega) (by omega) (fun v75 p16a => ?_)) (by omega)
      have q75 := p16a
      rw [k1_0, ek, s6, h2] at q75
      refine uX7_run_93 ?_
      refine XC.deep (n8_settles  (d := 0) ⟨rfl, Nat.le_of_ble_eq_true rfl⟩ (s6.trans h2) (by first | omega | assumption | with_reducible exact rng_ld _ _ _ | with_reducible exact rng_yand _ _ | with_reducible exact rng_yor _ _ | with_reducible exact rng_zcmp _ _ | with_reducible exact yand7 _ | with_reducible exact rng_toInt _ | with_reducible exact yarr23 (by omega) | with_reducible exact yarr57 (by omega) | with_reducible exact Or.inl rfl | with_reducible exact Or.inr rfl) (by omega) (hCT.fr fM (by (first | (dsimp only [wRun]; omega) | omega)) (fun _ => by (first | (dsimp only [wRun]; omega) | omega)) (fun _ => by (first | (dsimp only [wRun]; omega) | omega))) s45 n72 (vs_pn hT hn2 s45 hU q75) (pn_tv hn2 q75) (fun v93 M17 fM17 p17a => ?_)) (by omega)
      replace fM := fM.tr fM17 (by intro o j hw; first | omega | exact hw | (dsimp only [wSub, wRun, wNar, wFil, wCan, wLst, wCar, wDr, wFl, wMq, wRd, wRx, wCr, wTab, wTr, wNew, wKi, wKn, wTn, wOb, wPt, wTl, wOq] at hw; dsimp only [wSub, wRun, wNar, wFil, wCan, wLst, wCar, wDr, wFl, wMq, wRd, wRx, wCr, wTab, wTr, wNew, wKi, wKn, wTn, wOb, wPt, wTl, wOq]; omega) | (dsimp only [wSub, wRun, wNar, wFil, wCan, wLst, wCar, wDr, wFl, wMq, wRd, wRx, wCr, wTab, wTr, wNew, wKi, wKn, wTn, wOb, wPt, wTl, wOq]; omega) | (dsimp only [wSub, wRun, wNar, wFil, wCan, wLst, wCar, wDr, wFl, wMq, wRd, wRx, wCr, wTab, wTr, wNew, wKi, wKn, wTn, wOb, wPt, wTl, wOq] at hw; omega) | (simp [wSub, wRun, wNar, wFil, wCan, wLst, wCar, wDr, wFl, wMq, wRd, wRx, wCr, wTab, wTr, wNew, wKi, wKn, wTn, wOb, wPt, wTl, wOq] at hw; simp [wSub, wRun, wNar, wFil, wCan, wLst, wCar, wDr, wFl, wMq, wRd, wRx, wCr, wTab, wTr, wNew, wKi, wKn, wTn, wOb, wPt, wTl, wOq]; omega))
      have k1_0 := fM.ld (o := 1) (j := 0) (by intro hw; first | omega | (dsimp only [wSub, wRun, wNar, wFil, wCan, wLst, wCar, wDr, wFl, wMq, wRd, wRx, wCr, wTab, wTr, wNew, wKi, wKn, wTn, wOb, wPt, wTl, wOq] at hw; omega) | (simp [wSub, wRun, wNar, wFil, wCan, wLst, wCar, wDr, wFl, wMq, wRd, wRx, wCr, wTab, wTr, wNew, wKi, wKn, wTn, wOb, wPt, wTl, wOq] at hw; done) | (simp [wSub, wRun, wNar, wFil, wCan, wLst, wCar, wDr, wFl, wMq, wRd, wRx, wCr, wTab, wTr, wNew, wKi, wKn, wTn, wOb, wPt, wTl, wOq] at hw; omega))
      replace s6 : ld M17 22 6 = x2 := by first | assumption | (rw [fM17.ld (o := 22) (j := 6) (by intro hw; first | omega | (dsimp only [wSub, wRun, wNar, wFil, wCan, wLst, wCar, wDr, wFl, wMq, wRd, wRx, wCr, wTab, wTr, wNew, wKi, wKn, wTn, wOb, wPt, wTl, wOq] at hw; omega) | (simp [wSub, wRun, wNar, wFil, wCan, wLst, wCar, wDr, wFl, wMq, wRd, wRx, wCr, wTab, wTr, wNew, wKi, wKn, wTn, wOb, wPt, wTl, wOq] at hw; done) | (simp [wSub, wRun, wNar, wFil, wCan, wLst, wCar, wDr, wFl, wMq, wRd, wRx, wCr, wTab, wTr, wNew, wKi, wKn, wTn, wOb, wPt, wTl, wOq] at hw; omega))]; exact s6) | omega | exact p17a
      replace s9 : ld M17 22 9 = x3 := by first | assumption | (rw [fM17.ld (o := 22) (j := 9) (by intro hw; first | omega | (dsimp only [wSub, wRun, wNar, wFil, wCan, wLst, wCar, wDr, wFl, wMq, wRd, wRx, wCr, wTab, wTr, wNew, wKi, wKn, wTn, wOb, wPt, wTl, wOq] at hw; omega) | (simp [wSub, wRun, wNar, wFil, wCan, wLst, wCar, wDr, wFl, wMq, wRd, wRx, wCr, wTab, wTr, wNew, wKi, wKn, wTn, wOb, wPt, wTl, wOq] at hw; done) | (simp [wSub, wRun, wNar, wFil, wCan, wLst, wCar, wDr, wFl, wMq, wRd, wRx, wCr, wTab, wTr, wNew, wKi, wKn, wTn, wOb, wPt, wTl, wOq] at hw; omega))]; exact s9) | omega | exact p17a
      replace s10 : ld M17 22 10 = x4 := by first | assumption | (rw [fM17.ld (o := 22) (j := 10) (by intro hw; first | omega | (dsimp only [wSub, wRun, wNar, wFil, wCan, wLst, wCar, wDr, wFl, wMq, wRd, wRx, wCr, wTab, wTr, wNew, wKi, wKn, wTn, wOb, wPt, wTl, wOq] at hw; omega) | (simp [wSub, wRun, wNar, wFil, wCan, wLst, wCar, wDr, wFl, wMq, wRd, wRx, wCr, wTab, wTr, wNew, wKi, wKn, wTn, wOb, wPt, wTl, wOq] at hw; done) | (simp [wSub, wRun, wNar, wFil, wCan, wLst, wCar, wDr, wFl, wMq, wRd, wRx, wCr, wTab, wTr, wNew, wKi, wKn, wTn, wOb, wPt, wTl, wOq] at hw; omega))]; exact s10) | omega | exact p17a
      have q93 := p17a
      replace z7 : ld M17 22 7 = 0 ∧ ld M17 22 8 = 0 := ⟨by rw [fM17.ld (by omega)]; exact z7.1, by rw [fM17.ld (by omega)]; exact z7.2⟩
      have e93 : ld M17 53 = ld M14 53 := funext fun j => fM17.ld (by omega)
      rw [← e93] at z53
      have b93 : ld M17 22 10 ≠ 0 → BT M17 T k := fun q => (b45 (by rw [show ld M14 22 10 = ld M17 22 10 from (fM17.ld (by omega)).symm]; exact q)).fr fM17 (fun _ => by omega)
      have d93 : D01 (ld M17 53) := fun d a b => Or.inl (z53 _ (by omega) (by omega))
      have x93 := s9
      have y93 := s10
      refine uX7_run_96 (by first | omega | assumption | with_reducible exact rng_ld _ _ _ | with_reducible exact rng_yand _ _ | with_reducible exact rng_yor _ _ | with_reducible exact rng_zcmp _ _ | with_reducible exact yand7 _ | with_reducible exact rng_toInt _ | with_reducible exact yarr23 (by omega) | with_reducible exact yarr57 (by omega) | with_reducible exact Or.inl rfl | with_reducible exact Or.inr rfl) (fun hc => ?_) (fun hc => ?_)
      · skip
        refine uX7_run_105 ?_
        exact kont _ _ fM (by first | exact run_ok hk1 hn2 h3 f99 z7.1 z7.2 x93 y93 z53c s9 rfl (q99.imp (fun q => q.2) (fun q => q.2)) | (rw [z7.1]; exact run_no hk1 hn2 h3.1 (fun κ v q => fl_no hT hn2 (q93.elim (fun q => absurd q.1 (by omega)) (fun q => q.2)) v ((fl45 κ).mpr q)) z53.sy z7.2) | (rw [z7.1]; exact run_no hk1 hn2 h3.1 (fun κ v q => em_no hT hn2 s45 (q59.elim (fun q => q.2) (fun q => absurd q.1 (by assumption))) v ((fl45 κ).mpr q)) z53.sy z7.2))
      · skip
        have ok99 := (q93.elim (fun q => q.2) (fun q => absurd q.1 (by assumption)))
        have l93 : LV1 T f k n (ld M17 (24 + (0 : Int).toNat)) := ⟨ok99.1, ok99.2.1, ok99.2.2.1, fun d a b => (ok99.2.2.2.2.2 d a b).trans (d45 d a b)⟩
        have f99 : ∀ κ, KV k n κ → (Fl T f k n (ld M17 (24 + (0 : Int).toNat)) κ ↔ Fl T f k n (ld M x1) κ) := fun κ v => (fl_sok hT hn2 ok99 v).symm.trans (fl45 κ)
        have z53c := z53
        refine uX7_run_99 ?_
        refine XC.deep (n7_goOn 28  (d := 0) (by omega) (by omega) (s6.trans h2) (by first | omega | assumption | with_reducible exact rng_ld _ _ _ | with_reducible exact rng_yand _ _ | with_reducible exact rng_yor _ _ | with_reducible exact rng_zcmp _ _ | with_reducible exact yand7 _ | with_reducible exact rng_toInt _ | with_reducible exact yarr23 (by omega) | with_reducible exact yarr57 (by omega) | with_reducible exact Or.inl rfl | with_reducible exact Or.inr rfl) (hCT.fr fM (by (first | (dsimp only [wRun]; omega) | omega)) (fun _ => by (first | (dsimp only [wRun]; omega) | omega)) (fun _ => by (first | (dsimp only [wRun]; omega) | omega))) l93 (by have := (opc_b n (ld M17 (24 + (0 : Int).toNat))).2; omega) (by omega) (fun _ => by omega) d93 b93 (fun v99 M18 fM18 p18a => ?_)) (by omega)
        replace fM := fM.tr fM18 (by intro o j hw; first | omega | exact hw | (dsimp only [wSub, wRun, wNar, wFil, wCan, wLst, wCar, wDr, wFl, wMq, wRd, wRx, wCr, wTab, wTr, wNew, wKi, wKn, wTn, wOb, wPt, wTl, wOq] at hw; dsimp only [wSub, wRun, wNar, wFil, wCan, wLst, wCar, wDr, wFl, wMq, wRd, wRx, wCr, wTab, wTr, wNew, wKi, wKn, wTn, wOb, wPt, wTl, wOq]; omega) | (dsimp only [wSub, wRun, wNar, wFil, wCan, wLst, wCar, wDr, wFl, wMq, wRd, wRx, wCr, wTab, wTr, wNew, wKi, wKn, wTn, wOb, wPt, wTl, wOq]; omega) | (dsimp only [wSub, wRun, wNar, wFil, wCan, wLst, wCar, wDr, wFl, wMq, wRd, wRx, wCr, wTab, wTr, wNew, wKi, wKn, wTn, wOb, wPt, wTl, wOq] at hw; omega) | (simp [wSub, wRun, wNar, wFil, wCan, wLst, wCar, wDr, wFl, wMq, wRd, wRx, wCr, wTab, wTr, wNew, wKi, wKn, wTn, wOb, wPt, wTl, wOq] at hw; simp [wSub, wRun, wNar, wFil, wCan, wLst, wCar, wDr, wFl, wMq, wRd, wRx, wCr, wTab, wTr, wNew, wKi, wKn, wTn, wOb, wPt, wTl, wOq]; omega))
        have k1_0 := fM.ld (o := 1) (j := 0) (by intro hw; first | omega | (dsimp only [wSub, wRun, wNar, wFil, wCan, wLst, wCar, wDr, wFl, wMq, wRd, wRx, wCr, wTab, wTr, wNew, wKi, wKn, wTn, wOb, wPt, wTl, wOq] at hw; omega) | (simp [wSub, wRun, wNar, wFil, wCan, wLst, wCar, wDr, wFl, wMq, wRd, wRx, wCr, wTab, wTr, wNew, wKi, wKn, wTn, wOb, wPt, wTl, wOq] at hw; done) | (simp [wSub, wRun, wNar, wFil, wCan, wLst, wCar, wDr, wFl, wMq, wRd, wRx, wCr, wTab, wTr, wNew, wKi, wKn, wTn, wOb, wPt, wTl, wOq] at hw; omega))
        replace s6 : ld M18 22 6 = x2 := by first | assumption | (rw [fM18.ld (o := 22) (j := 6) (by intro hw; first | omega | (dsimp only [wSub, wRun, wNar, wFil, wCan, wLst, wCar, wDr, wFl, wMq, wRd, wRx, wCr, wTab, wTr, wNew, wKi, wKn, wTn, wOb, wPt, wTl, wOq] at hw; omega) | (simp [wSub, wRun, wNar, wFil, wCan, wLst, wCar, wDr, wFl, wMq, wRd, wRx, wCr, wTab, wTr, wNew, wKi, wKn, wTn, wOb, wPt, wTl, wOq] at hw; done) | (simp [wSub, wRun, wNar, wFil, wCan, wLst, wCar, wDr, wFl, wMq, wRd, wRx, wCr, wTab, wTr, wNew, wKi, wKn, wTn, wOb, wPt, wTl, wOq] at hw; omega))]; exact s6) | omega | exact p18a
        replace s9 : ld M18 22 9 = x3 := by first | assumption | (rw [fM18.ld (o := 22) (j := 9) (by intro hw; first | omega | (dsimp only [wSub, wRun, wNar, wFil, wCan, wLst, wCar, wDr, wFl, wMq, wRd, wRx, wCr, wTab, wTr, wNew, wKi, wKn, wTn, wOb, wPt, wTl, wOq] at hw; omega) | (simp [wSub, wRun, wNar, wFil, wCan, wLst, wCar, wDr, wFl, wMq, wRd, wRx, wCr, wTab, wTr, wNew, wKi, wKn, wTn, wOb, wPt, wTl, wOq] at hw; done) | (simp [wSub, wRun, wNar, wFil, wCan, wLst, wCar, wDr, wFl, wMq, wRd, wRx, wCr, wTab, wTr, wNew, wKi, wKn, wTn, wOb, wPt, wTl, wOq] at hw; omega))]; exact s9) | omega | exact p18a
        replace s10 : ld M18 22 10 = x4 := by first | assumption | (rw [fM18.ld (o := 22) (j := 10) (by intro hw; first | omega | (dsimp only [wSub, wRun, wNar, wFil, wCan, wLst, wCar, wDr, wFl, wMq, wRd, wRx, wCr, wTab, wTr, wNew, wKi, wKn, wTn, wOb, wPt, wTl, wOq] at hw; omega) | (simp [wSub, wRun, wNar, wFil, wCan, wLst, wCar, wDr, wFl, wMq, wRd, wRx, wCr, wTab, wTr, wNew, wKi, wKn, wTn, wOb, wPt, wTl, wOq] at hw; done) | (simp [wSub, wRun, wNar, wFil, wCan, wLst, wCar, wDr, wFl, wMq, wRd, wRx, wCr, wTab, wTr, wNew, wKi, wKn, wTn, wOb, wPt, wTl, wOq] at hw; omega))]; exact s10) | omega | exact p18a
        have q99 := p18a
        refine uX7_run_104 ?_
        refine uX7_run_105 ?_
        exact kont _ _ fM (by first | exact run_ok hk1 hn2 h3 f99 z7.1 z7.2 x93 y93 z53c s9 rfl (q99.imp (fun q => q.2) (fun q => q.2)) | (rw [z7.1]; exact run_no hk1 hn2 h3.1 (fun κ v q => fl_no hT hn2 (q93.elim (fun q => absurd q.1 (by omega)) (fun q => q.2)) v ((fl45 κ).mpr q)) z53.sy z7.2) | (rw [z7.1]; exact run_no hk1 hn2 h3.1 (fun κ v q => em_no hT hn2 s45 (q59.elim (fun q => q.2) (fun q => absurd q.1 (by assumption))) v ((fl45 κ).mpr q)) z53.sy z7.2))
