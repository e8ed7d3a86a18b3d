/-! CLASS: THE CALLS, MORE -/
theorem cn_cg {f g : Int → Int} {a b : Int} (ha : g a = f a) (hb : g b = f b) : ∀ n : Nat, cn g a b n = cn f a b n
  | 0 => rfl
  | n + 1 => by simp only [cn]; rw [cn_cg ha hb n, ha, hb]
theorem nm_cg {f g : Int → Int} {a b : Int} (ha : g a = f a) (hb : g b = f b) (c : Int) : nm g a b c = nm f a b c := by
  unfold nm rp
  rw [ha, hb, cn_cg ha hb]
theorem FH.cg {f g : Int → Int} {k a b : Int} (h : FH f k a b) (e : ∀ j, 0 ≤ j → j < 8 → g j = f j) : FH g k a b := by
  have hp := h.p
  obtain ⟨h0, h1, h2, h3, h4, h5, h6⟩ := h
  have ea := e a (by omega) (by omega)
  have eb := e b (by omega) (by omega)
  refine ⟨h0, h1, h2, h3, fun j q1 q2 => ?_, by rw [ea, eb]; exact h5, by rw [ea]; exact h6⟩
  have h := h4 j q1 q2
  rw [e j q1 (by omega), e (f j) (by omega) (by omega)]
  exact h
theorem FT.cg {f g t t' : Int → Int} {a b k : Int} (hF : FH f k a b) (e : ∀ j, 0 ≤ j → j < 8 → g j = f j) (e' : ∀ j, t' j = t j) (h : FT g a b k t) : FT f a b k t' := fun c h1 h2 => by
  have hk := hF.1
  have ha := hF.2.1
  have hb := hF.2.2.1
  have q := h c h1 h2
  have q1 := e a (by omega) (by omega)
  have q2 := e b (by omega) (by omega)
  rw [nm_cg q1 q2, nm_cg q1 q2, e c h1 (by omega)] at q
  rw [e']
  exact q
theorem TW.cg {f g f' g' t t' : Int → Int} {k m y : Int} (hk : k ≤ 8) (hm : m ≤ 8) (hy : y ≤ m) (h : TW f g k y 0 t) (e1 : ∀ j, 0 ≤ j → j < 8 → f j = f' j) (e2 : ∀ j, 0 ≤ j → j < 8 → g j = g' j) (e3 : ∀ j, t' j = t j) : TW f' g' k y 0 t' := fun c r h1 h2 h3 h4 => by
  rw [e3, h c r h1 h2 h3 h4, e1 c h1 (by omega), e2 r h3 (by omega)]
theorem c11_fuse {d : Nat} {Q : Int → yM → Prop} {M : yM} {x1 : Int} {x2 : Int}  (hk : 1 ≤ ld M 1 0 ∧ ld M 1 0 ≤ 8) (hn : 1 ≤ ld M 19 0 ∧ ld M 19 0 ≤ 8) (hT8 : T8 M 2) (hI : ∀ j, 0 ≤ j → j < ld M 1 0 → (0 ≤ ld M 2 j ∧ ld M 2 j < ld M 1 0) ∧ ld M 2 (ld M 2 j) = j) (r1 : yR x1) (r2 : yR x2) (h04 : ld M 4 0 = 0) (h16 : ld M 16 0 = 0) (k : ∀ (v : Int) (M' : yM), fr (wKi) M M' → (v = -1 ∧ ¬ ((1 ≤ x1 ∧ x1 < ld M 1 0) ∧ (1 ≤ x2 ∧ x2 < ld M 1 0) ∧ x1 ≠ x2) ∧ M' = M ∨ v = -2 ∧ ((1 ≤ x1 ∧ x1 < ld M 1 0) ∧ (1 ≤ x2 ∧ x2 < ld M 1 0) ∧ x1 ≠ x2) ∧ ¬ ((ld M 2 x1 = x1 ↔ ld M 2 x2 = x2) ∧ ld M 2 x1 ≠ x2) ∧ M' = M ∨ v = ld M' 1 0 ∧ ((1 ≤ x1 ∧ x1 < ld M 1 0) ∧ (1 ≤ x2 ∧ x2 < ld M 1 0) ∧ x1 ≠ x2) ∧ ((ld M 2 x1 = x1 ↔ ld M 2 x2 = x2) ∧ ld M 2 x1 ≠ x2) ∧ ld M' 1 0 = cn (ld M 2) x1 x2 (ld M 1 0).toNat ∧ FT (ld M 2) x1 x2 (ld M 1 0) (ld M' 2) ∧ T8 M' 2 ∧ ld M' 19 0 = ld M 19 0 ∧ NF M' ∧ ld M' 4 0 = 0 ∧ ld M' 16 0 = 0 ∧ TS M') → Q v M') : XCi (d + 5) 90 [.inr (.inr 0), .inl x1, .inl x2] M Q := by
  refine eX11_fuse ?_
  have fM : fr (wKi) M M := fr.rf
  have ts1 := tabSh1
  have ts7 := tabSh7
  have ts13 := tabSh13
  refine uX11_fuse_0 ?_
  refine c11_isOther  (by first | omega | assumption | with_reducible exact rng_ld _ _ _ | with_reducible exact rng_yand _ _ | with_reducible exact rng_yor _ _ | with_reducible exact rng_zcmp _ _ | with_reducible exact yand7 _ | with_reducible exact rng_toInt _ | with_reducible exact yarr23 (by omega) | with_reducible exact yarr57 (by omega) | with_reducible exact Or.inl rfl | with_reducible exact Or.inr rfl) (fun v1 p1a => ?_)
  refine uX11_fuse_5 (by first | omega | assumption | with_reducible exact rng_ld _ _ _ | with_reducible exact rng_yand _ _ | with_reducible exact rng_yor _ _ | with_reducible exact rng_zcmp _ _ | with_reducible exact yand7 _ | with_reducible exact rng_toInt _ | with_reducible exact yarr23 (by omega) | with_reducible exact yarr57 (by omega) | with_reducible exact Or.inl rfl | with_reducible exact Or.inr rfl) (fun hc => ?_) (fun hc => ?_)
  · skip
    refine uX11_fuse_21 ?_
    exact k _ _ fM (Or.inl ⟨rfl, by omega, rfl⟩)
  · skip
    refine uX11_fuse_8 ?_
    refine c11_isOther  (by first | omega | assumption | with_reducible exact rng_ld _ _ _ | with_reducible exact rng_yand _ _ | with_reducible exact rng_yor _ _ | with_reducible exact rng_zcmp _ _ | with_reducible exact yand7 _ | with_reducible exact rng_toInt _ | with_reducible exact yarr23 (by omega) | with_reducible exact yarr57 (by omega) | with_reducible exact Or.inl rfl | with_reducible exact Or.inr rfl) (fun v2 p2a => ?_)
    refine uX11_fuse_13 (by first | omega | assumption | with_reducible exact rng_ld _ _ _ | with_reducible exact rng_yand _ _ | with_reducible exact rng_yor _ _ | with_reducible exact rng_zcmp _ _ | with_reducible exact yand7 _ | with_reducible exact rng_toInt _ | with_reducible exact yarr23 (by omega) | with_reducible exact yarr57 (by omega) | with_reducible exact Or.inl rfl | with_reducible exact Or.inr rfl) (fun hc => ?_) (fun hc => ?_)
    · skip
      refine uX11_fuse_21 ?_
      exact k _ _ fM (Or.inl ⟨rfl, by omega, rfl⟩)
    · skip
      refine uX11_fuse_16 (by first | omega | assumption | with_reducible exact rng_ld _ _ _ | with_reducible exact rng_yand _ _ | with_reducible exact rng_yor _ _ | with_reducible exact rng_zcmp _ _ | with_reducible exact yand7 _ | with_reducible exact rng_toInt _ | with_reducible exact yarr23 (by omega) | with_reducible exact yarr57 (by omega) | with_reducible exact Or.inl rfl | with_reducible exact Or.inr rfl) (by first | omega | assumption | with_reducible exact rng_ld _ _ _ | with_reducible exact rng_yand _ _ | with_reducible exact rng_yor _ _ | with_reducible exact rng_zcmp _ _ | with_reducible exact yand7 _ | with_reducible exact rng_toInt _ | with_reducible exact yarr23 (by omega) | with_reducible exact yarr57 (by omega) | with_reducible exact Or.inl rfl | with_reducible exact Or.inr rfl) (fun hc => ?_) (fun hc => ?_)
      · skip
        refine uX11_fuse_23 ?_
        refine c9_canFuse  (by first | omega | assumption | with_reducible exact rng_ld _ _ _ | with_reducible exact rng_yand _ _ | with_reducible exact rng_yor _ _ | with_reducible exact rng_zcmp _ _ | with_reducible exact yand7 _ | with_reducible exact rng_toInt _ | with_reducible exact yarr23 (by omega) | with_reducible exact yarr57 (by omega) | with_reducible exact Or.inl rfl | with_reducible exact Or.inr rfl) (by first | omega | assumption | with_reducible exact rng_ld _ _ _ | with_reducible exact rng_yand _ _ | with_reducible exact rng_yor _ _ | with_reducible exact rng_zcmp _ _ | with_reducible exact yand7 _ | with_reducible exact rng_toInt _ | with_reducible exact yarr23 (by omega) | with_reducible exact yarr57 (by omega) | with_reducible exact Or.inl rfl | with_reducible exact Or.inr rfl) (by first | omega | assumption | with_reducible exact rng_ld _ _ _ | with_reducible exact rng_yand _ _ | with_reducible exact rng_yor _ _ | with_reducible exact rng_zcmp _ _ | with_reducible exact yand7 _ | with_reducible exact rng_toInt _ | with_reducible exact yarr23 (by omega) | with_reducible exact yarr57 (by omega) | with_reducible exact Or.inl rfl | with_reducible exact Or.inr rfl) (fun v3 p3a => ?_)
        refine uX11_fuse_32 (by first | omega | assumption | with_reducible exact rng_ld _ _ _ | with_reducible exact rng_yand _ _ | with_reducible exact rng_yor _ _ | with_reducible exact rng_zcmp _ _ | with_reducible exact yand7 _ | with_reducible exact rng_toInt _ | with_reducible exact yarr23 (by omega) | with_reducible exact yarr57 (by omega) | with_reducible exact Or.inl rfl | with_reducible exact Or.inr rfl) (fun hc => ?_) (fun hc => ?_)
        · skip
          have hFH : FH (ld M 2) (ld M 1 0) x1 x2 := ⟨hk, by omega, by omega, by omega, hI, by omega, by omega⟩
          refine uX11_fuse_38 ?_
          refine XC.deep (c9_copyFrom  (d := 0) (by first | assumption | exact tabSh1 | exact tabSh7 | exact tabSh13 | with_reducible exact yterm83 (by omega)) (by first | omega | assumption | with_reducible exact rng_ld _ _ _ | with_reducible exact rng_yand _ _ | with_reducible exact rng_yor _ _ | with_reducible exact rng_zcmp _ _ | with_reducible exact yand7 _ | with_reducible exact rng_toInt _ | with_reducible exact yarr23 (by omega) | with_reducible exact yarr57 (by omega) | with_reducible exact Or.inl rfl | with_reducible exact Or.inr rfl) (by first | omega | assumption | with_reducible exact rng_ld _ _ _ | with_reducible exact rng_yand _ _ | with_reducible exact rng_yor _ _ | with_reducible exact rng_zcmp _ _ | with_reducible exact yand7 _ | with_reducible exact rng_toInt _ | with_reducible exact yarr23 (by omega) | with_reducible exact yarr57 (by omega) | with_reducible exact Or.inl rfl | with_reducible exact Or.inr rfl) (by first | omega | assumption | with_reducible exact rng_ld _ _ _ | with_reducible exact rng_yand _ _ | with_reducible exact rng_yor _ _ | with_reducible exact rng_zcmp _ _ | with_reducible exact yand7 _ | with_reducible exact rng_toInt _ | with_reducible exact yarr23 (by omega) | with_reducible exact yarr57 (by omega) | with_reducible exact Or.inl rfl | with_reducible exact Or.inr rfl) h16 hT8 (fun M4 fM4 p4a p4b p4c p4d => ?_)) (by omega)
          replace fM := fM.tr fM4 (by intro o j hw; first | omega | exact hw | (dsimp only [wSub, wRun, wNar, wFil, wCan, wLst, wCar, wDr, wFl, wMq, wRd, wRx, wCr, wTab, wTr, wNew, wKi, wKn, wTn, wOb] at hw; dsimp only [wSub, wRun, wNar, wFil, wCan, wLst, wCar, wDr, wFl, wMq, wRd, wRx, wCr, wTab, wTr, wNew, wKi, wKn, wTn, wOb]; omega) | (dsimp only [wSub, wRun, wNar, wFil, wCan, wLst, wCar, wDr, wFl, wMq, wRd, wRx, wCr, wTab, wTr, wNew, wKi, wKn, wTn, wOb]; omega) | (dsimp only [wSub, wRun, wNar, wFil, wCan, wLst, wCar, wDr, wFl, wMq, wRd, wRx, wCr, wTab, wTr, wNew, wKi, wKn, wTn, wOb] at hw; omega) | (simp [wSub, wRun, wNar, wFil, wCan, wLst, wCar, wDr, wFl, wMq, wRd, wRx, wCr, wTab, wTr, wNew, wKi, wKn, wTn, wOb] at hw; simp [wSub, wRun, wNar, wFil, wCan, wLst, wCar, wDr, wFl, wMq, wRd, wRx, wCr, wTab, wTr, wNew, wKi, wKn, wTn, wOb]; omega))
          have s38 := p4a
          have e38 : ∀ j, 0 ≤ j → j < 8 → ld M4 14 j = ld M 2 j := p4b
          have c38 : ld M4 19 0 = ld M 19 0 := fM4.ld (by omega)
          have u38 : T8 M4 2 := hT8.fr fM4 (fun _ _ _ => by omega)
          have y16 : ld M4 16 0 = 0 := p4c
          have y4 : ld M4 4 0 = 0 := by rw [fM4.ld (by omega)]; exact h04
          refine uX11_fuse_49 ?_
          refine XC.deep (c9_becomeFused  (d := 0) (by rw [s38]; exact hFH.cg e38) u38 y4 (fun M5 fM5 p5a p5b p5c p5d p5e => ?_)) (by omega)
          replace fM := fM.tr fM5 (by intro o j hw; first | omega | exact hw | (dsimp only [wSub, wRun, wNar, wFil, wCan, wLst, wCar, wDr, wFl, wMq, wRd, wRx, wCr, wTab, wTr, wNew, wKi, wKn, wTn, wOb] at hw; dsimp only [wSub, wRun, wNar, wFil, wCan, wLst, wCar, wDr, wFl, wMq, wRd, wRx, wCr, wTab, wTr, wNew, wKi, wKn, wTn, wOb]; omega) | (dsimp only [wSub, wRun, wNar, wFil, wCan, wLst, wCar, wDr, wFl, wMq, wRd, wRx, wCr, wTab, wTr, wNew, wKi, wKn, wTn, wOb]; omega) | (dsimp only [wSub, wRun, wNar, wFil, wCan, wLst, wCar, wDr, wFl, wMq, wRd, wRx, wCr, wTab, wTr, wNew, wKi, wKn, wTn, wOb] at hw; omega) | (simp [wSub, wRun, wNar, wFil, wCan, wLst, wCar, wDr, wFl, wMq, wRd, wRx, wCr, wTab, wTr, wNew, wKi, wKn, wTn, wOb] at hw; simp [wSub, wRun, wNar, wFil, wCan, wLst, wCar, wDr, wFl, wMq, wRd, wRx, wCr, wTab, wTr, wNew, wKi, wKn, wTn, wOb]; omega))
          have s49 := p5a
          have f49 := p5b
          have u49 := p5c
          have hFH2 : FH (ld M4 14) (ld M4 13 0) x1 x2 := by rw [s38]; exact hFH.cg e38
          have c49 : ld M5 19 0 = ld M 19 0 := by rw [fM5.ld (by dsimp only [wTab]; omega)]; exact c38
          have b49 := cn_8 hFH2
          have x16 : ld M5 16 0 = 0 := by rw [fM5.ld (by dsimp only [wTab]; omega)]; exact y16
          have x4 : ld M5 4 0 = 0 := p5d
          have xT : TS M5 := p5e
          refine uX11_fuse_62 ?_
          refine XC.deep (c11_startAnew  (d := 0) (by first | omega | assumption | with_reducible exact rng_ld _ _ _ | with_reducible exact rng_yand _ _ | with_reducible exact rng_yor _ _ | with_reducible exact rng_zcmp _ _ | with_reducible exact yand7 _ | with_reducible exact rng_toInt _ | with_reducible exact yarr23 (by omega) | with_reducible exact yarr57 (by omega) | with_reducible exact Or.inl rfl | with_reducible exact Or.inr rfl) (by first | omega | assumption | with_reducible exact rng_ld _ _ _ | with_reducible exact rng_yand _ _ | with_reducible exact rng_yor _ _ | with_reducible exact rng_zcmp _ _ | with_reducible exact yand7 _ | with_reducible exact rng_toInt _ | with_reducible exact yarr23 (by omega) | with_reducible exact yarr57 (by omega) | with_reducible exact Or.inl rfl | with_reducible exact Or.inr rfl) (fun M6 fM6 p6a p6b => ?_)) (by omega)
          replace fM := fM.tr fM6 (by intro o j hw; first | omega | exact hw | (dsimp only [wSub, wRun, wNar, wFil, wCan, wLst, wCar, wDr, wFl, wMq, wRd, wRx, wCr, wTab, wTr, wNew, wKi, wKn, wTn, wOb] at hw; dsimp only [wSub, wRun, wNar, wFil, wCan, wLst, wCar, wDr, wFl, wMq, wRd, wRx, wCr, wTab, wTr, wNew, wKi, wKn, wTn, wOb]; omega) | (dsimp only [wSub, wRun, wNar, wFil, wCan, wLst, wCar, wDr, wFl, wMq, wRd, wRx, wCr, wTab, wTr, wNew, wKi, wKn, wTn, wOb]; omega) | (dsimp only [wSub, wRun, wNar, wFil, wCan, wLst, wCar, wDr, wFl, wMq, wRd, wRx, wCr, wTab, wTr, wNew, wKi, wKn, wTn, wOb] at hw; omega) | (simp [wSub, wRun, wNar, wFil, wCan, wLst, wCar, wDr, wFl, wMq, wRd, wRx, wCr, wTab, wTr, wNew, wKi, wKn, wTn, wOb] at hw; simp [wSub, wRun, wNar, wFil, wCan, wLst, wCar, wDr, wFl, wMq, wRd, wRx, wCr, wTab, wTr, wNew, wKi, wKn, wTn, wOb]; omega))
          have z1 : ld M6 1 0 = cn (ld M 2) x1 x2 (ld M 1 0).toNat := by rw [fM6.ld (by omega), s49, s38, cn_cg (e38 x1 (by omega) (by omega)) (e38 x2 (by omega) (by omega))]
          have z2 : FT (ld M 2) x1 x2 (ld M 1 0) (ld M6 2) := by rw [s38] at f49; exact FT.cg hFH e38 (fun j => fM6.ld (by omega)) f49
          have z3 : T8 M6 2 := u49.fr fM6 (fun _ _ _ => by omega)
          have z4 : ld M6 19 0 = ld M 19 0 := by omega
          have z5 := p6b
          have z6 : ld M6 4 0 = 0 := by rw [fM6.ld (by (first | (dsimp only [wNew]; omega) | omega))]; exact x4
          have z7 : ld M6 16 0 = 0 := by rw [fM6.ld (by (first | (dsimp only [wNew]; omega) | omega))]; exact x16
          have z8 : TS M6 := xT.fr fM6 (by (first | (dsimp only [wNew]; omega) | omega)) (fun _ => by (first | (dsimp only [wNew]; omega) | omega)) (fun _ => by (first | (dsimp only [wNew]; omega) | omega))
          refine uX11_fuse_66 ?_
          exact k _ _ fM (Or.inr (Or.inr ⟨rfl, by omega, by omega, z1, z2, z3, z4, z5, z6, z7, z8⟩))
        · skip
          refine uX11_fuse_35 ?_
          exact k _ _ fM (Or.inr (Or.inl ⟨rfl, by omega, by omega, rfl⟩))
      · skip
        refine uX11_fuse_21 ?_
        exact k _ _ fM (Or.inl ⟨rfl, by omega, rfl⟩)
theorem c11_keep {d : Nat} {Q : Int → yM → Prop} {M : yM}   (hk : 1 ≤ ld M 1 0 ∧ ld M 1 0 ≤ 8) (hT8 : T8 M 2) (h10 : ld M 10 0 = 0) (k : ∀ (v : Int) (M' : yM), fr (fun o j => o = 7 ∧ j = 0 ∨ 8 ≤ o ∧ o ≤ 11) M M' → (v = ld M' 7 0) → (ld M' 7 0 = ld M 1 0) → (∀ j, 0 ≤ j → j < 8 → ld M' 8 j = ld M 2 j) → (ld M' 10 0 = 0) → Q v M') : XCi (d + 5) 91 [.inr (.inr 0)] M Q := by
  refine eX11_keep ?_
  have fM : fr (fun o j => o = 7 ∧ j = 0 ∨ 8 ≤ o ∧ o ≤ 11) M M := fr.rf
  have ts1 := tabSh1
  have ts7 := tabSh7
  have ts13 := tabSh13
  refine uX11_keep_0 ?_
  refine XC.deep (c9_copyFrom  (d := 0) (by first | assumption | exact tabSh1 | exact tabSh7 | exact tabSh13 | with_reducible exact yterm83 (by omega)) (by first | omega | assumption | with_reducible exact rng_ld _ _ _ | with_reducible exact rng_yand _ _ | with_reducible exact rng_yor _ _ | with_reducible exact rng_zcmp _ _ | with_reducible exact yand7 _ | with_reducible exact rng_toInt _ | with_reducible exact yarr23 (by omega) | with_reducible exact yarr57 (by omega) | with_reducible exact Or.inl rfl | with_reducible exact Or.inr rfl) (by first | omega | assumption | with_reducible exact rng_ld _ _ _ | with_reducible exact rng_yand _ _ | with_reducible exact rng_yor _ _ | with_reducible exact rng_zcmp _ _ | with_reducible exact yand7 _ | with_reducible exact rng_toInt _ | with_reducible exact yarr23 (by omega) | with_reducible exact yarr57 (by omega) | with_reducible exact Or.inl rfl | with_reducible exact Or.inr rfl) (by first | omega | assumption | with_reducible exact rng_ld _ _ _ | with_reducible exact rng_yand _ _ | with_reducible exact rng_yor _ _ | with_reducible exact rng_zcmp _ _ | with_reducible exact yand7 _ | with_reducible exact rng_toInt _ | with_reducible exact yarr23 (by omega) | with_reducible exact yarr57 (by omega) | with_reducible exact Or.inl rfl | with_reducible exact Or.inr rfl) h10 hT8 (fun M1 fM1 p1a p1b p1c p1d => ?_)) (by omega)
  replace fM := fM.tr fM1 (by intro o j hw; first | omega | exact hw | (dsimp only [wSub, wRun, wNar, wFil, wCan, wLst, wCar, wDr, wFl, wMq, wRd, wRx, wCr, wTab, wTr, wNew, wKi, wKn, wTn, wOb] at hw; dsimp only [wSub, wRun, wNar, wFil, wCan, wLst, wCar, wDr, wFl, wMq, wRd, wRx, wCr, wTab, wTr, wNew, wKi, wKn, wTn, wOb]; omega) | (dsimp only [wSub, wRun, wNar, wFil, wCan, wLst, wCar, wDr, wFl, wMq, wRd, wRx, wCr, wTab, wTr, wNew, wKi, wKn, wTn, wOb]; omega) | (dsimp only [wSub, wRun, wNar, wFil, wCan, wLst, wCar, wDr, wFl, wMq, wRd, wRx, wCr, wTab, wTr, wNew, wKi, wKn, wTn, wOb] at hw; omega) | (simp [wSub, wRun, wNar, wFil, wCan, wLst, wCar, wDr, wFl, wMq, wRd, wRx, wCr, wTab, wTr, wNew, wKi, wKn, wTn, wOb] at hw; simp [wSub, wRun, wNar, wFil, wCan, wLst, wCar, wDr, wFl, wMq, wRd, wRx, wCr, wTab, wTr, wNew, wKi, wKn, wTn, wOb]; omega))
  have z1 := p1a
  have z2 : ∀ j, 0 ≤ j → j < 8 → ld M1 8 j = ld M 2 j := p1b
  have z3 : ld M1 10 0 = 0 := p1c
  refine uX11_keep_11 ?_
  exact k _ _ fM rfl (by first | omega | assumption | with_reducible exact rng_ld _ _ _ | with_reducible exact rng_yand _ _ | with_reducible exact rng_yor _ _ | with_reducible exact rng_zcmp _ _ | with_reducible exact yand7 _ | with_reducible exact rng_toInt _ | with_reducible exact yarr23 (by omega) | with_reducible exact yarr57 (by omega) | with_reducible exact Or.inl rfl | with_reducible exact Or.inr rfl) (by first | omega | assumption | with_reducible exact rng_ld _ _ _ | with_reducible exact rng_yand _ _ | with_reducible exact rng_yor _ _ | with_reducible exact rng_zcmp _ _ | with_reducible exact yand7 _ | with_reducible exact rng_toInt _ | with_reducible exact yarr23 (by omega) | with_reducible exact yarr57 (by omega) | with_reducible exact Or.inl rfl | with_reducible exact Or.inr rfl) z3
theorem c11_shelf {d : Nat} {Q : Int → yM → Prop} {M : yM} {x1 : Int}  (hk : 1 ≤ ld M 1 0 ∧ ld M 1 0 ≤ 8) (hn : 1 ≤ ld M 19 0 ∧ ld M 19 0 ≤ 8) (hT8 : T8 M 2) (hI : ∀ j, 0 ≤ j → j < ld M 1 0 → (0 ≤ ld M 2 j ∧ ld M 2 j < ld M 1 0) ∧ ld M 2 (ld M 2 j) = j) (h7 : 0 ≤ ld M 7 0 ∧ ld M 7 0 ≤ 8) (hI7 : ∀ j, 0 ≤ j → j < ld M 7 0 → (0 ≤ ld M 8 j ∧ ld M 8 j < ld M 7 0) ∧ ld M 8 (ld M 8 j) = j) (r1 : yR x1) (h88 : T8 M 8) (h04 : ld M 4 0 = 0) (h16 : ld M 16 0 = 0) (k : ∀ (v : Int) (M' : yM), fr (wKi) M M' → (v = -1 ∧ ¬ (x1 = 0 ∨ x1 = 1) ∧ M' = M ∨ v = -2 ∧ (x1 = 0 ∨ x1 = 1) ∧ ld M 7 0 = 0 ∧ M' = M ∨ v = -3 ∧ x1 = 1 ∧ ld M 7 0 ≠ 0 ∧ ld M 1 0 * ld M 7 0 > 8 ∧ M' = M ∨ v = ld M' 1 0 ∧ ld M 7 0 ≠ 0 ∧ (x1 = 0 ∧ ld M' 1 0 = ld M 7 0 ∧ (∀ j, 0 ≤ j → j < 8 → ld M' 2 j = ld M 8 j) ∨ x1 = 1 ∧ ld M 1 0 * ld M 7 0 ≤ 8 ∧ ld M' 1 0 = ld M 1 0 * ld M 7 0 ∧ TW (ld M 2) (ld M 8) (ld M 1 0) (ld M 7 0) 0 (ld M' 2) ∧ T8 M' 2) ∧ ld M' 19 0 = ld M 19 0 ∧ NF M' ∧ ld M' 4 0 = 0 ∧ ld M' 16 0 = 0 ∧ TS M') → Q v M') : XCi (d + 5) 92 [.inr (.inr 0), .inl x1] M Q := by
  refine eX11_shelf ?_
  have fM : fr (wKi) M M := fr.rf
  have ts1 := tabSh1
  have ts7 := tabSh7
  have ts13 := tabSh13
  have mb := mulb (a := ld M 1 0) (b := ld M 7 0) (by omega) (by omega)
  refine uX11_shelf_0 ?_
  refine c11_isChoice  (by first | omega | assumption | with_reducible exact rng_ld _ _ _ | with_reducible exact rng_yand _ _ | with_reducible exact rng_yor _ _ | with_reducible exact rng_zcmp _ _ | with_reducible exact yand7 _ | with_reducible exact rng_toInt _ | with_reducible exact yarr23 (by omega) | with_reducible exact yarr57 (by omega) | with_reducible exact Or.inl rfl | with_reducible exact Or.inr rfl) (fun v1 p1a => ?_)
  refine uX11_shelf_4 (by first | omega | assumption | with_reducible exact rng_ld _ _ _ | with_reducible exact rng_yand _ _ | with_reducible exact rng_yor _ _ | with_reducible exact rng_zcmp _ _ | with_reducible exact yand7 _ | with_reducible exact rng_toInt _ | with_reducible exact yarr23 (by omega) | with_reducible exact yarr57 (by omega) | with_reducible exact Or.inl rfl | with_reducible exact Or.inr rfl) (fun hc => ?_) (fun hc => ?_)
  · skip
    refine uX11_shelf_9 (fun hc => ?_) (fun hc => ?_)
    · skip
      refine uX11_shelf_22 (by first | omega | assumption | with_reducible exact rng_ld _ _ _ | with_reducible exact rng_yand _ _ | with_reducible exact rng_yor _ _ | with_reducible exact rng_zcmp _ _ | with_reducible exact yand7 _ | with_reducible exact rng_toInt _ | with_reducible exact yarr23 (by omega) | with_reducible exact yarr57 (by omega) | with_reducible exact Or.inl rfl | with_reducible exact Or.inr rfl) (fun hc => ?_) (fun hc => ?_)
      · skip
        refine uX11_shelf_40 (by first | omega | assumption | with_reducible exact rng_ld _ _ _ | with_reducible exact rng_yand _ _ | with_reducible exact rng_yor _ _ | with_reducible exact rng_zcmp _ _ | with_reducible exact yand7 _ | with_reducible exact rng_toInt _ | with_reducible exact yarr23 (by omega) | with_reducible exact yarr57 (by omega) | with_reducible exact Or.inl rfl | with_reducible exact Or.inr rfl) (fun hc => ?_) (fun hc => ?_)
        · skip
          refine uX11_shelf_63 ?_
          refine XC.deep (c9_copyFrom  (d := 0) (by first | assumption | exact tabSh1 | exact tabSh7 | exact tabSh13 | with_reducible exact yterm83 (by omega)) (by first | omega | assumption | with_reducible exact rng_ld _ _ _ | with_reducible exact rng_yand _ _ | with_reducible exact rng_yor _ _ | with_reducible exact rng_zcmp _ _ | with_reducible exact yand7 _ | with_reducible exact rng_toInt _ | with_reducible exact yarr23 (by omega) | with_reducible exact yarr57 (by omega) | with_reducible exact Or.inl rfl | with_reducible exact Or.inr rfl) (by first | omega | assumption | with_reducible exact rng_ld _ _ _ | with_reducible exact rng_yand _ _ | with_reducible exact rng_yor _ _ | with_reducible exact rng_zcmp _ _ | with_reducible exact yand7 _ | with_reducible exact rng_toInt _ | with_reducible exact yarr23 (by omega) | with_reducible exact yarr57 (by omega) | with_reducible exact Or.inl rfl | with_reducible exact Or.inr rfl) (by first | omega | assumption | with_reducible exact rng_ld _ _ _ | with_reducible exact rng_yand _ _ | with_reducible exact rng_yor _ _ | with_reducible exact rng_zcmp _ _ | with_reducible exact yand7 _ | with_reducible exact rng_toInt _ | with_reducible exact yarr23 (by omega) | with_reducible exact yarr57 (by omega) | with_reducible exact Or.inl rfl | with_reducible exact Or.inr rfl) h16 hT8 (fun M2 fM2 p2a p2b p2c p2d => ?_)) (by omega)
          replace fM := fM.tr fM2 (by intro o j hw; first | omega | exact hw | (dsimp only [wSub, wRun, wNar, wFil, wCan, wLst, wCar, wDr, wFl, wMq, wRd, wRx, wCr, wTab, wTr, wNew, wKi, wKn, wTn, wOb] at hw; dsimp only [wSub, wRun, wNar, wFil, wCan, wLst, wCar, wDr, wFl, wMq, wRd, wRx, wCr, wTab, wTr, wNew, wKi, wKn, wTn, wOb]; omega) | (dsimp only [wSub, wRun, wNar, wFil, wCan, wLst, wCar, wDr, wFl, wMq, wRd, wRx, wCr, wTab, wTr, wNew, wKi, wKn, wTn, wOb]; omega) | (dsimp only [wSub, wRun, wNar, wFil, wCan, wLst, wCar, wDr, wFl, wMq, wRd, wRx, wCr, wTab, wTr, wNew, wKi, wKn, wTn, wOb] at hw; omega) | (simp [wSub, wRun, wNar, wFil, wCan, wLst, wCar, wDr, wFl, wMq, wRd, wRx, wCr, wTab, wTr, wNew, wKi, wKn, wTn, wOb] at hw; simp [wSub, wRun, wNar, wFil, wCan, wLst, wCar, wDr, wFl, wMq, wRd, wRx, wCr, wTab, wTr, wNew, wKi, wKn, wTn, wOb]; omega))
          have y16 : ld M2 16 0 = 0 := p2c
          have y4 : ld M2 4 0 = 0 := by rw [fM2.ld (by omega)]; exact h04
          have s63 := p2a
          have e63 : ∀ j, 0 ≤ j → j < 8 → ld M2 14 j = ld M 2 j := p2b
          have c63 : ld M2 19 0 = ld M 19 0 := fM2.ld (by omega)
          have u63 : T8 M2 2 := hT8.fr fM2 (fun _ _ _ => by omega)
          have y63 : ld M2 7 0 = ld M 7 0 := fM2.ld (by omega)
          have w63 : ∀ j, ld M2 8 j = ld M 8 j := fun j => fM2.ld (by omega)
          have g63 : ∀ j, 0 ≤ j → j < ld M2 13 0 → 0 ≤ ld M2 14 j ∧ ld M2 14 j < ld M2 13 0 := fun j h1 h2 => by
            rw [s63] at h2 ⊢
            rw [e63 j h1 (by omega)]
            exact (hI j h1 h2).1
          have l63 : ∀ j, 0 ≤ j → j < ld M2 7 0 → 0 ≤ ld M2 8 j ∧ ld M2 8 j < ld M2 7 0 := fun j h1 h2 => by
            rw [y63] at h2 ⊢
            rw [w63]
            exact (hI7 j h1 h2).1
          have m63 : ld M2 13 0 * ld M2 7 0 ≤ 8 := by rw [s63, y63]; omega
          refine uX11_shelf_74 ?_
          refine XC.deep (c9_becomeMadeOfTwo  (d := 0) (by omega) (by omega) m63 g63 l63 u63 y4 (fun M3 fM3 p3a p3b p3c p3d p3e => ?_)) (by omega)
          replace fM := fM.tr fM3 (by intro o j hw; first | omega | exact hw | (dsimp only [wSub, wRun, wNar, wFil, wCan, wLst, wCar, wDr, wFl, wMq, wRd, wRx, wCr, wTab, wTr, wNew, wKi, wKn, wTn, wOb] at hw; dsimp only [wSub, wRun, wNar, wFil, wCan, wLst, wCar, wDr, wFl, wMq, wRd, wRx, wCr, wTab, wTr, wNew, wKi, wKn, wTn, wOb]; omega) | (dsimp only [wSub, wRun, wNar, wFil, wCan, wLst, wCar, wDr, wFl, wMq, wRd, wRx, wCr, wTab, wTr, wNew, wKi, wKn, wTn, wOb]; omega) | (dsimp only [wSub, wRun, wNar, wFil, wCan, wLst, wCar, wDr, wFl, wMq, wRd, wRx, wCr, wTab, wTr, wNew, wKi, wKn, wTn, wOb] at hw; omega) | (simp [wSub, wRun, wNar, wFil, wCan, wLst, wCar, wDr, wFl, wMq, wRd, wRx, wCr, wTab, wTr, wNew, wKi, wKn, wTn, wOb] at hw; simp [wSub, wRun, wNar, wFil, wCan, wLst, wCar, wDr, wFl, wMq, wRd, wRx, wCr, wTab, wTr, wNew, wKi, wKn, wTn, wOb]; omega))
          have w16 : ld M3 16 0 = 0 := by rw [fM3.ld (by dsimp only [wTab]; omega)]; exact y16
          have w4 : ld M3 4 0 = 0 := p3d
          have wT : TS M3 := p3e
          have b63 := ixb (k := ld M2 13 0) (m := ld M2 7 0) (x := 0) (y := 0) (by omega) (by omega) m63
          have c89 : ld M3 19 0 = ld M 19 0 := by rw [fM3.ld (by dsimp only [wTab]; omega)]; exact c63
          have k89 : 1 ≤ ld M3 1 0 ∧ ld M3 1 0 ≤ 8 := by omega
          have d89 : x1 = 0 ∧ ld M3 1 0 = ld M 7 0 ∧ (∀ j, 0 ≤ j → j < 8 → ld M3 2 j = ld M 8 j) ∨ x1 = 1 ∧ ld M 1 0 * ld M 7 0 ≤ 8 ∧ ld M3 1 0 = ld M 1 0 * ld M 7 0 ∧ TW (ld M 2) (ld M 8) (ld M 1 0) (ld M 7 0) 0 (ld M3 2) ∧ T8 M3 2 := Or.inr ⟨by omega, by omega, by rw [p3a, s63, y63], by
            have q := p3b
            rw [s63, y63] at q
            exact q.cg (m := ld M 7 0) (by omega) (by omega) (by omega) e63 (fun j _ _ => w63 j) (fun _ => rfl), p3c⟩
          refine uX11_shelf_89 ?_
          refine XC.deep (c11_startAnew  (d := 0) (by first | omega | assumption | with_reducible exact rng_ld _ _ _ | with_reducible exact rng_yand _ _ | with_reducible exact rng_yor _ _ | with_reducible exact rng_zcmp _ _ | with_reducible exact yand7 _ | with_reducible exact rng_toInt _ | with_reducible exact yarr23 (by omega) | with_reducible exact yarr57 (by omega) | with_reducible exact Or.inl rfl | with_reducible exact Or.inr rfl) (by first | omega | assumption | with_reducible exact rng_ld _ _ _ | with_reducible exact rng_yand _ _ | with_reducible exact rng_yor _ _ | with_reducible exact rng_zcmp _ _ | with_reducible exact yand7 _ | with_reducible exact rng_toInt _ | with_reducible exact yarr23 (by omega) | with_reducible exact yarr57 (by omega) | with_reducible exact Or.inl rfl | with_reducible exact Or.inr rfl) (fun M4 fM4 p4a p4b => ?_)) (by omega)
          replace fM := fM.tr fM4 (by intro o j hw; first | omega | exact hw | (dsimp only [wSub, wRun, wNar, wFil, wCan, wLst, wCar, wDr, wFl, wMq, wRd, wRx, wCr, wTab, wTr, wNew, wKi, wKn, wTn, wOb] at hw; dsimp only [wSub, wRun, wNar, wFil, wCan, wLst, wCar, wDr, wFl, wMq, wRd, wRx, wCr, wTab, wTr, wNew, wKi, wKn, wTn, wOb]; omega) | (dsimp only [wSub, wRun, wNar, wFil, wCan, wLst, wCar, wDr, wFl, wMq, wRd, wRx, wCr, wTab, wTr, wNew, wKi, wKn, wTn, wOb]; omega) | (dsimp only [wSub, wRun, wNar, wFil, wCan, wLst, wCar, wDr, wFl, wMq, wRd, wRx, wCr, wTab, wTr, wNew, wKi, wKn, wTn, wOb] at hw; omega) | (simp [wSub, wRun, wNar, wFil, wCan, wLst, wCar, wDr, wFl, wMq, wRd, wRx, wCr, wTab, wTr, wNew, wKi, wKn, wTn, wOb] at hw; simp [wSub, wRun, wNar, wFil, wCan, wLst, wCar, wDr, wFl, wMq, wRd, wRx, wCr, wTab, wTr, wNew, wKi, wKn, wTn, wOb]; omega))
          have z6 : ld M4 4 0 = 0 := by rw [fM4.ld (by (first | (dsimp only [wNew]; omega) | omega))]; exact w4
          have z7 : ld M4 16 0 = 0 := by rw [fM4.ld (by (first | (dsimp only [wNew]; omega) | omega))]; exact w16
          have z8 : TS M4 := wT.fr fM4 (by (first | (dsimp only [wNew]; omega) | omega)) (fun _ => by (first | (dsimp only [wNew]; omega) | omega)) (fun _ => by (first | (dsimp only [wNew]; omega) | omega))
          have z1 : ld M4 19 0 = ld M 19 0 := by omega
          have z2 := p4b
          have z3 : x1 = 0 ∧ ld M4 1 0 = ld M 7 0 ∧ (∀ j, 0 ≤ j → j < 8 → ld M4 2 j = ld M 8 j) ∨ x1 = 1 ∧ ld M 1 0 * ld M 7 0 ≤ 8 ∧ ld M4 1 0 = ld M 1 0 * ld M 7 0 ∧ TW (ld M 2) (ld M 8) (ld M 1 0) (ld M 7 0) 0 (ld M4 2) ∧ T8 M4 2 := by
            rcases d89 with q | q
            · exact Or.inl ⟨q.1, by rw [fM4.ld (by omega)]; exact q.2.1, fun j h1 h2 => by rw [fM4.ld (by omega)]; exact q.2.2 j h1 h2⟩
            · exact Or.inr ⟨q.1, q.2.1, by rw [fM4.ld (by omega)]; exact q.2.2.1, q.2.2.2.1.cg (m := ld M 7 0) (by omega) (by omega) (by omega) (fun _ _ _ => rfl) (fun _ _ _ => rfl) (fun j => fM4.ld (by omega)), q.2.2.2.2.fr fM4 (fun _ _ _ => by omega)⟩
          refine uX11_shelf_93 ?_
          exact k _ _ fM (Or.inr (Or.inr (Or.inr ⟨rfl, by omega, z3, z1, z2, z6, z7, z8⟩)))
        · skip
          refine uX11_shelf_60 ?_
          exact k _ _ fM (Or.inr (Or.inr (Or.inl ⟨rfl, by omega, by omega, by omega, rfl⟩)))
      · skip
        refine uX11_shelf_26 ?_
        refine XC.deep (c9_copyFrom  (d := 0) (by first | assumption | exact tabSh1 | exact tabSh7 | exact tabSh13 | with_reducible exact yterm83 (by omega)) (by first | omega | assumption | with_reducible exact rng_ld _ _ _ | with_reducible exact rng_yand _ _ | with_reducible exact rng_yor _ _ | with_reducible exact rng_zcmp _ _ | with_reducible exact yand7 _ | with_reducible exact rng_toInt _ | with_reducible exact yarr23 (by omega) | with_reducible exact yarr57 (by omega) | with_reducible exact Or.inl rfl | with_reducible exact Or.inr rfl) (by first | omega | assumption | with_reducible exact rng_ld _ _ _ | with_reducible exact rng_yand _ _ | with_reducible exact rng_yor _ _ | with_reducible exact rng_zcmp _ _ | with_reducible exact yand7 _ | with_reducible exact rng_toInt _ | with_reducible exact yarr23 (by omega) | with_reducible exact yarr57 (by omega) | with_reducible exact Or.inl rfl | with_reducible exact Or.inr rfl) (by first | omega | assumption | with_reducible exact rng_ld _ _ _ | with_reducible exact rng_yand _ _ | with_reducible exact rng_yor _ _ | with_reducible exact rng_zcmp _ _ | with_reducible exact yand7 _ | with_reducible exact rng_toInt _ | with_reducible exact yarr23 (by omega) | with_reducible exact yarr57 (by omega) | with_reducible exact Or.inl rfl | with_reducible exact Or.inr rfl) h04 h88 (fun M5 fM5 p5a p5b p5c p5d => ?_)) (by omega)
        replace fM := fM.tr fM5 (by intro o j hw; first | omega | exact hw | (dsimp only [wSub, wRun, wNar, wFil, wCan, wLst, wCar, wDr, wFl, wMq, wRd, wRx, wCr, wTab, wTr, wNew, wKi, wKn, wTn, wOb] at hw; dsimp only [wSub, wRun, wNar, wFil, wCan, wLst, wCar, wDr, wFl, wMq, wRd, wRx, wCr, wTab, wTr, wNew, wKi, wKn, wTn, wOb]; omega) | (dsimp only [wSub, wRun, wNar, wFil, wCan, wLst, wCar, wDr, wFl, wMq, wRd, wRx, wCr, wTab, wTr, wNew, wKi, wKn, wTn, wOb]; omega) | (dsimp only [wSub, wRun, wNar, wFil, wCan, wLst, wCar, wDr, wFl, wMq, wRd, wRx, wCr, wTab, wTr, wNew, wKi, wKn, wTn, wOb] at hw; omega) | (simp [wSub, wRun, wNar, wFil, wCan, wLst, wCar, wDr, wFl, wMq, wRd, wRx, wCr, wTab, wTr, wNew, wKi, wKn, wTn, wOb] at hw; simp [wSub, wRun, wNar, wFil, wCan, wLst, wCar, wDr, wFl, wMq, wRd, wRx, wCr, wTab, wTr, wNew, wKi, wKn, wTn, wOb]; omega))
        have w16 : ld M5 16 0 = 0 := by rw [fM5.ld (by omega)]; exact h16
        have w4 : ld M5 4 0 = 0 := p5c
        have wT : TS M5 := p5d
        have c89 : ld M5 19 0 = ld M 19 0 := fM5.ld (by omega)
        have k89 : 1 ≤ ld M5 1 0 ∧ ld M5 1 0 ≤ 8 := by omega
        have d89 : x1 = 0 ∧ ld M5 1 0 = ld M 7 0 ∧ (∀ j, 0 ≤ j → j < 8 → ld M5 2 j = ld M 8 j) ∨ x1 = 1 ∧ ld M 1 0 * ld M 7 0 ≤ 8 ∧ ld M5 1 0 = ld M 1 0 * ld M 7 0 ∧ TW (ld M 2) (ld M 8) (ld M 1 0) (ld M 7 0) 0 (ld M5 2) ∧ T8 M5 2 := Or.inl ⟨by omega, p5a, p5b⟩
        refine uX11_shelf_37 ?_
        refine uX11_shelf_89 ?_
        refine XC.deep (c11_startAnew  (d := 0) (by first | omega | assumption | with_reducible exact rng_ld _ _ _ | with_reducible exact rng_yand _ _ | with_reducible exact rng_yor _ _ | with_reducible exact rng_zcmp _ _ | with_reducible exact yand7 _ | with_reducible exact rng_toInt _ | with_reducible exact yarr23 (by omega) | with_reducible exact yarr57 (by omega) | with_reducible exact Or.inl rfl | with_reducible exact Or.inr rfl) (by first | omega | assumption | with_reducible exact rng_ld _ _ _ | with_reducible exact rng_yand _ _ | with_reducible exact rng_yor _ _ | with_reducible exact rng_zcmp _ _ | with_reducible exact yand7 _ | with_reducible exact rng_toInt _ | with_reducible exact yarr23 (by omega) | with_reducible exact yarr57 (by omega) | with_reducible exact Or.inl rfl | with_reducible exact Or.inr rfl) (fun M6 fM6 p6a p6b => ?_)) (by omega)
        replace fM := fM.tr fM6 (by intro o j hw; first | omega | exact hw | (dsimp only [wSub, wRun, wNar, wFil, wCan, wLst, wCar, wDr, wFl, wMq, wRd, wRx, wCr, wTab, wTr, wNew, wKi, wKn, wTn, wOb] at hw; dsimp only [wSub, wRun, wNar, wFil, wCan, wLst, wCar, wDr, wFl, wMq, wRd, wRx, wCr, wTab, wTr, wNew, wKi, wKn, wTn, wOb]; omega) | (dsimp only [wSub, wRun, wNar, wFil, wCan, wLst, wCar, wDr, wFl, wMq, wRd, wRx, wCr, wTab, wTr, wNew, wKi, wKn, wTn, wOb]; omega) | (dsimp only [wSub, wRun, wNar, wFil, wCan, wLst, wCar, wDr, wFl, wMq, wRd, wRx, wCr, wTab, wTr, wNew, wKi, wKn, wTn, wOb] at hw; omega) | (simp [wSub, wRun, wNar, wFil, wCan, wLst, wCar, wDr, wFl, wMq, wRd, wRx, wCr, wTab, wTr, wNew, wKi, wKn, wTn, wOb] at hw; simp [wSub, wRun, wNar, wFil, wCan, wLst, wCar, wDr, wFl, wMq, wRd, wRx, wCr, wTab, wTr, wNew, wKi, wKn, wTn, wOb]; omega))
        have z6 : ld M6 4 0 = 0 := by rw [fM6.ld (by (first | (dsimp only [wNew]; omega) | omega))]; exact w4
        have z7 : ld M6 16 0 = 0 := by rw [fM6.ld (by (first | (dsimp only [wNew]; omega) | omega))]; exact w16
        have z8 : TS M6 := wT.fr fM6 (by (first | (dsimp only [wNew]; omega) | omega)) (fun _ => by (first | (dsimp only [wNew]; omega) | omega)) (fun _ => by (first | (dsimp only [wNew]; omega) | omega))
        have z1 : ld M6 19 0 = ld M 19 0 := by omega
        have z2 := p6b
        have z3 : x1 = 0 ∧ ld M6 1 0 = ld M 7 0 ∧ (∀ j, 0 ≤ j → j < 8 → ld M6 2 j = ld M 8 j) ∨ x1 = 1 ∧ ld M 1 0 * ld M 7 0 ≤ 8 ∧ ld M6 1 0 = ld M 1 0 * ld M 7 0 ∧ TW (ld M 2) (ld M 8) (ld M 1 0) (ld M 7 0) 0 (ld M6 2) ∧ T8 M6 2 := by
          rcases d89 with q | q
          · exact Or.inl ⟨q.1, by rw [fM6.ld (by omega)]; exact q.2.1, fun j h1 h2 => by rw [fM6.ld (by omega)]; exact q.2.2 j h1 h2⟩
          · exact Or.inr ⟨q.1, q.2.1, by rw [fM6.ld (by omega)]; exact q.2.2.1, q.2.2.2.1.cg (m := ld M 7 0) (by omega) (by omega) (by omega) (fun _ _ _ => rfl) (fun _ _ _ => rfl) (fun j => fM6.ld (by omega)), q.2.2.2.2.fr fM6 (fun _ _ _ => by omega)⟩
        refine uX11_shelf_93 ?_
        exact k _ _ fM (Or.inr (Or.inr (Or.inr ⟨rfl, by omega, z3, z1, z2, z6, z7, z8⟩)))
    · skip
      refine uX11_shelf_19 ?_
      exact k _ _ fM (Or.inr (Or.inl ⟨rfl, by omega, by omega, rfl⟩))
  · skip
    refine uX11_shelf_7 ?_
    exact k _ _ fM (Or.inl ⟨rfl, by omega, rfl⟩)
abbrev wPt (o : Nat) (j : Int) : Prop := (o = 19 ∧ j = 0) ∨ o = 20 ∨ o = 62 ∨ (o = 65 ∧ 6 ≤ j ∧ j ≠ 7) ∨ (o = 69 ∧ j = 9)
theorem c11_points {d : Nat} {Q : Int → yM → Prop} {M : yM} {x1 : Int}  (hk : 1 ≤ ld M 1 0 ∧ ld M 1 0 ≤ 8) (r1 : yR x1) (k : ∀ (v : Int) (M' : yM), fr (wPt) M M' → (v = -1 ∧ ¬ (1 ≤ x1 ∧ x1 ≤ 8) ∧ M' = M ∨ v = ld M 19 0 ∧ (1 ≤ x1 ∧ x1 ≤ 8) ∧ ld M' 19 0 = x1 ∧ NF M') → Q v M') : XCi (d + 2) 93 [.inr (.inr 0), .inl x1] M Q := by
  refine eX11_points ?_
  have fM : fr (wPt) M M := fr.rf
  have hal := al_le hk
  refine uX11_points_0 (by first | omega | assumption | with_reducible exact rng_ld _ _ _ | with_reducible exact rng_yand _ _ | with_reducible exact rng_yor _ _ | with_reducible exact rng_zcmp _ _ | with_reducible exact yand7 _ | with_reducible exact rng_toInt _ | with_reducible exact yarr23 (by omega) | with_reducible exact yarr57 (by omega) | with_reducible exact Or.inl rfl | with_reducible exact Or.inr rfl) (fun hc => ?_) (fun hc => ?_)
  · skip
    refine uX11_points_11 ?_
    exact k _ _ fM (Or.inl ⟨rfl, by omega, rfl⟩)
  · skip
    refine uX11_points_5 (by first | omega | assumption | with_reducible exact rng_ld _ _ _ | with_reducible exact rng_yand _ _ | with_reducible exact rng_yor _ _ | with_reducible exact rng_zcmp _ _ | with_reducible exact yand7 _ | with_reducible exact rng_toInt _ | with_reducible exact yarr23 (by omega) | with_reducible exact yarr57 (by omega) | with_reducible exact Or.inl rfl | with_reducible exact Or.inr rfl) (fun hc => ?_) (fun hc => ?_)
    · skip
      refine uX11_points_13 ?_
      refine c9_all  (by first | omega | assumption | with_reducible exact rng_ld _ _ _ | with_reducible exact rng_yand _ _ | with_reducible exact rng_yor _ _ | with_reducible exact rng_zcmp _ _ | with_reducible exact yand7 _ | with_reducible exact rng_toInt _ | with_reducible exact yarr23 (by omega) | with_reducible exact yarr57 (by omega) | with_reducible exact Or.inl rfl | with_reducible exact Or.inr rfl) ?_
      refine uX11_points_33 ?_
      refine c5_free  (by first | omega | assumption | with_reducible exact rng_ld _ _ _ | with_reducible exact rng_yand _ _ | with_reducible exact rng_yor _ _ | with_reducible exact rng_zcmp _ _ | with_reducible exact yand7 _ | with_reducible exact rng_toInt _ | with_reducible exact yarr23 (by omega) | with_reducible exact yarr57 (by omega) | with_reducible exact Or.inl rfl | with_reducible exact Or.inr rfl) (by first | omega | assumption | with_reducible exact rng_ld _ _ _ | with_reducible exact rng_yand _ _ | with_reducible exact rng_yor _ _ | with_reducible exact rng_zcmp _ _ | with_reducible exact yand7 _ | with_reducible exact rng_toInt _ | with_reducible exact yarr23 (by omega) | with_reducible exact yarr57 (by omega) | with_reducible exact Or.inl rfl | with_reducible exact Or.inr rfl) (fun M2 fM2 p2a p2b => ?_)
      replace fM := fM.tr fM2 (by intro o j hw; first | omega | exact hw | (dsimp only [wSub, wRun, wNar, wFil, wCan, wLst, wCar, wDr, wFl, wMq, wRd, wRx, wCr, wTab, wTr, wNew, wKi, wKn, wTn, wOb, wPt] at hw; dsimp only [wSub, wRun, wNar, wFil, wCan, wLst, wCar, wDr, wFl, wMq, wRd, wRx, wCr, wTab, wTr, wNew, wKi, wKn, wTn, wOb, wPt]; omega) | (dsimp only [wSub, wRun, wNar, wFil, wCan, wLst, wCar, wDr, wFl, wMq, wRd, wRx, wCr, wTab, wTr, wNew, wKi, wKn, wTn, wOb, wPt]; omega) | (dsimp only [wSub, wRun, wNar, wFil, wCan, wLst, wCar, wDr, wFl, wMq, wRd, wRx, wCr, wTab, wTr, wNew, wKi, wKn, wTn, wOb, wPt] at hw; omega) | (simp [wSub, wRun, wNar, wFil, wCan, wLst, wCar, wDr, wFl, wMq, wRd, wRx, wCr, wTab, wTr, wNew, wKi, wKn, wTn, wOb, wPt] at hw; simp [wSub, wRun, wNar, wFil, wCan, wLst, wCar, wDr, wFl, wMq, wRd, wRx, wCr, wTab, wTr, wNew, wKi, wKn, wTn, wOb, wPt]; omega))
      have k1_0 := fM.ld (o := 1) (j := 0) (by intro hw; first | omega | (dsimp only [wSub, wRun, wNar, wFil, wCan, wLst, wCar, wDr, wFl, wMq, wRd, wRx, wCr, wTab, wTr, wNew, wKi, wKn, wTn, wOb, wPt] at hw; omega) | (simp [wSub, wRun, wNar, wFil, wCan, wLst, wCar, wDr, wFl, wMq, wRd, wRx, wCr, wTab, wTr, wNew, wKi, wKn, wTn, wOb, wPt] at hw; done) | (simp [wSub, wRun, wNar, wFil, wCan, wLst, wCar, wDr, wFl, wMq, wRd, wRx, wCr, wTab, wTr, wNew, wKi, wKn, wTn, wOb, wPt] at hw; omega))
      have e33 := p2a
      have n33 : NF M2 := fun i c a1 a2 a3 a4 => by rw [k1_0]; exact p2b i c a1 a2 a3 a4
      refine uX11_points_36 ?_
      refine XC.deep (c11_forgetNet  (d := 0)  (fun M3 fM3 => ?_)) (by omega)
      replace fM := fM.tr fM3 (by intro o j hw; first | omega | exact hw | (dsimp only [wSub, wRun, wNar, wFil, wCan, wLst, wCar, wDr, wFl, wMq, wRd, wRx, wCr, wTab, wTr, wNew, wKi, wKn, wTn, wOb, wPt] at hw; dsimp only [wSub, wRun, wNar, wFil, wCan, wLst, wCar, wDr, wFl, wMq, wRd, wRx, wCr, wTab, wTr, wNew, wKi, wKn, wTn, wOb, wPt]; omega) | (dsimp only [wSub, wRun, wNar, wFil, wCan, wLst, wCar, wDr, wFl, wMq, wRd, wRx, wCr, wTab, wTr, wNew, wKi, wKn, wTn, wOb, wPt]; omega) | (dsimp only [wSub, wRun, wNar, wFil, wCan, wLst, wCar, wDr, wFl, wMq, wRd, wRx, wCr, wTab, wTr, wNew, wKi, wKn, wTn, wOb, wPt] at hw; omega) | (simp [wSub, wRun, wNar, wFil, wCan, wLst, wCar, wDr, wFl, wMq, wRd, wRx, wCr, wTab, wTr, wNew, wKi, wKn, wTn, wOb, wPt] at hw; simp [wSub, wRun, wNar, wFil, wCan, wLst, wCar, wDr, wFl, wMq, wRd, wRx, wCr, wTab, wTr, wNew, wKi, wKn, wTn, wOb, wPt]; omega))
      have k1_0 := fM.ld (o := 1) (j := 0) (by intro hw; first | omega | (dsimp only [wSub, wRun, wNar, wFil, wCan, wLst, wCar, wDr, wFl, wMq, wRd, wRx, wCr, wTab, wTr, wNew, wKi, wKn, wTn, wOb, wPt] at hw; omega) | (simp [wSub, wRun, wNar, wFil, wCan, wLst, wCar, wDr, wFl, wMq, wRd, wRx, wCr, wTab, wTr, wNew, wKi, wKn, wTn, wOb, wPt] at hw; done) | (simp [wSub, wRun, wNar, wFil, wCan, wLst, wCar, wDr, wFl, wMq, wRd, wRx, wCr, wTab, wTr, wNew, wKi, wKn, wTn, wOb, wPt] at hw; omega))
      have e36 : ld M3 19 0 = x1 := by rw [fM3.ld (by omega)]; exact e33
      have n36 := n33.fr fM3 (by omega) (fun _ => by omega)
      refine uX11_points_40 ?_
      exact k _ _ fM (Or.inr ⟨rfl, by omega, e36, n36⟩)
    · skip
      refine uX11_points_11 ?_
      exact k _ _ fM (Or.inl ⟨rfl, by omega, rfl⟩)
abbrev wTl (o : Nat) (j : Int) : Prop := o = 20 ∨ o = 62 ∨ (o = 65 ∧ 6 ≤ j ∧ j ≠ 7) ∨ (o = 69 ∧ j = 9)
theorem c11_tell {d : Nat} {Q : Int → yM → Prop} {M : yM} {x1 : Int} {x2 : Int} {x3 : Int}  (hk : 1 ≤ ld M 1 0 ∧ ld M 1 0 ≤ 8) (hn : 1 ≤ ld M 19 0 ∧ ld M 19 0 ≤ 8) (r1 : yR x1) (r2 : yR x2) (r3 : yR x3) (k : ∀ (v : Int) (M' : yM), fr (wTl) M M' → (v = -1 ∧ ¬ ((0 ≤ x1 ∧ x1 < ld M 19 0) ∧ (0 ≤ x2 ∧ x2 < ld M 19 0) ∧ x1 ≠ x2 ∧ 0 ≤ x3 ∧ x3 ≤ al (ld M 1 0)) ∧ M' = M ∨ v = ld M 20 (8 * x1 + x2) ∧ ((0 ≤ x1 ∧ x1 < ld M 19 0) ∧ (0 ≤ x2 ∧ x2 < ld M 19 0) ∧ x1 ≠ x2 ∧ 0 ≤ x3 ∧ x3 ≤ al (ld M 1 0)) ∧ (ld M 20 (8 * x1 + x2) = x3 ∧ M' = M ∨ ld M 20 (8 * x1 + x2) ≠ x3 ∧ (∀ j, ld M' 20 j = if j = 8 * x2 + x1 then ld M 4 (yand x3 255) else if j = 8 * x1 + x2 then x3 else ld M 20 j))) → Q v M') : XCi (d + 2) 94 [.inr (.inr 0), .inl x1, .inl x2, .inl x3] M Q := by
  refine eX11_tell ?_
  have fM : fr (wTl) M M := fr.rf
  refine uX11_tell_0 ?_
  refine c5_has  (by first | omega | assumption | with_reducible exact rng_ld _ _ _ | with_reducible exact rng_yand _ _ | with_reducible exact rng_yor _ _ | with_reducible exact rng_zcmp _ _ | with_reducible exact yand7 _ | with_reducible exact rng_toInt _ | with_reducible exact yarr23 (by omega) | with_reducible exact yarr57 (by omega) | with_reducible exact Or.inl rfl | with_reducible exact Or.inr rfl) (fun v1 p1a => ?_)
  refine uX11_tell_8 (by first | omega | assumption | with_reducible exact rng_ld _ _ _ | with_reducible exact rng_yand _ _ | with_reducible exact rng_yor _ _ | with_reducible exact rng_zcmp _ _ | with_reducible exact yand7 _ | with_reducible exact rng_toInt _ | with_reducible exact yarr23 (by omega) | with_reducible exact yarr57 (by omega) | with_reducible exact Or.inl rfl | with_reducible exact Or.inr rfl) (fun hc => ?_) (fun hc => ?_)
  · skip
    refine uX11_tell_38 ?_
    exact k _ _ fM (Or.inl ⟨rfl, by omega, rfl⟩)
  · skip
    refine uX11_tell_11 ?_
    refine c5_has  (by first | omega | assumption | with_reducible exact rng_ld _ _ _ | with_reducible exact rng_yand _ _ | with_reducible exact rng_yor _ _ | with_reducible exact rng_zcmp _ _ | with_reducible exact yand7 _ | with_reducible exact rng_toInt _ | with_reducible exact yarr23 (by omega) | with_reducible exact yarr57 (by omega) | with_reducible exact Or.inl rfl | with_reducible exact Or.inr rfl) (fun v2 p2a => ?_)
    refine uX11_tell_19 (by first | omega | assumption | with_reducible exact rng_ld _ _ _ | with_reducible exact rng_yand _ _ | with_reducible exact rng_yor _ _ | with_reducible exact rng_zcmp _ _ | with_reducible exact yand7 _ | with_reducible exact rng_toInt _ | with_reducible exact yarr23 (by omega) | with_reducible exact yarr57 (by omega) | with_reducible exact Or.inl rfl | with_reducible exact Or.inr rfl) (fun hc => ?_) (fun hc => ?_)
    · skip
      refine uX11_tell_38 ?_
      exact k _ _ fM (Or.inl ⟨rfl, by omega, rfl⟩)
    · skip
      refine uX11_tell_22 (by first | omega | assumption | with_reducible exact rng_ld _ _ _ | with_reducible exact rng_yand _ _ | with_reducible exact rng_yor _ _ | with_reducible exact rng_zcmp _ _ | with_reducible exact yand7 _ | with_reducible exact rng_toInt _ | with_reducible exact yarr23 (by omega) | with_reducible exact yarr57 (by omega) | with_reducible exact Or.inl rfl | with_reducible exact Or.inr rfl) (by first | omega | assumption | with_reducible exact rng_ld _ _ _ | with_reducible exact rng_yand _ _ | with_reducible exact rng_yor _ _ | with_reducible exact rng_zcmp _ _ | with_reducible exact yand7 _ | with_reducible exact rng_toInt _ | with_reducible exact yarr23 (by omega) | with_reducible exact yarr57 (by omega) | with_reducible exact Or.inl rfl | with_reducible exact Or.inr rfl) (fun hc => ?_) (fun hc => ?_)
      · skip
        refine uX11_tell_38 ?_
        exact k _ _ fM (Or.inl ⟨rfl, by omega, rfl⟩)
      · skip
        refine uX11_tell_27 ?_
        refine XC.deep (c9_hasSet  (d := 0) (by first | omega | assumption | with_reducible exact rng_ld _ _ _ | with_reducible exact rng_yand _ _ | with_reducible exact rng_yor _ _ | with_reducible exact rng_zcmp _ _ | with_reducible exact yand7 _ | with_reducible exact rng_toInt _ | with_reducible exact yarr23 (by omega) | with_reducible exact yarr57 (by omega) | with_reducible exact Or.inl rfl | with_reducible exact Or.inr rfl) (by first | omega | assumption | with_reducible exact rng_ld _ _ _ | with_reducible exact rng_yand _ _ | with_reducible exact rng_yor _ _ | with_reducible exact rng_zcmp _ _ | with_reducible exact yand7 _ | with_reducible exact rng_toInt _ | with_reducible exact yarr23 (by omega) | with_reducible exact yarr57 (by omega) | with_reducible exact Or.inl rfl | with_reducible exact Or.inr rfl) (fun v3 p3a => ?_)) (by omega)
        refine uX11_tell_35 (by first | omega | assumption | with_reducible exact rng_ld _ _ _ | with_reducible exact rng_yand _ _ | with_reducible exact rng_yor _ _ | with_reducible exact rng_zcmp _ _ | with_reducible exact yand7 _ | with_reducible exact rng_toInt _ | with_reducible exact yarr23 (by omega) | with_reducible exact yarr57 (by omega) | with_reducible exact Or.inl rfl | with_reducible exact Or.inr rfl) (fun hc => ?_) (fun hc => ?_)
        · skip
          refine uX11_tell_40 (by first | omega | assumption | with_reducible exact rng_ld _ _ _ | with_reducible exact rng_yand _ _ | with_reducible exact rng_yor _ _ | with_reducible exact rng_zcmp _ _ | with_reducible exact yand7 _ | with_reducible exact rng_toInt _ | with_reducible exact yarr23 (by omega) | with_reducible exact yarr57 (by omega) | with_reducible exact Or.inl rfl | with_reducible exact Or.inr rfl) (by first | omega | assumption | with_reducible exact rng_ld _ _ _ | with_reducible exact rng_yand _ _ | with_reducible exact rng_yor _ _ | with_reducible exact rng_zcmp _ _ | with_reducible exact yand7 _ | with_reducible exact rng_toInt _ | with_reducible exact yarr23 (by omega) | with_reducible exact yarr57 (by omega) | with_reducible exact Or.inl rfl | with_reducible exact Or.inr rfl) (fun hc => ?_) (fun hc => ?_)
          · skip
            refine uX11_tell_103 ?_
            exact k _ _ fM (by first | exact Or.inr ⟨rfl, by omega, Or.inr ⟨q0, e3⟩⟩ | exact Or.inr ⟨rfl, by omega, Or.inl ⟨by omega, rfl⟩⟩)
          · skip
            have q0 : ld M 20 (8 * x1 + x2) ≠ x3 := hc
            refine uX11_tell_62 (by first | omega | assumption | with_reducible exact rng_ld _ _ _ | with_reducible exact rng_yand _ _ | with_reducible exact rng_yor _ _ | with_reducible exact rng_zcmp _ _ | with_reducible exact yand7 _ | with_reducible exact rng_toInt _ | with_reducible exact yarr23 (by omega) | with_reducible exact yarr57 (by omega) | with_reducible exact Or.inl rfl | with_reducible exact Or.inr rfl) ?_
            intro M4 hM4
            replace fM := fr.put fM hM4 (by first | omega | (dsimp only [wSub, wRun, wNar, wFil, wCan, wLst, wCar, wDr, wFl, wMq, wRd, wRx, wCr, wTab, wTr, wNew, wKi, wKn, wTn, wOb, wPt, wTl]; done) | (dsimp only [wSub, wRun, wNar, wFil, wCan, wLst, wCar, wDr, wFl, wMq, wRd, wRx, wCr, wTab, wTr, wNew, wKi, wKn, wTn, wOb, wPt, wTl]; omega) | (simp [wSub, wRun, wNar, wFil, wCan, wLst, wCar, wDr, wFl, wMq, wRd, wRx, wCr, wTab, wTr, wNew, wKi, wKn, wTn, wOb, wPt, wTl]; done) | (simp [wSub, wRun, wNar, wFil, wCan, wLst, wCar, wDr, wFl, wMq, wRd, wRx, wCr, wTab, wTr, wNew, wKi, wKn, wTn, wOb, wPt, wTl]; omega))
            have e1 : ∀ j, ld M4 20 j = if j = 8 * x1 + x2 then x3 else ld M 20 j := fun j => by
              rw [hM4, ld_put (by omega)]
              simp only [true_and]
            have e4 : ∀ j, ld M4 4 j = ld M 4 j := fun j => fM.ld (by dsimp only [wTl]; omega)
            refine uX11_tell_77 ?_
            refine c9_turnSet   ?_
            refine uX11_tell_98 (by first | omega | assumption | with_reducible exact rng_ld _ _ _ | with_reducible exact rng_yand _ _ | with_reducible exact rng_yor _ _ | with_reducible exact rng_zcmp _ _ | with_reducible exact yand7 _ | with_reducible exact rng_toInt _ | with_reducible exact yarr23 (by omega) | with_reducible exact yarr57 (by omega) | with_reducible exact Or.inl rfl | with_reducible exact Or.inr rfl) ?_
            intro M6 hM6
            replace fM := fr.put fM hM6 (by first | omega | (dsimp only [wSub, wRun, wNar, wFil, wCan, wLst, wCar, wDr, wFl, wMq, wRd, wRx, wCr, wTab, wTr, wNew, wKi, wKn, wTn, wOb, wPt, wTl]; done) | (dsimp only [wSub, wRun, wNar, wFil, wCan, wLst, wCar, wDr, wFl, wMq, wRd, wRx, wCr, wTab, wTr, wNew, wKi, wKn, wTn, wOb, wPt, wTl]; omega) | (simp [wSub, wRun, wNar, wFil, wCan, wLst, wCar, wDr, wFl, wMq, wRd, wRx, wCr, wTab, wTr, wNew, wKi, wKn, wTn, wOb, wPt, wTl]; done) | (simp [wSub, wRun, wNar, wFil, wCan, wLst, wCar, wDr, wFl, wMq, wRd, wRx, wCr, wTab, wTr, wNew, wKi, wKn, wTn, wOb, wPt, wTl]; omega))
            have e2 : (∀ j, ld M6 20 j = if j = 8 * x2 + x1 then ld M 4 (yand x3 255) else if j = 8 * x1 + x2 then x3 else ld M 20 j) := fun j => by
              rw [hM6, ld_put (rng_ld _ _ _), e1, e4]
              simp only [true_and]
            refine uX11_tell_99 ?_
            refine XC.deep (c11_forgetNet  (d := 0)  (fun M7 fM7 => ?_)) (by omega)
            replace fM := fM.tr fM7 (by intro o j hw; first | omega | exact hw | (dsimp only [wSub, wRun, wNar, wFil, wCan, wLst, wCar, wDr, wFl, wMq, wRd, wRx, wCr, wTab, wTr, wNew, wKi, wKn, wTn, wOb, wPt, wTl] at hw; dsimp only [wSub, wRun, wNar, wFil, wCan, wLst, wCar, wDr, wFl, wMq, wRd, wRx, wCr, wTab, wTr, wNew, wKi, wKn, wTn, wOb, wPt, wTl]; omega) | (dsimp only [wSub, wRun, wNar, wFil, wCan, wLst, wCar, wDr, wFl, wMq, wRd, wRx, wCr, wTab, wTr, wNew, wKi, wKn, wTn, wOb, wPt, wTl]; omega) | (dsimp only [wSub, wRun, wNar, wFil, wCan, wLst, wCar, wDr, wFl, wMq, wRd, wRx, wCr, wTab, wTr, wNew, wKi, wKn, wTn, wOb, wPt, wTl] at hw; omega) | (simp [wSub, wRun, wNar, wFil, wCan, wLst, wCar, wDr, wFl, wMq, wRd, wRx, wCr, wTab, wTr, wNew, wKi, wKn, wTn, wOb, wPt, wTl] at hw; simp [wSub, wRun, wNar, wFil, wCan, wLst, wCar, wDr, wFl, wMq, wRd, wRx, wCr, wTab, wTr, wNew, wKi, wKn, wTn, wOb, wPt, wTl]; omega))
            have e3 : (∀ j, ld M7 20 j = if j = 8 * x2 + x1 then ld M 4 (yand x3 255) else if j = 8 * x1 + x2 then x3 else ld M 20 j) := fun j => by rw [fM7.ld (by omega)]; exact e2 j
            refine uX11_tell_103 ?_
            exact k _ _ fM (by first | exact Or.inr ⟨rfl, by omega, Or.inr ⟨q0, e3⟩⟩ | exact Or.inr ⟨rfl, by omega, Or.inl ⟨by omega, rfl⟩⟩)
        · skip
          refine uX11_tell_38 ?_
          exact k _ _ fM (Or.inl ⟨rfl, by omega, rfl⟩)
