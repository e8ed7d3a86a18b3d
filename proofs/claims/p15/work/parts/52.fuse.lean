/-! CLASS: TABLES FUSED, PAIRED -/
theorem NMD.fr {W : Nat → Int → Prop} {M M' : yM} {f : Int → Int} {a b k : Int} {o : Nat} (h : NMD M f a b k o) (fM : fr W M M') (hw : ∀ j, ¬ W o j) : NMD M' f a b k o := fun c h1 h2 => by
  rw [fM.ld (hw c)]
  exact h c h1 h2
theorem nmd_end {f : Int → Int} {P P' P'' : yM} {o : Nat} {a b k : Int} (h : FH f k a b) (i4 : ∀ c, 0 ≤ c → c < k → c ≠ mx a b → c ≠ mx (f a) (f b) → ld P o c = cn f a b c.toNat) (e1 : P' = put P o (mx a b) (ld P o (mn a b))) (e2 : P'' = put P' o (mx (f a) (f b)) (ld P' o (mn (f a) (f b)))) : NMD P'' f a b k o := fun c h1 h2 => by
  have hp := h.p
  obtain ⟨h0, ha, hb, hab, h4, h5, h6⟩ := h
  have m1 := mx_mn a b
  have m2 := mx_mn (f a) (f b)
  have m3 := rp_or f a b c
  have v1 : ld P o (mn a b) = cn f a b (mn a b).toNat := i4 _ (by omega) (by omega) (by omega) (by omega)
  have v2 : ld P o (mn (f a) (f b)) = cn f a b (mn (f a) (f b)).toNat := i4 _ (by omega) (by omega) (by omega) (by omega)
  have w2 : ld P' o (mn (f a) (f b)) = cn f a b (mn (f a) (f b)).toNat := by
    rw [e1, ld_putne (Or.inr (by omega))]
    exact v2
  unfold nm
  rw [e2, ld_put (rng_ld _ _ _)]
  split
  · next q =>
    rw [w2]
    have : rp f a b c = mn (f a) (f b) := by omega
    rw [this]
  · next q =>
    rw [e1, ld_put (rng_ld _ _ _)]
    split
    · next q2 =>
      rw [v1]
      have : rp f a b c = mn a b := by
        have : c ≠ mx (f a) (f b) := fun e => q ⟨rfl, e⟩
        omega
      rw [this]
    · next q2 =>
      have n1 : c ≠ mx (f a) (f b) := fun e => q ⟨rfl, e⟩
      have n2 : c ≠ mx a b := fun e => q2 ⟨rfl, e⟩
      have : rp f a b c = c := by omega
      rw [this]
      exact i4 c h1 h2 n2 n1
/-- the state of a fusing: names told, the turns of x kinds told -/
def FB (M : yM) (f : Int → Int) (a b k x : Int) : Prop := NMD M f a b k 6 ∧ FT f a b x (ld M 2) ∧ ld M 1 0 = cn f a b k.toNat ∧ T8 M 2
theorem FB.fr {W : Nat → Int → Prop} {M M' : yM} {f : Int → Int} {a b k x : Int} (h : FB M f a b k x) (fM : fr W M M') (h6 : ∀ j, ¬ W 6 j) (h2 : ∀ j, ¬ W 2 j) (h1 : ¬ W 1 0) : FB M' f a b k x :=
  ⟨h.1.fr fM h6, fun c e1 e2 => by rw [fM.ld (h2 _)]; exact h.2.1 c e1 e2, by rw [fM.ld h1]; exact h.2.2.1, h.2.2.2.fr fM (fun j _ _ => h2 j)⟩
theorem FB.put3 {M M' : yM} {f : Int → Int} {a b k x j v : Int} (h : FB M f a b k x) (e : M' = put M 3 j v) : FB M' f a b k x :=
  h.fr (W := fun o _ => o = 3) (fr.put fr.rf e rfl) (fun _ => by omega) (fun _ => by omega) (by omega)
theorem FB.s {M M' : yM} {f : Int → Int} {a b k x : Int} (h : FB M f a b k x) (hF : FH f k a b) (hx : 0 ≤ x ∧ x < k) (e : M' = put M 2 (nm f a b x) (nm f a b (f x))) : FB M' f a b k (x + 1) := by
  have hb := nm_b hF (hF.2.2.2.2.1 x hx.1 hx.2).1
  have h8 := cn_8 hF
  exact ⟨h.1.fr (W := fun o _ => o = 2) (fr.put fr.rf e rfl) (fun _ => by omega), FT.s hF hx h.2.1 e, by rw [e, ld_putne (Or.inl (by omega))]; exact h.2.2.1, h.2.2.2.pt e (fun _ => by omega)⟩
theorem c9_becomeFused {d : Nat} {Q : yM → Prop} {M : yM} {x2 : Int} {x3 : Int}  (hF : FH (ld M 14) (ld M 13 0) x2 x3) (hT8 : T8 M 2) (h04 : ld M 4 0 = 0) (hB15 : TBd (ld M 15) (ld M 13 0)) (k : ∀ (M' : yM), fr (wTab) M M' → (ld M' 1 0 = cn (ld M 14) x2 x3 (ld M 13 0).toNat) → (FT (ld M 14) x2 x3 (ld M 13 0) (ld M' 2)) → (T8 M' 2) → (ld M' 4 0 = 0) → (TSl M' 1 (al (ld M' 1 0) + 1)) → (HJA M' 1) → (FSP (ld M 15) (nm (ld M 14) x2 x3) (ld M 13 0) (cn (ld M 14) x2 x3 (ld M 13 0).toNat) (ld M 13 0) 0 (ld M' 3)) → Q M') : XCv (d + 4) 76 [.inr (.inr 1), .inr (.inr 13), .inl x2, .inl x3] M Q := by
  refine eX9_becomeFused ?_
  have fM : fr (wTab) M M := fr.rf
  have a1 := tabSh1.2.1
  have a2 := tabSh1.2.2.1
  have a3 := tabSh1.2.2.2.1
  have a4 := tabSh1.2.2.2.2.1
  have a5 := tabSh1.2.2.2.2.2
  have hk8 := hF.1
  have hab := hF.2.1
  have hb8 := hF.2.2.1
  have hpp := hF.p
  have m1 := mx_mn x2 x3
  have m2 := mx_mn (ld M 14 x2) (ld M 14 x3)
  have cb8 := cn_8 hF
  have q1 : 0 ≤ (if x2 < x3 then x3 else x2) ∧ (if x2 < x3 then x3 else x2) < 8 := by (show 0 ≤ mx x2 x3 ∧ mx x2 x3 < 8); omega
  have go : ∀ N : Nat, (∀ (x4 : Int) (x5 : Int) (x6 : Int) (M9 : yM), fr (wTab) M M9 → (x4 = mx x2 x3) → (x5 = mx (ld M 14 x2) (ld M 14 x3)) → (0 ≤ x6 ∧ x6 ≤ ld M 13 0) → (ld M9 1 0 = cn (ld M 14) x2 x3 x6.toNat) → (∀ c, 0 ≤ c → c < x6 → c ≠ mx x2 x3 → c ≠ mx (ld M 14 x2) (ld M 14 x3) → ld M9 6 c = cn (ld M 14) x2 x3 c.toNat) → (T8 M9 2) → (ld M9 4 0 = 0) → (1000 + 8 - x6 < (N : Int)) → XW kX9_becomeFused (d + 4) none (wQv Q) 32 [some (.inr (.inr 1)), some (.inr (.inr 13)), some (.inl x2), some (.inl x3), some (.inl x4), some (.inl x5), some (.inl x6), none] [] M9) ∧ (∀ (x4 : Int) (x5 : Int) (x6 : Int) (wx7 : Option yV) (M9 : yM), fr (wTab) M M9 → (0 ≤ x6 ∧ x6 ≤ ld M 13 0) → (FB M9 (ld M 14) x2 x3 (ld M 13 0) x6) → (FSP (ld M 15) (nm (ld M 14) x2 x3) (ld M 13 0) (cn (ld M 14) x2 x3 (ld M 13 0).toNat) x6 0 (ld M9 3)) → (ld M9 4 0 = 0) → ((8 - x6) * 40 + 20 < (N : Int)) → XW kX9_becomeFused (d + 4) none (wQv Q) 137 [some (.inr (.inr 1)), some (.inr (.inr 13)), some (.inl x2), some (.inl x3), some (.inl x4), some (.inl x5), some (.inl x6), wx7] [] M9) ∧ (∀ (x4 : Int) (x5 : Int) (x6 : Int) (x7 : Int) (M9 : yM), fr (wTab) M M9 → (0 ≤ x6 ∧ x6 < ld M 13 0) → (0 ≤ x7 ∧ x7 ≤ ld M 13 0) → (FB M9 (ld M 14) x2 x3 (ld M 13 0) (x6 + 1)) → (FSP (ld M 15) (nm (ld M 14) x2 x3) (ld M 13 0) (cn (ld M 14) x2 x3 (ld M 13 0).toNat) x6 x7 (ld M9 3)) → (ld M9 4 0 = 0) → ((8 - x6) * 40 + 8 - x7 < (N : Int)) → XW kX9_becomeFused (d + 4) none (wQv Q) 173 [some (.inr (.inr 1)), some (.inr (.inr 13)), some (.inl x2), some (.inl x3), some (.inl x4), some (.inl x5), some (.inl x6), some (.inl x7)] [] M9) := by
    intro N
    induction N with
    | zero => refine ⟨?_, ?_, ?_⟩ <;> (intros; exfalso; omega)
    | succ N ih =>
      obtain ⟨ih0, ih1, ih2⟩ := ih
      refine ⟨?_, ?_, ?_⟩
      · skip
        clear fM h04
        intro x4 x5 x6 M1 fM i0 i1 i2 i3 i4 i5 h04 hm
        have k13_0 := fM.ld (o := 13) (j := 0) (by intro hw; first | omega | (dsimp only [wSub, wRun, wNar, wFil, wCan, wLst, wCar, wDr, wFl, wMq, wRd, wRx, wCr, wTab, wTr] at hw; omega) | (simp [wSub, wRun, wNar, wFil, wCan, wLst, wCar, wDr, wFl, wMq, wRd, wRx, wCr, wTab, wTr] at hw; done) | (simp [wSub, wRun, wNar, wFil, wCan, wLst, wCar, wDr, wFl, wMq, wRd, wRx, wCr, wTab, wTr] at hw; omega))
        refine uX9_becomeFused_32 (by first | omega | assumption | with_reducible exact rng_ld _ _ _ | with_reducible exact rng_yand _ _ | with_reducible exact rng_yor _ _ | with_reducible exact rng_zcmp _ _ | with_reducible exact yand7 _ | with_reducible exact rng_toInt _ | with_reducible exact yarr23 (by omega) | with_reducible exact yarr57 (by omega) | with_reducible exact Or.inl rfl | with_reducible exact Or.inr rfl) (fun hc => ?_) (fun hc => ?_)
        · skip
          have q1 : 0 ≤ (if x3 < x2 then x3 else x2) ∧ (if x3 < x2 then x3 else x2) < 8 := by (show 0 ≤ mn x2 x3 ∧ mn x2 x3 < 8); omega
          refine uX9_becomeFused_82 (by first | omega | assumption | with_reducible exact rng_ld _ _ _ | with_reducible exact rng_yand _ _ | with_reducible exact rng_yor _ _ | with_reducible exact rng_zcmp _ _ | with_reducible exact yand7 _ | with_reducible exact rng_toInt _ | with_reducible exact yarr23 (by omega) | with_reducible exact yarr57 (by omega) | with_reducible exact Or.inl rfl | with_reducible exact Or.inr rfl) (by first | omega | assumption | with_reducible exact rng_ld _ _ _ | with_reducible exact rng_yand _ _ | with_reducible exact rng_yor _ _ | with_reducible exact rng_zcmp _ _ | with_reducible exact yand7 _ | with_reducible exact rng_toInt _ | with_reducible exact yarr23 (by omega) | with_reducible exact yarr57 (by omega) | with_reducible exact Or.inl rfl | with_reducible exact Or.inr rfl) (by first | omega | assumption | with_reducible exact rng_ld _ _ _ | with_reducible exact rng_yand _ _ | with_reducible exact rng_yor _ _ | with_reducible exact rng_zcmp _ _ | with_reducible exact yand7 _ | with_reducible exact rng_toInt _ | with_reducible exact yarr23 (by omega) | with_reducible exact yarr57 (by omega) | with_reducible exact Or.inl rfl | with_reducible exact Or.inr rfl) (by first | omega | assumption | with_reducible exact rng_ld _ _ _ | with_reducible exact rng_yand _ _ | with_reducible exact rng_yor _ _ | with_reducible exact rng_zcmp _ _ | with_reducible exact yand7 _ | with_reducible exact rng_toInt _ | with_reducible exact yarr23 (by omega) | with_reducible exact yarr57 (by omega) | with_reducible exact Or.inl rfl | with_reducible exact Or.inr rfl) ?_
          intro M2 hM2
          replace fM := fr.put fM hM2 (by first | omega | (dsimp only [wSub, wRun, wNar, wFil, wCan, wLst, wCar, wDr, wFl, wMq, wRd, wRx, wCr, wTab, wTr]; done) | (dsimp only [wSub, wRun, wNar, wFil, wCan, wLst, wCar, wDr, wFl, wMq, wRd, wRx, wCr, wTab, wTr]; omega) | (simp [wSub, wRun, wNar, wFil, wCan, wLst, wCar, wDr, wFl, wMq, wRd, wRx, wCr, wTab, wTr]; done) | (simp [wSub, wRun, wNar, wFil, wCan, wLst, wCar, wDr, wFl, wMq, wRd, wRx, wCr, wTab, wTr]; omega))
          have k13_0 := fM.ld (o := 13) (j := 0) (by intro hw; first | omega | (dsimp only [wSub, wRun, wNar, wFil, wCan, wLst, wCar, wDr, wFl, wMq, wRd, wRx, wCr, wTab, wTr] at hw; omega) | (simp [wSub, wRun, wNar, wFil, wCan, wLst, wCar, wDr, wFl, wMq, wRd, wRx, wCr, wTab, wTr] at hw; done) | (simp [wSub, wRun, wNar, wFil, wCan, wLst, wCar, wDr, wFl, wMq, wRd, wRx, wCr, wTab, wTr] at hw; omega))
          replace h04 : ld M2 4 0 = 0 := by first | (rw [hM2, ld_putne (by omega)]; exact h04) | (rw [hM2, ld_same (by omega)]; omega) | (rw [hM2, ld_cpyne (by omega)]; exact h04) | (rw [hM2, ld_putL]; exact h04)
          have hxk : x6 = ld M 13 0 := by omega
          subst i0
          subst i1
          have e82 := hM2
          have c82 : ld M2 1 0 = cn (ld M 14) x2 x3 (ld M 13 0).toNat := by rw [hM2, ld_putne (by omega), i3, hxk]
          have t82 := i5.pt hM2 (fun q => absurd q (by omega))
          have w2 : ld M2 14 x2 = ld M 14 x2 := fM.ld (by dsimp only [wTab]; omega)
          have w3 : ld M2 14 x3 = ld M 14 x3 := fM.ld (by dsimp only [wTab]; omega)
          have q2 : 0 ≤ (if (ld M2 14 x3) < (ld M2 14 x2) then (ld M2 14 x3) else (ld M2 14 x2)) ∧ (if (ld M2 14 x3) < (ld M2 14 x2) then (ld M2 14 x3) else (ld M2 14 x2)) < 8 := by rw [w2, w3]; (show 0 ≤ mn (ld M 14 x2) (ld M 14 x3) ∧ mn (ld M 14 x2) (ld M 14 x3) < 8); omega
          refine uX9_becomeFused_99 (by first | omega | assumption | with_reducible exact rng_ld _ _ _ | with_reducible exact rng_yand _ _ | with_reducible exact rng_yor _ _ | with_reducible exact rng_zcmp _ _ | with_reducible exact yand7 _ | with_reducible exact rng_toInt _ | with_reducible exact yarr23 (by omega) | with_reducible exact yarr57 (by omega) | with_reducible exact Or.inl rfl | with_reducible exact Or.inr rfl) (by first | omega | assumption | with_reducible exact rng_ld _ _ _ | with_reducible exact rng_yand _ _ | with_reducible exact rng_yor _ _ | with_reducible exact rng_zcmp _ _ | with_reducible exact yand7 _ | with_reducible exact rng_toInt _ | with_reducible exact yarr23 (by omega) | with_reducible exact yarr57 (by omega) | with_reducible exact Or.inl rfl | with_reducible exact Or.inr rfl) (by first | omega | assumption | with_reducible exact rng_ld _ _ _ | with_reducible exact rng_yand _ _ | with_reducible exact rng_yor _ _ | with_reducible exact rng_zcmp _ _ | with_reducible exact yand7 _ | with_reducible exact rng_toInt _ | with_reducible exact yarr23 (by omega) | with_reducible exact yarr57 (by omega) | with_reducible exact Or.inl rfl | with_reducible exact Or.inr rfl) (by first | omega | assumption | with_reducible exact rng_ld _ _ _ | with_reducible exact rng_yand _ _ | with_reducible exact rng_yor _ _ | with_reducible exact rng_zcmp _ _ | with_reducible exact yand7 _ | with_reducible exact rng_toInt _ | with_reducible exact yarr23 (by omega) | with_reducible exact yarr57 (by omega) | with_reducible exact Or.inl rfl | with_reducible exact Or.inr rfl) ?_
          intro M3 hM3
          replace fM := fr.put fM hM3 (by first | omega | (dsimp only [wSub, wRun, wNar, wFil, wCan, wLst, wCar, wDr, wFl, wMq, wRd, wRx, wCr, wTab, wTr]; done) | (dsimp only [wSub, wRun, wNar, wFil, wCan, wLst, wCar, wDr, wFl, wMq, wRd, wRx, wCr, wTab, wTr]; omega) | (simp [wSub, wRun, wNar, wFil, wCan, wLst, wCar, wDr, wFl, wMq, wRd, wRx, wCr, wTab, wTr]; done) | (simp [wSub, wRun, wNar, wFil, wCan, wLst, wCar, wDr, wFl, wMq, wRd, wRx, wCr, wTab, wTr]; omega))
          have k13_0 := fM.ld (o := 13) (j := 0) (by intro hw; first | omega | (dsimp only [wSub, wRun, wNar, wFil, wCan, wLst, wCar, wDr, wFl, wMq, wRd, wRx, wCr, wTab, wTr] at hw; omega) | (simp [wSub, wRun, wNar, wFil, wCan, wLst, wCar, wDr, wFl, wMq, wRd, wRx, wCr, wTab, wTr] at hw; done) | (simp [wSub, wRun, wNar, wFil, wCan, wLst, wCar, wDr, wFl, wMq, wRd, wRx, wCr, wTab, wTr] at hw; omega))
          replace h04 : ld M3 4 0 = 0 := by first | (rw [hM3, ld_putne (by omega)]; exact h04) | (rw [hM3, ld_same (by omega)]; omega) | (rw [hM3, ld_cpyne (by omega)]; exact h04) | (rw [hM3, ld_putL]; exact h04)
          rw [w2, w3] at hM3
          have n99 := nmd_end (o := 6) hF (fun c h1 h2 h3 h4 => i4 c h1 (by omega) h3 h4) e82 hM3
          have c99 : ld M3 1 0 = cn (ld M 14) x2 x3 (ld M 13 0).toNat := by rw [hM3, ld_putne (by omega)]; exact c82
          have t99 := t82.pt hM3 (fun q => absurd q (by omega))
          refine uX9_becomeFused_126 ?_
          refine cJ7_fillv  (by first | assumption | exact ⟨rfl, Nat.le_of_ble_eq_true rfl⟩ | with_reducible exact yarr23 (by omega) | with_reducible exact yarr57 (by omega)) (by first | omega | assumption | with_reducible exact rng_ld _ _ _ | with_reducible exact rng_yand _ _ | with_reducible exact rng_yor _ _ | with_reducible exact rng_zcmp _ _ | with_reducible exact yand7 _ | with_reducible exact rng_toInt _ | with_reducible exact yarr23 (by omega) | with_reducible exact yarr57 (by omega) | with_reducible exact Or.inl rfl | with_reducible exact Or.inr rfl) (fun M4 fM4 p4a => ?_)
          replace fM := fM.tr fM4 (by intro o j hw; first | omega | exact hw | (dsimp only [wSub, wRun, wNar, wFil, wCan, wLst, wCar, wDr, wFl, wMq, wRd, wRx, wCr, wTab, wTr] at hw; dsimp only [wSub, wRun, wNar, wFil, wCan, wLst, wCar, wDr, wFl, wMq, wRd, wRx, wCr, wTab, wTr]; omega) | (dsimp only [wSub, wRun, wNar, wFil, wCan, wLst, wCar, wDr, wFl, wMq, wRd, wRx, wCr, wTab, wTr]; omega) | (dsimp only [wSub, wRun, wNar, wFil, wCan, wLst, wCar, wDr, wFl, wMq, wRd, wRx, wCr, wTab, wTr] at hw; omega) | (simp [wSub, wRun, wNar, wFil, wCan, wLst, wCar, wDr, wFl, wMq, wRd, wRx, wCr, wTab, wTr] at hw; simp [wSub, wRun, wNar, wFil, wCan, wLst, wCar, wDr, wFl, wMq, wRd, wRx, wCr, wTab, wTr]; omega))
          have k13_0 := fM.ld (o := 13) (j := 0) (by intro hw; first | omega | (dsimp only [wSub, wRun, wNar, wFil, wCan, wLst, wCar, wDr, wFl, wMq, wRd, wRx, wCr, wTab, wTr] at hw; omega) | (simp [wSub, wRun, wNar, wFil, wCan, wLst, wCar, wDr, wFl, wMq, wRd, wRx, wCr, wTab, wTr] at hw; done) | (simp [wSub, wRun, wNar, wFil, wCan, wLst, wCar, wDr, wFl, wMq, wRd, wRx, wCr, wTab, wTr] at hw; omega))
          replace h04 : ld M4 4 0 = 0 := by first | assumption | (rw [fM4.ld (o := 4) (j := 0) (by intro hw; first | omega | (dsimp only [wSub, wRun, wNar, wFil, wCan, wLst, wCar, wDr, wFl, wMq, wRd, wRx, wCr, wTab, wTr] at hw; omega) | (simp [wSub, wRun, wNar, wFil, wCan, wLst, wCar, wDr, wFl, wMq, wRd, wRx, wCr, wTab, wTr] at hw; done) | (simp [wSub, wRun, wNar, wFil, wCan, wLst, wCar, wDr, wFl, wMq, wRd, wRx, wCr, wTab, wTr] at hw; omega))]; exact h04) | omega | exact p4a
          have f137 : FB M4 (ld M 14) x2 x3 (ld M 13 0) 0 := FB.fr (W := fun o _ => o = 3) ⟨n99, fun c h1 h2 => absurd h2 (by omega), c99, t99⟩ fM4 (fun _ => by omega) (fun _ => by omega) (by omega)
          have g126 : FSP (ld M 15) (nm (ld M 14) x2 x3) (ld M 13 0) (cn (ld M 14) x2 x3 (ld M 13 0).toNat) 0 0 (ld M4 3) := FSP.z (fun j h1 h2 => p4a j h1 (by omega)) cb8.2
          refine uX9_becomeFused_134 ?_
          exact ih1 _ _ _ _ M4 fM (by first | omega | assumption | with_reducible exact rng_ld _ _ _ | with_reducible exact rng_yand _ _ | with_reducible exact rng_yor _ _ | with_reducible exact rng_zcmp _ _ | with_reducible exact yand7 _ | with_reducible exact rng_toInt _ | with_reducible exact yarr23 (by omega) | with_reducible exact yarr57 (by omega) | with_reducible exact Or.inl rfl | with_reducible exact Or.inr rfl) (by first | assumption | exact f137 | exact f231) (by first | exact g126 | exact g231) h04 (by omega)
        · skip
          refine uX9_becomeFused_41 (by first | omega | assumption | with_reducible exact rng_ld _ _ _ | with_reducible exact rng_yand _ _ | with_reducible exact rng_yor _ _ | with_reducible exact rng_zcmp _ _ | with_reducible exact yand7 _ | with_reducible exact rng_toInt _ | with_reducible exact yarr23 (by omega) | with_reducible exact yarr57 (by omega) | with_reducible exact Or.inl rfl | with_reducible exact Or.inr rfl) (by first | omega | assumption | with_reducible exact rng_ld _ _ _ | with_reducible exact rng_yand _ _ | with_reducible exact rng_yor _ _ | with_reducible exact rng_zcmp _ _ | with_reducible exact yand7 _ | with_reducible exact rng_toInt _ | with_reducible exact yarr23 (by omega) | with_reducible exact yarr57 (by omega) | with_reducible exact Or.inl rfl | with_reducible exact Or.inr rfl) (fun hc => ?_) (fun hc => ?_)
          · skip
            have j3 : ld M1 1 0 = cn (ld M 14) x2 x3 (x6 + 1).toNat := by first | (rw [cn_s0 (by omega) (by omega)]; omega) | (rw [cn_s1 (by omega) (by omega) (by omega)]; omega)
            have j4 : ∀ c, 0 ≤ c → c < x6 + 1 → c ≠ mx x2 x3 → c ≠ mx (ld M 14 x2) (ld M 14 x3) → ld M1 6 c = cn (ld M 14) x2 x3 c.toNat := by first | exact j66 | exact (fun c h1 h2 h3 h4 => i4 c h1 (by omega) h3 h4)
            have j5 : T8 M1 2 := by first | exact t66 | exact i5
            refine uX9_becomeFused_76 ?_
            exact ih0 _ _ _ M1 fM (by first | assumption | rfl) (by first | assumption | rfl) (by first | omega | assumption | with_reducible exact rng_ld _ _ _ | with_reducible exact rng_yand _ _ | with_reducible exact rng_yor _ _ | with_reducible exact rng_zcmp _ _ | with_reducible exact yand7 _ | with_reducible exact rng_toInt _ | with_reducible exact yarr23 (by omega) | with_reducible exact yarr57 (by omega) | with_reducible exact Or.inl rfl | with_reducible exact Or.inr rfl) (by first | assumption | exact j3 | exact j30) (by first | assumption | exact j4 | exact j40) (by first | assumption | exact j5 | exact j50) h04 (by omega)
          · skip
            refine uX9_becomeFused_48 (by first | omega | assumption | with_reducible exact rng_ld _ _ _ | with_reducible exact rng_yand _ _ | with_reducible exact rng_yor _ _ | with_reducible exact rng_zcmp _ _ | with_reducible exact yand7 _ | with_reducible exact rng_toInt _ | with_reducible exact yarr23 (by omega) | with_reducible exact yarr57 (by omega) | with_reducible exact Or.inl rfl | with_reducible exact Or.inr rfl) (by first | omega | assumption | with_reducible exact rng_ld _ _ _ | with_reducible exact rng_yand _ _ | with_reducible exact rng_yor _ _ | with_reducible exact rng_zcmp _ _ | with_reducible exact yand7 _ | with_reducible exact rng_toInt _ | with_reducible exact yarr23 (by omega) | with_reducible exact yarr57 (by omega) | with_reducible exact Or.inl rfl | with_reducible exact Or.inr rfl) (fun hc => ?_) (fun hc => ?_)
            · skip
              have j3 : ld M1 1 0 = cn (ld M 14) x2 x3 (x6 + 1).toNat := by first | (rw [cn_s0 (by omega) (by omega)]; omega) | (rw [cn_s1 (by omega) (by omega) (by omega)]; omega)
              have j4 : ∀ c, 0 ≤ c → c < x6 + 1 → c ≠ mx x2 x3 → c ≠ mx (ld M 14 x2) (ld M 14 x3) → ld M1 6 c = cn (ld M 14) x2 x3 c.toNat := by first | exact j66 | exact (fun c h1 h2 h3 h4 => i4 c h1 (by omega) h3 h4)
              have j5 : T8 M1 2 := by first | exact t66 | exact i5
              refine uX9_becomeFused_76 ?_
              exact ih0 _ _ _ M1 fM (by first | assumption | rfl) (by first | assumption | rfl) (by first | omega | assumption | with_reducible exact rng_ld _ _ _ | with_reducible exact rng_yand _ _ | with_reducible exact rng_yor _ _ | with_reducible exact rng_zcmp _ _ | with_reducible exact yand7 _ | with_reducible exact rng_toInt _ | with_reducible exact yarr23 (by omega) | with_reducible exact yarr57 (by omega) | with_reducible exact Or.inl rfl | with_reducible exact Or.inr rfl) (by first | assumption | exact j3 | exact j30) (by first | assumption | exact j4 | exact j40) (by first | assumption | exact j5 | exact j50) h04 (by omega)
            · skip
              refine uX9_becomeFused_55 (by first | omega | assumption | with_reducible exact rng_ld _ _ _ | with_reducible exact rng_yand _ _ | with_reducible exact rng_yor _ _ | with_reducible exact rng_zcmp _ _ | with_reducible exact yand7 _ | with_reducible exact rng_toInt _ | with_reducible exact yarr23 (by omega) | with_reducible exact yarr57 (by omega) | with_reducible exact Or.inl rfl | with_reducible exact Or.inr rfl) ?_
              intro M5 hM5
              replace fM := fr.put fM hM5 (by first | omega | (dsimp only [wSub, wRun, wNar, wFil, wCan, wLst, wCar, wDr, wFl, wMq, wRd, wRx, wCr, wTab, wTr]; done) | (dsimp only [wSub, wRun, wNar, wFil, wCan, wLst, wCar, wDr, wFl, wMq, wRd, wRx, wCr, wTab, wTr]; omega) | (simp [wSub, wRun, wNar, wFil, wCan, wLst, wCar, wDr, wFl, wMq, wRd, wRx, wCr, wTab, wTr]; done) | (simp [wSub, wRun, wNar, wFil, wCan, wLst, wCar, wDr, wFl, wMq, wRd, wRx, wCr, wTab, wTr]; omega))
              have k13_0 := fM.ld (o := 13) (j := 0) (by intro hw; first | omega | (dsimp only [wSub, wRun, wNar, wFil, wCan, wLst, wCar, wDr, wFl, wMq, wRd, wRx, wCr, wTab, wTr] at hw; omega) | (simp [wSub, wRun, wNar, wFil, wCan, wLst, wCar, wDr, wFl, wMq, wRd, wRx, wCr, wTab, wTr] at hw; done) | (simp [wSub, wRun, wNar, wFil, wCan, wLst, wCar, wDr, wFl, wMq, wRd, wRx, wCr, wTab, wTr] at hw; omega))
              replace h04 : ld M5 4 0 = 0 := by first | (rw [hM5, ld_putne (by omega)]; exact h04) | (rw [hM5, ld_same (by omega)]; omega) | (rw [hM5, ld_cpyne (by omega)]; exact h04) | (rw [hM5, ld_putL]; exact h04)
              have e55 : ld M5 1 0 = ld M1 1 0 := by rw [hM5, ld_putne (by omega)]
              have j55 : ∀ c, 0 ≤ c → c < x6 + 1 → c ≠ mx x2 x3 → c ≠ mx (ld M 14 x2) (ld M 14 x3) → ld M5 6 c = cn (ld M 14) x2 x3 c.toNat := fun c h1 h2 h3 h4 => by
                rw [hM5, ld_put (rng_ld _ _ _)]
                split
                · next q => rw [q.2]; exact i3
                · next q => exact i4 c h1 (by omega) h3 h4
              have t55 := i5.pt hM5 (fun q => absurd q (by omega))
              refine uX9_becomeFused_66 ?_
              intro M6 hM6
              replace fM := fr.put fM hM6 (by first | omega | (dsimp only [wSub, wRun, wNar, wFil, wCan, wLst, wCar, wDr, wFl, wMq, wRd, wRx, wCr, wTab, wTr]; done) | (dsimp only [wSub, wRun, wNar, wFil, wCan, wLst, wCar, wDr, wFl, wMq, wRd, wRx, wCr, wTab, wTr]; omega) | (simp [wSub, wRun, wNar, wFil, wCan, wLst, wCar, wDr, wFl, wMq, wRd, wRx, wCr, wTab, wTr]; done) | (simp [wSub, wRun, wNar, wFil, wCan, wLst, wCar, wDr, wFl, wMq, wRd, wRx, wCr, wTab, wTr]; omega))
              have k13_0 := fM.ld (o := 13) (j := 0) (by intro hw; first | omega | (dsimp only [wSub, wRun, wNar, wFil, wCan, wLst, wCar, wDr, wFl, wMq, wRd, wRx, wCr, wTab, wTr] at hw; omega) | (simp [wSub, wRun, wNar, wFil, wCan, wLst, wCar, wDr, wFl, wMq, wRd, wRx, wCr, wTab, wTr] at hw; done) | (simp [wSub, wRun, wNar, wFil, wCan, wLst, wCar, wDr, wFl, wMq, wRd, wRx, wCr, wTab, wTr] at hw; omega))
              replace h04 : ld M6 4 0 = 0 := by first | (rw [hM6, ld_putne (by omega)]; exact h04) | (rw [hM6, ld_same (by omega)]; omega) | (rw [hM6, ld_cpyne (by omega)]; exact h04) | (rw [hM6, ld_putL]; exact h04)
              have cb := cn_b (ld M 14) x2 x3 x6.toNat
              have e66 : ld M6 1 0 = ld M5 1 0 + 1 := by rw [hM6, ld_same (by omega)]
              have j66 : ∀ c, 0 ≤ c → c < x6 + 1 → c ≠ mx x2 x3 → c ≠ mx (ld M 14 x2) (ld M 14 x3) → ld M6 6 c = cn (ld M 14) x2 x3 c.toNat := fun c h1 h2 h3 h4 => by rw [hM6, ld_putne (by omega)]; exact j55 c h1 h2 h3 h4
              have t66 := t55.pt hM6 (fun q => absurd q (by omega))
              have j3 : ld M6 1 0 = cn (ld M 14) x2 x3 (x6 + 1).toNat := by first | (rw [cn_s0 (by omega) (by omega)]; omega) | (rw [cn_s1 (by omega) (by omega) (by omega)]; omega)
              have j4 : ∀ c, 0 ≤ c → c < x6 + 1 → c ≠ mx x2 x3 → c ≠ mx (ld M 14 x2) (ld M 14 x3) → ld M6 6 c = cn (ld M 14) x2 x3 c.toNat := by first | exact j66 | exact (fun c h1 h2 h3 h4 => i4 c h1 (by omega) h3 h4)
              have j5 : T8 M6 2 := by first | exact t66 | exact i5
              refine uX9_becomeFused_76 ?_
              exact ih0 _ _ _ M6 fM (by first | assumption | rfl) (by first | assumption | rfl) (by first | omega | assumption | with_reducible exact rng_ld _ _ _ | with_reducible exact rng_yand _ _ | with_reducible exact rng_yor _ _ | with_reducible exact rng_zcmp _ _ | with_reducible exact yand7 _ | with_reducible exact rng_toInt _ | with_reducible exact yarr23 (by omega) | with_reducible exact yarr57 (by omega) | with_reducible exact Or.inl rfl | with_reducible exact Or.inr rfl) (by first | assumption | exact j3 | exact j30) (by first | assumption | exact j4 | exact j40) (by first | assumption | exact j5 | exact j50) h04 (by omega)
      · skip
        clear fM h04
        intro x4 x5 x6 wx7 M7 fM i0 i1 i2 h04 hm
        have k13_0 := fM.ld (o := 13) (j := 0) (by intro hw; first | omega | (dsimp only [wSub, wRun, wNar, wFil, wCan, wLst, wCar, wDr, wFl, wMq, wRd, wRx, wCr, wTab, wTr] at hw; omega) | (simp [wSub, wRun, wNar, wFil, wCan, wLst, wCar, wDr, wFl, wMq, wRd, wRx, wCr, wTab, wTr] at hw; done) | (simp [wSub, wRun, wNar, wFil, wCan, wLst, wCar, wDr, wFl, wMq, wRd, wRx, wCr, wTab, wTr] at hw; omega))
        refine uX9_becomeFused_137 (by first | omega | assumption | with_reducible exact rng_ld _ _ _ | with_reducible exact rng_yand _ _ | with_reducible exact rng_yor _ _ | with_reducible exact rng_zcmp _ _ | with_reducible exact yand7 _ | with_reducible exact rng_toInt _ | with_reducible exact yarr23 (by omega) | with_reducible exact yarr57 (by omega) | with_reducible exact Or.inl rfl | with_reducible exact Or.inr rfl) (fun hc => ?_) (fun hc => ?_)
        · skip
          have c237 := i1.2.2.1
          have hxk : x6 = ld M 13 0 := by omega
          rw [hxk] at i1
          rw [hxk] at i2
          refine uX9_becomeFused_237 ?_
          refine XC.deep (c9_prepare  (d := 0) (by first | assumption | exact tabSh1 | exact tabSh7 | exact tabSh13 | with_reducible exact yterm83 (by omega)) (by first | omega | assumption | with_reducible exact rng_ld _ _ _ | with_reducible exact rng_yand _ _ | with_reducible exact rng_yor _ _ | with_reducible exact rng_zcmp _ _ | with_reducible exact yand7 _ | with_reducible exact rng_toInt _ | with_reducible exact yarr23 (by omega) | with_reducible exact yarr57 (by omega) | with_reducible exact Or.inl rfl | with_reducible exact Or.inr rfl) h04 i1.2.2.2 (fun M8 fM8 p8a p8b p8c => ?_)) (by omega)
          replace fM := fM.tr fM8 (by intro o j hw; first | omega | exact hw | (dsimp only [wSub, wRun, wNar, wFil, wCan, wLst, wCar, wDr, wFl, wMq, wRd, wRx, wCr, wTab, wTr] at hw; dsimp only [wSub, wRun, wNar, wFil, wCan, wLst, wCar, wDr, wFl, wMq, wRd, wRx, wCr, wTab, wTr]; omega) | (dsimp only [wSub, wRun, wNar, wFil, wCan, wLst, wCar, wDr, wFl, wMq, wRd, wRx, wCr, wTab, wTr]; omega) | (dsimp only [wSub, wRun, wNar, wFil, wCan, wLst, wCar, wDr, wFl, wMq, wRd, wRx, wCr, wTab, wTr] at hw; omega) | (simp [wSub, wRun, wNar, wFil, wCan, wLst, wCar, wDr, wFl, wMq, wRd, wRx, wCr, wTab, wTr] at hw; simp [wSub, wRun, wNar, wFil, wCan, wLst, wCar, wDr, wFl, wMq, wRd, wRx, wCr, wTab, wTr]; omega))
          have k13_0 := fM.ld (o := 13) (j := 0) (by intro hw; first | omega | (dsimp only [wSub, wRun, wNar, wFil, wCan, wLst, wCar, wDr, wFl, wMq, wRd, wRx, wCr, wTab, wTr] at hw; omega) | (simp [wSub, wRun, wNar, wFil, wCan, wLst, wCar, wDr, wFl, wMq, wRd, wRx, wCr, wTab, wTr] at hw; done) | (simp [wSub, wRun, wNar, wFil, wCan, wLst, wCar, wDr, wFl, wMq, wRd, wRx, wCr, wTab, wTr] at hw; omega))
          replace h04 : ld M8 4 0 = 0 := by first | assumption | (rw [fM8.ld (o := 4) (j := 0) (by intro hw; first | omega | (dsimp only [wSub, wRun, wNar, wFil, wCan, wLst, wCar, wDr, wFl, wMq, wRd, wRx, wCr, wTab, wTr] at hw; omega) | (simp [wSub, wRun, wNar, wFil, wCan, wLst, wCar, wDr, wFl, wMq, wRd, wRx, wCr, wTab, wTr] at hw; done) | (simp [wSub, wRun, wNar, wFil, wCan, wLst, wCar, wDr, wFl, wMq, wRd, wRx, wCr, wTab, wTr] at hw; omega))]; exact h04) | omega | exact p8a | exact p8b | exact p8c
          have f237 := i1.fr fM8 (fun _ => by omega) (fun _ => by omega) (by omega)
          have z1 := p8b
          have z2 := p8c
          have z3 : FSP (ld M 15) (nm (ld M 14) x2 x3) (ld M 13 0) (cn (ld M 14) x2 x3 (ld M 13 0).toNat) (ld M 13 0) 0 (ld M8 3) := by
            rw [show ld M8 3 = ld M7 3 from funext fun j => fM8.ld (by omega)]
            exact i2
          refine uX9_becomeFused_241 ?_
          exact k _ fM f237.2.2.1 f237.2.1 f237.2.2.2 h04 z1 z2 z3
        · skip
          have w6 : ld M7 14 x6 = ld M 14 x6 := fM.ld (by dsimp only [wTab]; omega)
          have hf6 := hF.2.2.2.2.1 x6 (by omega) (by omega)
          have n6 := i1.1 x6 (by omega) (by omega)
          have n7 := i1.1 (ld M 14 x6) (by omega) (by omega)
          have b6 := nm_b hF (c := x6) (by omega)
          have b7 := nm_b hF hf6.1
          refine uX9_becomeFused_146 (by first | omega | assumption | with_reducible exact rng_ld _ _ _ | with_reducible exact rng_yand _ _ | with_reducible exact rng_yor _ _ | with_reducible exact rng_zcmp _ _ | with_reducible exact yand7 _ | with_reducible exact rng_toInt _ | with_reducible exact yarr23 (by omega) | with_reducible exact yarr57 (by omega) | with_reducible exact Or.inl rfl | with_reducible exact Or.inr rfl) (by first | omega | assumption | with_reducible exact rng_ld _ _ _ | with_reducible exact rng_yand _ _ | with_reducible exact rng_yor _ _ | with_reducible exact rng_zcmp _ _ | with_reducible exact yand7 _ | with_reducible exact rng_toInt _ | with_reducible exact yarr23 (by omega) | with_reducible exact yarr57 (by omega) | with_reducible exact Or.inl rfl | with_reducible exact Or.inr rfl) (by first | omega | assumption | with_reducible exact rng_ld _ _ _ | with_reducible exact rng_yand _ _ | with_reducible exact rng_yor _ _ | with_reducible exact rng_zcmp _ _ | with_reducible exact yand7 _ | with_reducible exact rng_toInt _ | with_reducible exact yarr23 (by omega) | with_reducible exact yarr57 (by omega) | with_reducible exact Or.inl rfl | with_reducible exact Or.inr rfl) (by first | omega | assumption | with_reducible exact rng_ld _ _ _ | with_reducible exact rng_yand _ _ | with_reducible exact rng_yor _ _ | with_reducible exact rng_zcmp _ _ | with_reducible exact yand7 _ | with_reducible exact rng_toInt _ | with_reducible exact yarr23 (by omega) | with_reducible exact yarr57 (by omega) | with_reducible exact Or.inl rfl | with_reducible exact Or.inr rfl) ?_
          intro M9 hM9
          replace fM := fr.put fM hM9 (by first | omega | (dsimp only [wSub, wRun, wNar, wFil, wCan, wLst, wCar, wDr, wFl, wMq, wRd, wRx, wCr, wTab, wTr]; done) | (dsimp only [wSub, wRun, wNar, wFil, wCan, wLst, wCar, wDr, wFl, wMq, wRd, wRx, wCr, wTab, wTr]; omega) | (simp [wSub, wRun, wNar, wFil, wCan, wLst, wCar, wDr, wFl, wMq, wRd, wRx, wCr, wTab, wTr]; done) | (simp [wSub, wRun, wNar, wFil, wCan, wLst, wCar, wDr, wFl, wMq, wRd, wRx, wCr, wTab, wTr]; omega))
          have k13_0 := fM.ld (o := 13) (j := 0) (by intro hw; first | omega | (dsimp only [wSub, wRun, wNar, wFil, wCan, wLst, wCar, wDr, wFl, wMq, wRd, wRx, wCr, wTab, wTr] at hw; omega) | (simp [wSub, wRun, wNar, wFil, wCan, wLst, wCar, wDr, wFl, wMq, wRd, wRx, wCr, wTab, wTr] at hw; done) | (simp [wSub, wRun, wNar, wFil, wCan, wLst, wCar, wDr, wFl, wMq, wRd, wRx, wCr, wTab, wTr] at hw; omega))
          replace h04 : ld M9 4 0 = 0 := by first | (rw [hM9, ld_putne (by omega)]; exact h04) | (rw [hM9, ld_same (by omega)]; omega) | (rw [hM9, ld_cpyne (by omega)]; exact h04) | (rw [hM9, ld_putL]; exact h04)
          rw [w6, n6, n7] at hM9
          have f146 := i1.s hF (by omega) hM9
          have g146 : FSP (ld M 15) (nm (ld M 14) x2 x3) (ld M 13 0) (cn (ld M 14) x2 x3 (ld M 13 0).toNat) x6 0 (ld M9 3) := by
            rw [show ld M9 3 = ld M7 3 from funext fun j => by rw [hM9, ld_putne (Or.inl (by omega))]]
            exact i2
          refine uX9_becomeFused_170 ?_
          exact ih2 _ _ _ _ M9 fM (by first | omega | assumption | with_reducible exact rng_ld _ _ _ | with_reducible exact rng_yand _ _ | with_reducible exact rng_yor _ _ | with_reducible exact rng_zcmp _ _ | with_reducible exact yand7 _ | with_reducible exact rng_toInt _ | with_reducible exact yarr23 (by omega) | with_reducible exact yarr57 (by omega) | with_reducible exact Or.inl rfl | with_reducible exact Or.inr rfl) (by first | omega | assumption | with_reducible exact rng_ld _ _ _ | with_reducible exact rng_yand _ _ | with_reducible exact rng_yor _ _ | with_reducible exact rng_zcmp _ _ | with_reducible exact yand7 _ | with_reducible exact rng_toInt _ | with_reducible exact yarr23 (by omega) | with_reducible exact yarr57 (by omega) | with_reducible exact Or.inl rfl | with_reducible exact Or.inr rfl) (by first | exact f223 | exact f146 | assumption) (by first | exact g223 | exact g146) h04 (by omega)
      · skip
        clear fM h04
        intro x4 x5 x6 x7 M10 fM i0 i1 i2 i3 h04 hm
        have k13_0 := fM.ld (o := 13) (j := 0) (by intro hw; first | omega | (dsimp only [wSub, wRun, wNar, wFil, wCan, wLst, wCar, wDr, wFl, wMq, wRd, wRx, wCr, wTab, wTr] at hw; omega) | (simp [wSub, wRun, wNar, wFil, wCan, wLst, wCar, wDr, wFl, wMq, wRd, wRx, wCr, wTab, wTr] at hw; done) | (simp [wSub, wRun, wNar, wFil, wCan, wLst, wCar, wDr, wFl, wMq, wRd, wRx, wCr, wTab, wTr] at hw; omega))
        refine uX9_becomeFused_173 (by first | omega | assumption | with_reducible exact rng_ld _ _ _ | with_reducible exact rng_yand _ _ | with_reducible exact rng_yor _ _ | with_reducible exact rng_zcmp _ _ | with_reducible exact yand7 _ | with_reducible exact rng_toInt _ | with_reducible exact yarr23 (by omega) | with_reducible exact yarr57 (by omega) | with_reducible exact Or.inl rfl | with_reducible exact Or.inr rfl) (fun hc => ?_) (fun hc => ?_)
        · skip
          have f231 := i2
          have g231 := i3.row (by omega)
          refine uX9_becomeFused_231 ?_
          exact ih1 _ _ _ _ M10 fM (by first | omega | assumption | with_reducible exact rng_ld _ _ _ | with_reducible exact rng_yand _ _ | with_reducible exact rng_yor _ _ | with_reducible exact rng_zcmp _ _ | with_reducible exact yand7 _ | with_reducible exact rng_toInt _ | with_reducible exact yarr23 (by omega) | with_reducible exact yarr57 (by omega) | with_reducible exact Or.inl rfl | with_reducible exact Or.inr rfl) (by first | assumption | exact f137 | exact f231) (by first | exact g126 | exact g231) h04 (by omega)
        · skip
          have w15 : ld M10 15 (8 * x6 + x7) = ld M 15 (8 * x6 + x7) := fM.ld (by dsimp only [wTab]; omega)
          have n6 := i2.1 x6 (by omega) (by omega)
          have n7 := i2.1 x7 (by omega) (by omega)
          have b6 := nm_b hF (c := x6) (by omega)
          have b7 := nm_b hF (c := x7) (by omega)
          refine uX9_becomeFused_182 (by first | omega | assumption | with_reducible exact rng_ld _ _ _ | with_reducible exact rng_yand _ _ | with_reducible exact rng_yor _ _ | with_reducible exact rng_zcmp _ _ | with_reducible exact yand7 _ | with_reducible exact rng_toInt _ | with_reducible exact yarr23 (by omega) | with_reducible exact yarr57 (by omega) | with_reducible exact Or.inl rfl | with_reducible exact Or.inr rfl) (by first | omega | assumption | with_reducible exact rng_ld _ _ _ | with_reducible exact rng_yand _ _ | with_reducible exact rng_yor _ _ | with_reducible exact rng_zcmp _ _ | with_reducible exact yand7 _ | with_reducible exact rng_toInt _ | with_reducible exact yarr23 (by omega) | with_reducible exact yarr57 (by omega) | with_reducible exact Or.inl rfl | with_reducible exact Or.inr rfl) (by first | omega | assumption | with_reducible exact rng_ld _ _ _ | with_reducible exact rng_yand _ _ | with_reducible exact rng_yor _ _ | with_reducible exact rng_zcmp _ _ | with_reducible exact yand7 _ | with_reducible exact rng_toInt _ | with_reducible exact yarr23 (by omega) | with_reducible exact yarr57 (by omega) | with_reducible exact Or.inl rfl | with_reducible exact Or.inr rfl) (by first | omega | assumption | with_reducible exact rng_ld _ _ _ | with_reducible exact rng_yand _ _ | with_reducible exact rng_yor _ _ | with_reducible exact rng_zcmp _ _ | with_reducible exact yand7 _ | with_reducible exact rng_toInt _ | with_reducible exact yarr23 (by omega) | with_reducible exact yarr57 (by omega) | with_reducible exact Or.inl rfl | with_reducible exact Or.inr rfl) ?_
          refine c9_renamed   (fun v182 p11a => ?_)
          have r182 := p11a
          rw [w15] at r182
          refine uX9_becomeFused_223 (by first | omega | assumption | with_reducible exact rng_ld _ _ _ | with_reducible exact rng_yand _ _ | with_reducible exact rng_yor _ _ | with_reducible exact rng_zcmp _ _ | with_reducible exact yand7 _ | with_reducible exact rng_toInt _ | with_reducible exact yarr23 (by omega) | with_reducible exact yarr57 (by omega) | with_reducible exact Or.inl rfl | with_reducible exact Or.inr rfl) ?_
          intro M12 hM12
          replace fM := fr.put fM hM12 (by first | omega | (dsimp only [wSub, wRun, wNar, wFil, wCan, wLst, wCar, wDr, wFl, wMq, wRd, wRx, wCr, wTab, wTr]; done) | (dsimp only [wSub, wRun, wNar, wFil, wCan, wLst, wCar, wDr, wFl, wMq, wRd, wRx, wCr, wTab, wTr]; omega) | (simp [wSub, wRun, wNar, wFil, wCan, wLst, wCar, wDr, wFl, wMq, wRd, wRx, wCr, wTab, wTr]; done) | (simp [wSub, wRun, wNar, wFil, wCan, wLst, wCar, wDr, wFl, wMq, wRd, wRx, wCr, wTab, wTr]; omega))
          have k13_0 := fM.ld (o := 13) (j := 0) (by intro hw; first | omega | (dsimp only [wSub, wRun, wNar, wFil, wCan, wLst, wCar, wDr, wFl, wMq, wRd, wRx, wCr, wTab, wTr] at hw; omega) | (simp [wSub, wRun, wNar, wFil, wCan, wLst, wCar, wDr, wFl, wMq, wRd, wRx, wCr, wTab, wTr] at hw; done) | (simp [wSub, wRun, wNar, wFil, wCan, wLst, wCar, wDr, wFl, wMq, wRd, wRx, wCr, wTab, wTr] at hw; omega))
          replace h04 : ld M12 4 0 = 0 := by first | (rw [hM12, ld_putne (by omega)]; exact h04) | (rw [hM12, ld_same (by omega)]; omega) | (rw [hM12, ld_cpyne (by omega)]; exact h04) | (rw [hM12, ld_putL]; exact h04)
          have f223 := i2.put3 hM12
          rw [n6, n7] at hM12
          have g223 : FSP (ld M 15) (nm (ld M 14) x2 x3) (ld M 13 0) (cn (ld M 14) x2 x3 (ld M 13 0).toNat) x6 (x7 + 1) (ld M12 3) := by
            refine i3.s (v := v182) (w := 0) cb8.2 (by omega) (by omega) (fun c h1 h2 => by have := nm_b hF (c := c) ⟨h1, h2⟩; omega) (fun j => ?_) (fun t => ?_)
            · rw [hM12, ld_put (rng_yor _ _)]
              by_cases q : j = 8 * nm (ld M 14) x2 x3 x6 + nm (ld M 14) x2 x3 x7
              · rw [if_pos ⟨rfl, q⟩, if_pos q, q]
              · rw [if_neg (fun w => q w.2), if_neg q]
            · rw [r182]
              exact rnm_bt (T := ld M 15) hk8 (hB15 x6 x7 (by omega) (by omega) (by omega) (by omega)) (fun c h1 h2 => by have := nm_b hF (c := c) ⟨h1, h2⟩; omega) (fun c h1 h2 => i2.1 c h1 h2) t
          refine uX9_becomeFused_225 ?_
          exact ih2 _ _ _ _ M12 fM (by first | omega | assumption | with_reducible exact rng_ld _ _ _ | with_reducible exact rng_yand _ _ | with_reducible exact rng_yor _ _ | with_reducible exact rng_zcmp _ _ | with_reducible exact yand7 _ | with_reducible exact rng_toInt _ | with_reducible exact yarr23 (by omega) | with_reducible exact yarr57 (by omega) | with_reducible exact Or.inl rfl | with_reducible exact Or.inr rfl) (by first | omega | assumption | with_reducible exact rng_ld _ _ _ | with_reducible exact rng_yand _ _ | with_reducible exact rng_yor _ _ | with_reducible exact rng_zcmp _ _ | with_reducible exact yand7 _ | with_reducible exact rng_toInt _ | with_reducible exact yarr23 (by omega) | with_reducible exact yarr57 (by omega) | with_reducible exact Or.inl rfl | with_reducible exact Or.inr rfl) (by first | exact f223 | exact f146 | assumption) (by first | exact g223 | exact g146) h04 (by omega)
  refine uX9_becomeFused_0 (by first | omega | assumption | with_reducible exact rng_ld _ _ _ | with_reducible exact rng_yand _ _ | with_reducible exact rng_yor _ _ | with_reducible exact rng_zcmp _ _ | with_reducible exact yand7 _ | with_reducible exact rng_toInt _ | with_reducible exact yarr23 (by omega) | with_reducible exact yarr57 (by omega) | with_reducible exact Or.inl rfl | with_reducible exact Or.inr rfl) (by first | omega | assumption | with_reducible exact rng_ld _ _ _ | with_reducible exact rng_yand _ _ | with_reducible exact rng_yor _ _ | with_reducible exact rng_zcmp _ _ | with_reducible exact yand7 _ | with_reducible exact rng_toInt _ | with_reducible exact yarr23 (by omega) | with_reducible exact yarr57 (by omega) | with_reducible exact Or.inl rfl | with_reducible exact Or.inr rfl) (by first | omega | assumption | with_reducible exact rng_ld _ _ _ | with_reducible exact rng_yand _ _ | with_reducible exact rng_yor _ _ | with_reducible exact rng_zcmp _ _ | with_reducible exact yand7 _ | with_reducible exact rng_toInt _ | with_reducible exact yarr23 (by omega) | with_reducible exact yarr57 (by omega) | with_reducible exact Or.inl rfl | with_reducible exact Or.inr rfl) (by first | omega | assumption | with_reducible exact rng_ld _ _ _ | with_reducible exact rng_yand _ _ | with_reducible exact rng_yor _ _ | with_reducible exact rng_zcmp _ _ | with_reducible exact yand7 _ | with_reducible exact rng_toInt _ | with_reducible exact yarr23 (by omega) | with_reducible exact yarr57 (by omega) | with_reducible exact Or.inl rfl | with_reducible exact Or.inr rfl) ?_
  intro M13 hM13
  replace fM := fr.put fM hM13 (by first | omega | (dsimp only [wSub, wRun, wNar, wFil, wCan, wLst, wCar, wDr, wFl, wMq, wRd, wRx, wCr, wTab, wTr]; done) | (dsimp only [wSub, wRun, wNar, wFil, wCan, wLst, wCar, wDr, wFl, wMq, wRd, wRx, wCr, wTab, wTr]; omega) | (simp [wSub, wRun, wNar, wFil, wCan, wLst, wCar, wDr, wFl, wMq, wRd, wRx, wCr, wTab, wTr]; done) | (simp [wSub, wRun, wNar, wFil, wCan, wLst, wCar, wDr, wFl, wMq, wRd, wRx, wCr, wTab, wTr]; omega))
  have k13_0 := fM.ld (o := 13) (j := 0) (by intro hw; first | omega | (dsimp only [wSub, wRun, wNar, wFil, wCan, wLst, wCar, wDr, wFl, wMq, wRd, wRx, wCr, wTab, wTr] at hw; omega) | (simp [wSub, wRun, wNar, wFil, wCan, wLst, wCar, wDr, wFl, wMq, wRd, wRx, wCr, wTab, wTr] at hw; done) | (simp [wSub, wRun, wNar, wFil, wCan, wLst, wCar, wDr, wFl, wMq, wRd, wRx, wCr, wTab, wTr] at hw; omega))
  replace h04 : ld M13 4 0 = 0 := by first | (rw [hM13, ld_putne (by omega)]; exact h04) | (rw [hM13, ld_same (by omega)]; omega) | (rw [hM13, ld_cpyne (by omega)]; exact h04) | (rw [hM13, ld_putL]; exact h04)
  have j30 : ld M13 1 0 = cn (ld M 14) x2 x3 (0 : Int).toNat := by rw [hM13, ld_same (by omega)]; rfl
  have j40 : ∀ c, 0 ≤ c → c < 0 → c ≠ mx x2 x3 → c ≠ mx (ld M 14 x2) (ld M 14 x3) → ld M13 6 c = cn (ld M 14) x2 x3 c.toNat := fun c h1 h2 => absurd h2 (by omega)
  have j50 : T8 M13 2 := hT8.pt hM13 (fun q => absurd q (by omega))
  refine uX9_becomeFused_29 ?_
  exact (go 1000000).1 _ _ _ M13 fM (by first | assumption | rfl) (by first | assumption | rfl) (by first | omega | assumption | with_reducible exact rng_ld _ _ _ | with_reducible exact rng_yand _ _ | with_reducible exact rng_yor _ _ | with_reducible exact rng_zcmp _ _ | with_reducible exact yand7 _ | with_reducible exact rng_toInt _ | with_reducible exact yarr23 (by omega) | with_reducible exact yarr57 (by omega) | with_reducible exact Or.inl rfl | with_reducible exact Or.inr rfl) (by first | assumption | exact j3 | exact j30) (by first | assumption | exact j4 | exact j40) (by first | assumption | exact j5 | exact j50) h04 (by omega)
