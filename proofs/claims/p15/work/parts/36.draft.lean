abbrev wDr (o : Nat) (j : Int) : Prop := o = 79 ∨ o = 80 ∨ (o = 77 ∧ j ≠ 1)
/-! the draft: brackets are counted -/
def cntP (f : Int → Int) : Nat → Int
  | 0 => 0
  | n + 1 => cntP f n + (if f n = 40 then 1 else 0)
theorem cntP_congr {f g : Int → Int} : ∀ (n : Nat), (∀ j : Int, 0 ≤ j → j < n → f j = g j) → cntP f n = cntP g n
  | 0, _ => rfl
  | n + 1, h => by
    simp only [cntP]
    rw [cntP_congr n (fun j h1 h2 => h j h1 (by omega)), h n (by omega) (by omega)]
theorem cntP_nn (f : Int → Int) : ∀ n : Nat, 0 ≤ cntP f n
  | 0 => by simp [cntP]
  | n + 1 => by
    have := cntP_nn f n
    simp only [cntP]
    split <;> omega
def DJ (M : yM) (a : Int) : Prop := (0 ≤ ld M 77 6 ∧ ld M 77 6 ≤ 60) ∧ (0 ≤ ld M 77 3 ∧ ld M 77 3 ≤ 60) ∧ ld M 77 8 = cntP (ld M 80) (ld M 77 6).toNat + a
abbrev DI (M : yM) : Prop := DJ M 0
theorem DJ.of {M M' : yM} {a : Int} (h : DJ M a) (h6 : ld M' 77 6 = ld M 77 6) (h3 : 0 ≤ ld M' 77 3 ∧ ld M' 77 3 ≤ 60) (h8 : ld M' 77 8 = ld M 77 8) (h80 : ∀ j, ld M' 80 j = ld M 80 j) : DJ M' a := by
  obtain ⟨g1, g2, g3⟩ := h
  refine ⟨by omega, h3, ?_⟩
  rw [h8, g3, h6, cntP_congr (f := ld M' 80) (g := ld M 80) _ (fun j _ _ => h80 j)]
theorem DJ_put {M M' : yM} {a j v : Int} (h : DJ M a) (e : M' = put M 77 j v) (hj : j ≠ 3 ∧ j ≠ 6 ∧ j ≠ 8) : DJ M' a := by
  subst e
  have h3 : ld (put M 77 j v) 77 3 = ld M 77 3 := ld_putne (by omega)
  exact h.of (ld_putne (by omega)) (by rw [h3]; exact h.2.1) (ld_putne (by omega)) (fun i => ld_putne (by omega))
theorem DJ_open {M M' : yM} (h : DI M) (e : M' = put M 77 8 (ld M 77 8 + 1)) : DJ M' 1 := by
  subst e
  obtain ⟨g1, g2, g3⟩ := h
  have hr := rng_ld M 77 8
  have hc : cntP (ld M 80) (ld M 77 6).toNat ≤ 60 := by
    have : ∀ n : Nat, cntP (ld M 80) n ≤ n := by
      intro n
      induction n with
      | zero => simp [cntP]
      | succ n ih => simp only [cntP]; split <;> omega
    have := this (ld M 77 6).toNat
    omega
  refine ⟨by rw [ld_putne (by omega)]; exact g1, by rw [ld_putne (by omega)]; exact g2, ?_⟩
  rw [ld_same (by omega), ld_putne (by omega), cntP_congr (f := ld (put M 77 8 (ld M 77 8 + 1)) 80) (g := ld M 80) _ (fun j _ _ => ld_putne (by omega))]
  omega
/-- one more waits -/
def WT (M M' : yM) (x : Int) : Prop := ld M 77 6 < 60 ∧ M' = put (put M 80 (ld M 77 6) x) 77 6 (ld M 77 6 + 1)
theorem DJ_wait {M M' : yM} {a x : Int} (hx : -2147483648 ≤ x ∧ x < 2147483648) (h : DJ M a) (w : WT M M' x) : DJ M' (a - if x = 40 then 1 else 0) := by
  obtain ⟨w1, e⟩ := w
  obtain ⟨g1, g2, g3⟩ := h
  subst e
  have e6 : ld (put (put M 80 (ld M 77 6) x) 77 6 (ld M 77 6 + 1)) 77 6 = ld M 77 6 + 1 := ld_same (by omega)
  have e3 : ld (put (put M 80 (ld M 77 6) x) 77 6 (ld M 77 6 + 1)) 77 3 = ld M 77 3 := by rw [ld_putne (by omega), ld_putne (by omega)]
  have e8 : ld (put (put M 80 (ld M 77 6) x) 77 6 (ld M 77 6 + 1)) 77 8 = ld M 77 8 := by rw [ld_putne (by omega), ld_putne (by omega)]
  have e80 : ∀ j, ld (put (put M 80 (ld M 77 6) x) 77 6 (ld M 77 6 + 1)) 80 j = if j = ld M 77 6 then x else ld M 80 j := by
    intro j
    rw [ld_putne (by omega), ld_put hx]
    by_cases q : j = ld M 77 6
    · rw [if_pos ⟨rfl, q⟩, if_pos q]
    · rw [if_neg (fun r => q r.2), if_neg q]
  refine ⟨by omega, by omega, ?_⟩
  have hn : (((ld M 77 6).toNat : Nat) : Int) = ld M 77 6 := by omega
  rw [e8, g3, e6, show (ld M 77 6 + 1).toNat = (ld M 77 6).toNat + 1 by omega]
  simp only [cntP]
  rw [e80, if_pos hn, cntP_congr (f := ld (put (put M 80 (ld M 77 6) x) 77 6 (ld M 77 6 + 1)) 80) (g := ld M 80) (ld M 77 6).toNat (fun j h1 h2 => by rw [e80, if_neg (by omega)])]
  omega
theorem DJ_pop {M M' : yM} {a : Int} (h : DJ M a) (hp : 0 < ld M 77 6) (e : M' = put M 77 6 (ld M 77 6 - 1)) : DJ M' (a + if ld M 80 (ld M 77 6 - 1) = 40 then 1 else 0) := by
  subst e
  obtain ⟨g1, g2, g3⟩ := h
  have e6 : ld (put M 77 6 (ld M 77 6 - 1)) 77 6 = ld M 77 6 - 1 := ld_same (by omega)
  have e3 : ld (put M 77 6 (ld M 77 6 - 1)) 77 3 = ld M 77 3 := ld_putne (by omega)
  have e8 : ld (put M 77 6 (ld M 77 6 - 1)) 77 8 = ld M 77 8 := ld_putne (by omega)
  refine ⟨by omega, by omega, ?_⟩
  obtain ⟨n, hn⟩ := Int.eq_ofNat_of_zero_le (show 0 ≤ ld M 77 6 - 1 by omega)
  rw [e8, g3, e6, show (ld M 77 6).toNat = n + 1 by omega, show (ld M 77 6 - 1).toNat = n by omega]
  simp only [cntP]
  rw [cntP_congr (f := ld (put M 77 6 (ld M 77 6 - 1)) 80) (g := ld M 80) n (fun j h1 h2 => ld_putne (by omega)), hn]
  omega
theorem DJ_close {M M' : yM} {a : Int} (h : DJ M a) (hb : 0 ≤ ld M 77 8) (e : M' = put M 77 8 (ld M 77 8 - 1)) : DJ M' (a - 1) := by
  subst e
  obtain ⟨g1, g2, g3⟩ := h
  have hr := rng_ld M 77 8
  refine ⟨by rw [ld_putne (by omega)]; exact g1, by rw [ld_putne (by omega)]; exact g2, ?_⟩
  rw [ld_same (by omega), ld_putne (by omega), cntP_congr (f := ld (put M 77 8 (ld M 77 8 - 1)) 80) (g := ld M 80) _ (fun j _ _ => ld_putne (by omega))]
  omega
theorem DJ_top {M : yM} (h : DI M) (ho : 0 < ld M 77 8) : 0 < ld M 77 6 := by
  obtain ⟨g1, g2, g3⟩ := h
  apply Classical.byContradiction
  intro q
  rw [show (ld M 77 6).toNat = 0 by omega] at g3
  simp only [cntP] at g3
  omega
theorem DJ_frw {M M' : yM} {a : Int} (h : DJ M a) (f : fr (fun o j => o = 79 ∨ o = 77 ∧ j = 3) M M') (h3 : 0 ≤ ld M' 77 3 ∧ ld M' 77 3 ≤ 60) : DJ M' a :=
  h.of (f.ld (by omega)) h3 (f.ld (by omega)) (fun j => f.ld (by omega))
theorem c1_strength {d : Nat} {Q : Int → yM → Prop} {M : yM} {x0 : Int}  (p0 : -2147483648 ≤ x0 ∧ x0 < 2147483648) (k : ∀ (v : Int), ((x0 = 40 ∧ v = 0) ∨ (x0 ≠ 40 ∧ 1 ≤ v ∧ v ≤ 4)) → Q v M) : XCi d 13 [.inl x0] M Q := by
  refine eX1_strength ?_
  refine uX1_strength_0 (by first | omega | assumption | with_reducible exact rng_ld _ _ _ | with_reducible exact rng_yand _ _ | with_reducible exact rng_yor _ _ | with_reducible exact rng_zcmp _ _ | with_reducible exact yand7 _ | with_reducible exact rng_toInt _ | with_reducible exact yarr23 (by omega) | with_reducible exact yarr57 (by omega) | with_reducible exact Or.inl rfl | with_reducible exact Or.inr rfl) (fun hc => ?_) (fun hc => ?_) (fun hc => ?_) (fun hc => ?_) (fun hc0 hc1 hc2 hc3 => ?_)
  · skip
    refine uX1_strength_48 ?_
    exact k _ (by first | omega | assumption | with_reducible exact rng_ld _ _ _ | with_reducible exact rng_yand _ _ | with_reducible exact rng_yor _ _ | with_reducible exact rng_zcmp _ _ | with_reducible exact yand7 _ | with_reducible exact rng_toInt _ | with_reducible exact yarr23 (by omega) | with_reducible exact yarr57 (by omega) | with_reducible exact Or.inl rfl | with_reducible exact Or.inr rfl)
  · skip
    refine uX1_strength_44 ?_
    exact k _ (by first | omega | assumption | with_reducible exact rng_ld _ _ _ | with_reducible exact rng_yand _ _ | with_reducible exact rng_yor _ _ | with_reducible exact rng_zcmp _ _ | with_reducible exact yand7 _ | with_reducible exact rng_toInt _ | with_reducible exact yarr23 (by omega) | with_reducible exact yarr57 (by omega) | with_reducible exact Or.inl rfl | with_reducible exact Or.inr rfl)
  · skip
    refine uX1_strength_46 ?_
    exact k _ (by first | omega | assumption | with_reducible exact rng_ld _ _ _ | with_reducible exact rng_yand _ _ | with_reducible exact rng_yor _ _ | with_reducible exact rng_zcmp _ _ | with_reducible exact yand7 _ | with_reducible exact rng_toInt _ | with_reducible exact yarr23 (by omega) | with_reducible exact yarr57 (by omega) | with_reducible exact Or.inl rfl | with_reducible exact Or.inr rfl)
  · skip
    refine uX1_strength_50 ?_
    exact k _ (by first | omega | assumption | with_reducible exact rng_ld _ _ _ | with_reducible exact rng_yand _ _ | with_reducible exact rng_yor _ _ | with_reducible exact rng_zcmp _ _ | with_reducible exact yand7 _ | with_reducible exact rng_toInt _ | with_reducible exact yarr23 (by omega) | with_reducible exact yarr57 (by omega) | with_reducible exact Or.inl rfl | with_reducible exact Or.inr rfl)
  · skip
    refine uX1_strength_52 ?_
    exact k _ (by first | omega | assumption | with_reducible exact rng_ld _ _ _ | with_reducible exact rng_yand _ _ | with_reducible exact rng_yor _ _ | with_reducible exact rng_zcmp _ _ | with_reducible exact yand7 _ | with_reducible exact rng_toInt _ | with_reducible exact yarr23 (by omega) | with_reducible exact yarr57 (by omega) | with_reducible exact Or.inl rfl | with_reducible exact Or.inr rfl)
theorem c1_write {d : Nat} {Q : yM → Prop} {M : yM} {x1 : Int}  (c3 : 0 ≤ ld M 77 3 ∧ ld M 77 3 ≤ 60) (k : ∀ (M' : yM), fr (fun o j => o = 79 ∨ o = 77 ∧ j = 3) M M' → (0 ≤ ld M' 77 3 ∧ ld M' 77 3 ≤ 60) → Q M') : XCv d 12 [.inr (.inr 77), .inl x1] M Q := by
  refine eX1_write ?_
  have fM : fr (fun o j => o = 79 ∨ o = 77 ∧ j = 3) M M := fr.rf
  refine uX1_write_0 (fun hc => ?_) (fun hc => ?_)
  · skip
    refine uX1_write_29 ?_
    exact k _ fM (by first | omega | assumption | with_reducible exact rng_ld _ _ _ | with_reducible exact rng_yand _ _ | with_reducible exact rng_yor _ _ | with_reducible exact rng_zcmp _ _ | with_reducible exact yand7 _ | with_reducible exact rng_toInt _ | with_reducible exact yarr23 (by omega) | with_reducible exact yarr57 (by omega) | with_reducible exact Or.inl rfl | with_reducible exact Or.inr rfl)
  · skip
    refine uX1_write_9 (by first | omega | assumption | with_reducible exact rng_ld _ _ _ | with_reducible exact rng_yand _ _ | with_reducible exact rng_yor _ _ | with_reducible exact rng_zcmp _ _ | with_reducible exact yand7 _ | with_reducible exact rng_toInt _ | with_reducible exact yarr23 (by omega) | with_reducible exact yarr57 (by omega) | with_reducible exact Or.inl rfl | with_reducible exact Or.inr rfl) ?_
    intro M1 hM1
    replace fM := fr.put fM hM1 (by first | omega | (dsimp only [wSub, wRun, wNar, wFil, wCan, wLst, wCar, wDr]; done) | (dsimp only [wSub, wRun, wNar, wFil, wCan, wLst, wCar, wDr]; omega) | (simp [wSub, wRun, wNar, wFil, wCan, wLst, wCar, wDr]; done) | (simp [wSub, wRun, wNar, wFil, wCan, wLst, wCar, wDr]; omega))
    replace c3 : 0 ≤ ld M1 77 3 ∧ ld M1 77 3 ≤ 60 := by first | (rw [hM1, ld_putne (by omega)]; exact c3) | (rw [hM1, ld_same (by omega)]; omega) | (rw [hM1, ld_cpyne (by omega)]; exact c3) | (rw [hM1, ld_putL]; exact c3)
    have e9 : ld M1 77 3 = ld M 77 3 := by rw [hM1, ld_putne (by omega)]
    refine uX1_write_19 ?_
    intro M2 hM2
    replace fM := fr.put fM hM2 (by first | omega | (dsimp only [wSub, wRun, wNar, wFil, wCan, wLst, wCar, wDr]; done) | (dsimp only [wSub, wRun, wNar, wFil, wCan, wLst, wCar, wDr]; omega) | (simp [wSub, wRun, wNar, wFil, wCan, wLst, wCar, wDr]; done) | (simp [wSub, wRun, wNar, wFil, wCan, wLst, wCar, wDr]; omega))
    replace c3 : 0 ≤ ld M2 77 3 ∧ ld M2 77 3 ≤ 60 := by first | (rw [hM2, ld_putne (by omega)]; exact c3) | (rw [hM2, ld_same (by omega)]; omega) | (rw [hM2, ld_cpyne (by omega)]; exact c3) | (rw [hM2, ld_putL]; exact c3)
    refine uX1_write_29 ?_
    exact k _ fM (by first | omega | assumption | with_reducible exact rng_ld _ _ _ | with_reducible exact rng_yand _ _ | with_reducible exact rng_yor _ _ | with_reducible exact rng_zcmp _ _ | with_reducible exact yand7 _ | with_reducible exact rng_toInt _ | with_reducible exact yarr23 (by omega) | with_reducible exact yarr57 (by omega) | with_reducible exact Or.inl rfl | with_reducible exact Or.inr rfl)
theorem c1_waits {d : Nat} {Q : Int → yM → Prop} {M : yM} {x1 : Int} (h6 : 0 ≤ ld M 77 6 ∧ ld M 77 6 ≤ 60) (k : ∀ (v : Int) (M' : yM), fr (fun o j => o = 80 ∨ o = 77 ∧ j = 6) M M' → (v = 0 ∨ v = 1 ∧ WT M M' x1) → Q v M') : XCi d 10 [.inr (.inr 77), .inl x1] M Q := by
  refine eX1_waits ?_
  refine uX1_waits_0 (fun hc => ?_) (fun hc => ?_)
  · refine uX1_waits_11 (by omega) ?_
    rintro _ rfl
    refine uX1_waits_21 ?_
    rintro _ rfl
    refine uX1_waits_31 ?_
    have e6 : ld (put M 80 (ld M 77 6) x1) 77 6 = ld M 77 6 := ld_putne (by omega)
    rw [e6]
    refine k _ _ ?_ (Or.inr ⟨rfl, hc, rfl⟩)
    exact fr.put (fr.put fr.rf rfl (Or.inl rfl)) rfl (Or.inr ⟨rfl, rfl⟩)
  · refine uX1_waits_9 ?_
    exact k _ _ fr.rf (Or.inl rfl)
theorem c1_writeWaiting {d : Nat} {Q : yM → Prop} {M : yM} {x1 : Int}  (hD : DJ M 0) (p1 : 1 ≤ x1 ∧ x1 ≤ 4) (k : ∀ (M' : yM), fr (wDr) M M' → (DJ M' 0) → (ld M' 77 8 = ld M 77 8) → (0 < ld M' 77 6 → x1 = 1 → ld M' 80 (ld M' 77 6 - 1) = 40) → Q M') : XCv (d + 1) 11 [.inr (.inr 77), .inl x1] M Q := by
  refine eX1_writeWaiting ?_
  have fM : fr (wDr) M M := fr.rf
  have hD6 := hD.1
  have go : ∀ N : Nat, (∀  (M9 : yM), fr (wDr) M M9 → (DJ M9 0) → (ld M9 77 8 = ld M 77 8) → (0 ≤ ld M9 77 6 ∧ ld M9 77 6 ≤ 60) → (ld M9 77 6 < (N : Int)) → XW kX1_writeWaiting (d + 1) none (wQv Q) 0 [some (.inr (.inr 77)), some (.inl x1)] [] M9) := by
    intro N
    induction N with
    | zero => intros; exfalso; omega
    | succ N ih =>
      have ih0 := ih
      clear fM
      intro  M1 fM i0 i1 i2 hm
      obtain ⟨b6, b3, b8⟩ := id i0
      refine uX1_writeWaiting_0 (fun hc => ?_) (fun hc => ?_)
      · skip
        refine uX1_writeWaiting_51 ?_
        exact k _ fM (by first | exact i0 | exact hD) (by first | exact i1 | omega) (by intro h1 h2; omega)
      · skip
        refine uX1_writeWaiting_7 (by first | omega | assumption | with_reducible exact rng_ld _ _ _ | with_reducible exact rng_yand _ _ | with_reducible exact rng_yor _ _ | with_reducible exact rng_zcmp _ _ | with_reducible exact yand7 _ | with_reducible exact rng_toInt _ | with_reducible exact yarr23 (by omega) | with_reducible exact yarr57 (by omega) | with_reducible exact Or.inl rfl | with_reducible exact Or.inr rfl) ?_
        refine c1_strength  (by first | omega | assumption | with_reducible exact rng_ld _ _ _ | with_reducible exact rng_yand _ _ | with_reducible exact rng_yor _ _ | with_reducible exact rng_zcmp _ _ | with_reducible exact yand7 _ | with_reducible exact rng_toInt _ | with_reducible exact yarr23 (by omega) | with_reducible exact yarr57 (by omega) | with_reducible exact Or.inl rfl | with_reducible exact Or.inr rfl) (fun v2 p2a => ?_)
        refine uX1_writeWaiting_21 (by first | omega | assumption | with_reducible exact rng_ld _ _ _ | with_reducible exact rng_yand _ _ | with_reducible exact rng_yor _ _ | with_reducible exact rng_zcmp _ _ | with_reducible exact yand7 _ | with_reducible exact rng_toInt _ | with_reducible exact yarr23 (by omega) | with_reducible exact yarr57 (by omega) | with_reducible exact Or.inl rfl | with_reducible exact Or.inr rfl) (by first | omega | assumption | with_reducible exact rng_ld _ _ _ | with_reducible exact rng_yand _ _ | with_reducible exact rng_yor _ _ | with_reducible exact rng_zcmp _ _ | with_reducible exact yand7 _ | with_reducible exact rng_toInt _ | with_reducible exact yarr23 (by omega) | with_reducible exact yarr57 (by omega) | with_reducible exact Or.inl rfl | with_reducible exact Or.inr rfl) (fun hc => ?_) (fun hc => ?_)
        · skip
          refine uX1_writeWaiting_51 ?_
          exact k _ fM (by first | exact i0 | exact hD) (by first | exact i1 | omega) (by intro h1 h2; omega)
        · skip
          refine uX1_writeWaiting_25 ?_
          intro M3 hM3
          replace fM := fr.put fM hM3 (by first | omega | (dsimp only [wSub, wRun, wNar, wFil, wCan, wLst, wCar, wDr]; done) | (dsimp only [wSub, wRun, wNar, wFil, wCan, wLst, wCar, wDr]; omega) | (simp [wSub, wRun, wNar, wFil, wCan, wLst, wCar, wDr]; done) | (simp [wSub, wRun, wNar, wFil, wCan, wLst, wCar, wDr]; omega))
          have D1 := DJ_pop i0 (by omega) hM3
          rw [if_neg (by omega)] at D1
          have e8 : ld M3 77 8 = ld M1 77 8 := by rw [hM3, ld_putne (by omega)]
          have e6 : ld M3 77 6 = ld M1 77 6 - 1 := by rw [hM3]; exact ld_same (by omega)
          obtain ⟨d6, d3, d8⟩ := id D1
          refine uX1_writeWaiting_35 (by first | omega | assumption | with_reducible exact rng_ld _ _ _ | with_reducible exact rng_yand _ _ | with_reducible exact rng_yor _ _ | with_reducible exact rng_zcmp _ _ | with_reducible exact yand7 _ | with_reducible exact rng_toInt _ | with_reducible exact yarr23 (by omega) | with_reducible exact yarr57 (by omega) | with_reducible exact Or.inl rfl | with_reducible exact Or.inr rfl) ?_
          refine c1_write  (by first | omega | assumption | with_reducible exact rng_ld _ _ _ | with_reducible exact rng_yand _ _ | with_reducible exact rng_yor _ _ | with_reducible exact rng_zcmp _ _ | with_reducible exact yand7 _ | with_reducible exact rng_toInt _ | with_reducible exact yarr23 (by omega) | with_reducible exact yarr57 (by omega) | with_reducible exact Or.inl rfl | with_reducible exact Or.inr rfl) (fun M4 fM4 p4a => ?_)
          replace fM := fM.tr fM4 (by intro o j hw; first | omega | exact hw | (dsimp only [wSub, wRun, wNar, wFil, wCan, wLst, wCar, wDr] at hw; dsimp only [wSub, wRun, wNar, wFil, wCan, wLst, wCar, wDr]; omega) | (dsimp only [wSub, wRun, wNar, wFil, wCan, wLst, wCar, wDr]; omega) | (dsimp only [wSub, wRun, wNar, wFil, wCan, wLst, wCar, wDr] at hw; omega) | (simp [wSub, wRun, wNar, wFil, wCan, wLst, wCar, wDr] at hw; simp [wSub, wRun, wNar, wFil, wCan, wLst, wCar, wDr]; omega))
          have D2 := DJ_frw D1 fM4 p4a
          have e8b := fM4.ld (o := 77) (j := 8) (by omega)
          have e6b := fM4.ld (o := 77) (j := 6) (by omega)
          refine uX1_writeWaiting_48 ?_
          exact ih0  M4 fM (by first | omega | assumption | with_reducible exact rng_ld _ _ _ | with_reducible exact rng_yand _ _ | with_reducible exact rng_yor _ _ | with_reducible exact rng_zcmp _ _ | with_reducible exact yand7 _ | with_reducible exact rng_toInt _ | with_reducible exact yarr23 (by omega) | with_reducible exact yarr57 (by omega) | with_reducible exact Or.inl rfl | with_reducible exact Or.inr rfl) (by first | omega | assumption | with_reducible exact rng_ld _ _ _ | with_reducible exact rng_yand _ _ | with_reducible exact rng_yor _ _ | with_reducible exact rng_zcmp _ _ | with_reducible exact yand7 _ | with_reducible exact rng_toInt _ | with_reducible exact yarr23 (by omega) | with_reducible exact yarr57 (by omega) | with_reducible exact Or.inl rfl | with_reducible exact Or.inr rfl) (by first | omega | assumption | with_reducible exact rng_ld _ _ _ | with_reducible exact rng_yand _ _ | with_reducible exact rng_yor _ _ | with_reducible exact rng_zcmp _ _ | with_reducible exact yand7 _ | with_reducible exact rng_toInt _ | with_reducible exact yarr23 (by omega) | with_reducible exact yarr57 (by omega) | with_reducible exact Or.inl rfl | with_reducible exact Or.inr rfl) (by omega)
  exact (go 1000000)  M fM (by first | omega | assumption | with_reducible exact rng_ld _ _ _ | with_reducible exact rng_yand _ _ | with_reducible exact rng_yor _ _ | with_reducible exact rng_zcmp _ _ | with_reducible exact yand7 _ | with_reducible exact rng_toInt _ | with_reducible exact yarr23 (by omega) | with_reducible exact yarr57 (by omega) | with_reducible exact Or.inl rfl | with_reducible exact Or.inr rfl) (by first | omega | assumption | with_reducible exact rng_ld _ _ _ | with_reducible exact rng_yand _ _ | with_reducible exact rng_yor _ _ | with_reducible exact rng_zcmp _ _ | with_reducible exact yand7 _ | with_reducible exact rng_toInt _ | with_reducible exact yarr23 (by omega) | with_reducible exact yarr57 (by omega) | with_reducible exact Or.inl rfl | with_reducible exact Or.inr rfl) (by first | omega | assumption | with_reducible exact rng_ld _ _ _ | with_reducible exact rng_yand _ _ | with_reducible exact rng_yor _ _ | with_reducible exact rng_zcmp _ _ | with_reducible exact yand7 _ | with_reducible exact rng_toInt _ | with_reducible exact yarr23 (by omega) | with_reducible exact yarr57 (by omega) | with_reducible exact Or.inl rfl | with_reducible exact Or.inr rfl) (by omega)
