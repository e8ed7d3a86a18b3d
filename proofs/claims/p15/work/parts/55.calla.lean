/-! CLASS: THE CALLS, MORE -/
theorem cn_cg {f g : Int → Int} {a b : Int} (ha : g a = f a) (hb : g b = f b) : ∀ n : Nat, cn g a b n = cn f a b n
  | 0 => rfl
  | n + 1 => by simp only [cn]; rw [cn_cg ha hb n, ha, hb]
theorem nm_cg {f g : Int → Int} {a b : Int} (ha : g a = f a) (hb : g b = f b) (c : Int) : nm g a b c = nm f a b c := by
  unfold nm rp
  rw [ha, hb, cn_cg ha hb]
theorem FH.cg {f g : Int → Int} {k a b : Int} (h : FH f k a b) (e : ∀ j, 0 ≤ j → j < 8 → g j = f j) : FH g k a b := by
  have hp := h.p
  obtain ⟨h0, h1, h2, h3, h4, h5, h6⟩ := h
  have ea := e a (by omega) (by omega)
  have eb := e b (by omega) (by omega)
  refine ⟨h0, h1, h2, h3, fun j q1 q2 => ?_, by rw [ea, eb]; exact h5, by rw [ea]; exact h6⟩
  have h := h4 j q1 q2
  rw [e j q1 (by omega), e (f j) (by omega) (by omega)]
  exact h
theorem FT.cg {f g t t' : Int → Int} {a b k : Int} (hF : FH f k a b) (e : ∀ j, 0 ≤ j → j < 8 → g j = f j) (e' : ∀ j, t' j = t j) (h : FT g a b k t) : FT f a b k t' := fun c h1 h2 => by
  have hk := hF.1
  have ha := hF.2.1
  have hb := hF.2.2.1
  have q := h c h1 h2
  have q1 := e a (by omega) (by omega)
  have q2 := e b (by omega) (by omega)
  rw [nm_cg q1 q2, nm_cg q1 q2, e c h1 (by omega)] at q
  rw [e']
  exact q
theorem TW.cg {f g f' g' t t' : Int → Int} {k m y : Int} (hk : k ≤ 8) (hm : m ≤ 8) (hy : y ≤ m) (h : TW f g k y 0 t) (e1 : ∀ j, 0 ≤ j → j < 8 → f j = f' j) (e2 : ∀ j, 0 ≤ j → j < 8 → g j = g' j) (e3 : ∀ j, t' j = t j) : TW f' g' k y 0 t' := fun c r h1 h2 h3 h4 => by
  rw [e3, h c r h1 h2 h3 h4, e1 c h1 (by omega), e2 r h3 (by omega)]
theorem in_Ki1 : ∀ o j, wTab o j → wKi o j := by
  intro o j h
  dsimp only [wTab, wKi] at *
  omega
theorem in_Ki2 : ∀ o j, wNew o j → wKi o j := by
  intro o j h
  dsimp only [wNew, wKi] at *
  omega
theorem in_Ki3 : ∀ (o : Nat) (j : Int), (o = 13 ∧ j = 0 ∨ 13 + 1 ≤ o ∧ o ≤ 13 + 3 ∨ o = 13 + 4 ∧ 17 ≤ j % 256 ∧ j % 16 ≠ 0) → wKi o j := by
  intro o j h
  dsimp only [wKi] at *
  omega
theorem in_Ki4 : ∀ (o : Nat) (j : Int), (o = 1 ∧ j = 0 ∨ 1 + 1 ≤ o ∧ o ≤ 1 + 3 ∨ o = 1 + 4 ∧ 17 ≤ j % 256 ∧ j % 16 ≠ 0) → wKi o j := by
  intro o j h
  dsimp only [wKi] at *
  omega
theorem c11_fuse {d : Nat} {Q : Int → yM → Prop} {M : yM} {x1 : Int} {x2 : Int}  (hk : 1 ≤ ld M 1 0 ∧ ld M 1 0 ≤ 8) (hn : 1 ≤ ld M 19 0 ∧ ld M 19 0 ≤ 8) (hT8 : T8 M 2) (hI : ∀ j, 0 ≤ j → j < ld M 1 0 → (0 ≤ ld M 2 j ∧ ld M 2 j < ld M 1 0) ∧ ld M 2 (ld M 2 j) = j) (r1 : yR x1) (r2 : yR x2) (h04 : ld M 4 0 = 0) (h16 : ld M 16 0 = 0) (hTB : TBd (ld M 3) (ld M 1 0)) (k : ∀ (v : Int) (M' : yM), fr (wKi) M M' → (v = -1 ∧ ¬ ((1 ≤ x1 ∧ x1 < ld M 1 0) ∧ (1 ≤ x2 ∧ x2 < ld M 1 0) ∧ x1 ≠ x2) ∧ M' = M ∨ v = -2 ∧ ((1 ≤ x1 ∧ x1 < ld M 1 0) ∧ (1 ≤ x2 ∧ x2 < ld M 1 0) ∧ x1 ≠ x2) ∧ ¬ ((ld M 2 x1 = x1 ↔ ld M 2 x2 = x2) ∧ ld M 2 x1 ≠ x2) ∧ M' = M ∨ v = ld M' 1 0 ∧ ((1 ≤ x1 ∧ x1 < ld M 1 0) ∧ (1 ≤ x2 ∧ x2 < ld M 1 0) ∧ x1 ≠ x2) ∧ ((ld M 2 x1 = x1 ↔ ld M 2 x2 = x2) ∧ ld M 2 x1 ≠ x2) ∧ ld M' 1 0 = cn (ld M 2) x1 x2 (ld M 1 0).toNat ∧ FT (ld M 2) x1 x2 (ld M 1 0) (ld M' 2) ∧ T8 M' 2 ∧ ld M' 19 0 = ld M 19 0 ∧ NF M' ∧ ld M' 4 0 = 0 ∧ ld M' 16 0 = 0 ∧ TS M' ∧ HJA M' 1 ∧ FSP (ld M 3) (nm (ld M 2) x1 x2) (ld M 1 0) (cn (ld M 2) x1 x2 (ld M 1 0).toNat) (ld M 1 0) 0 (ld M' 3)) → (M' = M ∨ FGn M') → Q v M') : XCi (d + 5) 90 [.inr (.inr 0), .inl x1, .inl x2] M Q := by
  refine eX11_fuse ?_
  have fM : fr (wKi) M M := fr.rf
  have ts1 := tabSh1
  have ts7 := tabSh7
  have ts13 := tabSh13
  refine uX11_fuse_0 ?_
  refine c11_isOther  (by first | omega | assumption | with_reducible exact rng_ld _ _ _ | with_reducible exact rng_yand _ _ | with_reducible exact rng_yor _ _ | with_reducible exact rng_zcmp _ _ | with_reducible exact yand7 _ | with_reducible exact rng_toInt _ | with_reducible exact yarr23 (by omega) | with_reducible exact yarr57 (by omega) | with_reducible exact Or.inl rfl | with_reducible exact Or.inr rfl) (fun v1 p1a => ?_)
  refine uX11_fuse_5 (by first | omega | assumption | with_reducible exact rng_ld _ _ _ | with_reducible exact rng_yand _ _ | with_reducible exact rng_yor _ _ | with_reducible exact rng_zcmp _ _ | with_reducible exact yand7 _ | with_reducible exact rng_toInt _ | with_reducible exact yarr23 (by omega) | with_reducible exact yarr57 (by omega) | with_reducible exact Or.inl rfl | with_reducible exact Or.inr rfl) (fun hc => ?_) (fun hc => ?_)
  · skip
    refine uX11_fuse_21 ?_
    exact k _ _ fM (Or.inl ⟨rfl, by omega, rfl⟩) (Or.inl rfl)
  · skip
    refine uX11_fuse_8 ?_
    refine c11_isOther  (by first | omega | assumption | with_reducible exact rng_ld _ _ _ | with_reducible exact rng_yand _ _ | with_reducible exact rng_yor _ _ | with_reducible exact rng_zcmp _ _ | with_reducible exact yand7 _ | with_reducible exact rng_toInt _ | with_reducible exact yarr23 (by omega) | with_reducible exact yarr57 (by omega) | with_reducible exact Or.inl rfl | with_reducible exact Or.inr rfl) (fun v2 p2a => ?_)
    refine uX11_fuse_13 (by first | omega | assumption | with_reducible exact rng_ld _ _ _ | with_reducible exact rng_yand _ _ | with_reducible exact rng_yor _ _ | with_reducible exact rng_zcmp _ _ | with_reducible exact yand7 _ | with_reducible exact rng_toInt _ | with_reducible exact yarr23 (by omega) | with_reducible exact yarr57 (by omega) | with_reducible exact Or.inl rfl | with_reducible exact Or.inr rfl) (fun hc => ?_) (fun hc => ?_)
    · skip
      refine uX11_fuse_21 ?_
      exact k _ _ fM (Or.inl ⟨rfl, by omega, rfl⟩) (Or.inl rfl)
    · skip
      refine uX11_fuse_16 (by first | omega | assumption | with_reducible exact rng_ld _ _ _ | with_reducible exact rng_yand _ _ | with_reducible exact rng_yor _ _ | with_reducible exact rng_zcmp _ _ | with_reducible exact yand7 _ | with_reducible exact rng_toInt _ | with_reducible exact yarr23 (by omega) | with_reducible exact yarr57 (by omega) | with_reducible exact Or.inl rfl | with_reducible exact Or.inr rfl) (by first | omega | assumption | with_reducible exact rng_ld _ _ _ | with_reducible exact rng_yand _ _ | with_reducible exact rng_yor _ _ | with_reducible exact rng_zcmp _ _ | with_reducible exact yand7 _ | with_reducible exact rng_toInt _ | with_reducible exact yarr23 (by omega) | with_reducible exact yarr57 (by omega) | with_reducible exact Or.inl rfl | with_reducible exact Or.inr rfl) (fun hc => ?_) (fun hc => ?_)
      · skip
        refine uX11_fuse_23 ?_
        refine c9_canFuse  (by first | omega | assumption | with_reducible exact rng_ld _ _ _ | with_reducible exact rng_yand _ _ | with_reducible exact rng_yor _ _ | with_reducible exact rng_zcmp _ _ | with_reducible exact yand7 _ | with_reducible exact rng_toInt _ | with_reducible exact yarr23 (by omega) | with_reducible exact yarr57 (by omega) | with_reducible exact Or.inl rfl | with_reducible exact Or.inr rfl) (by first | omega | assumption | with_reducible exact rng_ld _ _ _ | with_reducible exact rng_yand _ _ | with_reducible exact rng_yor _ _ | with_reducible exact rng_zcmp _ _ | with_reducible exact yand7 _ | with_reducible exact rng_toInt _ | with_reducible exact yarr23 (by omega) | with_reducible exact yarr57 (by omega) | with_reducible exact Or.inl rfl | with_reducible exact Or.inr rfl) (by first | omega | assumption | with_reducible exact rng_ld _ _ _ | with_reducible exact rng_yand _ _ | with_reducible exact rng_yor _ _ | with_reducible exact rng_zcmp _ _ | with_reducible exact yand7 _ | with_reducible exact rng_toInt _ | with_reducible exact yarr23 (by omega) | with_reducible exact yarr57 (by omega) | with_reducible exact Or.inl rfl | with_reducible exact Or.inr rfl) (fun v3 p3a => ?_)
        refine uX11_fuse_32 (by first | omega | assumption | with_reducible exact rng_ld _ _ _ | with_reducible exact rng_yand _ _ | with_reducible exact rng_yor _ _ | with_reducible exact rng_zcmp _ _ | with_reducible exact yand7 _ | with_reducible exact rng_toInt _ | with_reducible exact yarr23 (by omega) | with_reducible exact yarr57 (by omega) | with_reducible exact Or.inl rfl | with_reducible exact Or.inr rfl) (fun hc => ?_) (fun hc => ?_)
        · skip
          have hFH : FH (ld M 2) (ld M 1 0) x1 x2 := ⟨hk, by omega, by omega, by omega, hI, by omega, by omega⟩
          refine uX11_fuse_38 ?_
          refine XC.deep (c9_copyFrom  (d := 0) (by first | assumption | exact tabSh1 | exact tabSh7 | exact tabSh13 | with_reducible exact yterm83 (by omega)) (by first | omega | assumption | with_reducible exact rng_ld _ _ _ | with_reducible exact rng_yand _ _ | with_reducible exact rng_yor _ _ | with_reducible exact rng_zcmp _ _ | with_reducible exact yand7 _ | with_reducible exact rng_toInt _ | with_reducible exact yarr23 (by omega) | with_reducible exact yarr57 (by omega) | with_reducible exact Or.inl rfl | with_reducible exact Or.inr rfl) (by first | omega | assumption | with_reducible exact rng_ld _ _ _ | with_reducible exact rng_yand _ _ | with_reducible exact rng_yor _ _ | with_reducible exact rng_zcmp _ _ | with_reducible exact yand7 _ | with_reducible exact rng_toInt _ | with_reducible exact yarr23 (by omega) | with_reducible exact yarr57 (by omega) | with_reducible exact Or.inl rfl | with_reducible exact Or.inr rfl) (by first | omega | assumption | with_reducible exact rng_ld _ _ _ | with_reducible exact rng_yand _ _ | with_reducible exact rng_yor _ _ | with_reducible exact rng_zcmp _ _ | with_reducible exact yand7 _ | with_reducible exact rng_toInt _ | with_reducible exact yarr23 (by omega) | with_reducible exact yarr57 (by omega) | with_reducible exact Or.inl rfl | with_reducible exact Or.inr rfl) h16 hT8 (fun M4 fM4 p4a p4b p4c p4d p4e p4f => ?_)) (by omega)
          replace fM := fM.tr fM4 in_Ki3
          have r38 : ∀ j, 0 ≤ j → j < 64 → ld M4 15 j = ld M 3 j := p4f
          have s38 := p4a
          have e38 : ∀ j, 0 ≤ j → j < 8 → ld M4 14 j = ld M 2 j := p4b
          have c38 : ld M4 19 0 = ld M 19 0 := fM4.ld (by omega)
          have u38 : T8 M4 2 := hT8.fr fM4 (fun _ _ _ => by omega)
          have y16 : ld M4 16 0 = 0 := p4c
          have y4 : ld M4 4 0 = 0 := by rw [fM4.ld (by omega)]; exact h04
          refine uX11_fuse_49 ?_
          refine XC.deep (c9_becomeFused  (d := 0) (by rw [s38]; exact hFH.cg e38) u38 y4 (by rw [s38]; exact hTB.cg (fun a b a1 a2 b1 b2 => r38 _ (by omega) (by omega))) (fun M5 fM5 p5a p5b p5c p5d p5e p5f p5g => ?_)) (by omega)
          replace fM := fM.tr fM5 in_Ki1
          have y9 : HJA M5 1 := p5f
          have g49 : FSP (ld M 3) (nm (ld M 2) x1 x2) (ld M 1 0) (cn (ld M 2) x1 x2 (ld M 1 0).toNat) (ld M 1 0) 0 (ld M5 3) := by
            have q := p5g
            rw [s38, cn_cg (e38 x1 (by omega) (by omega)) (e38 x2 (by omega) (by omega))] at q
            exact q.cg (fun a b a1 a2 b1 b2 => (r38 _ (by omega) (by omega)).symm) (fun c _ _ => (nm_cg (e38 x1 (by omega) (by omega)) (e38 x2 (by omega) (by omega)) c).symm)
          have s49 := p5a
          have f49 := p5b
          have u49 := p5c
          have hFH2 : FH (ld M4 14) (ld M4 13 0) x1 x2 := by rw [s38]; exact hFH.cg e38
          have c49 : ld M5 19 0 = ld M 19 0 := by rw [fM5.ld (by dsimp only [wTab]; omega)]; exact c38
          have b49 := cn_8 hFH2
          have x16 : ld M5 16 0 = 0 := by rw [fM5.ld (by dsimp only [wTab]; omega)]; exact y16
          have x4 : ld M5 4 0 = 0 := p5d
          have xT : TS M5 := p5e
          refine uX11_fuse_62 ?_
          refine XC.deep (c11_startAnew  (d := 0) (by first | omega | assumption | with_reducible exact rng_ld _ _ _ | with_reducible exact rng_yand _ _ | with_reducible exact rng_yor _ _ | with_reducible exact rng_zcmp _ _ | with_reducible exact yand7 _ | with_reducible exact rng_toInt _ | with_reducible exact yarr23 (by omega) | with_reducible exact yarr57 (by omega) | with_reducible exact Or.inl rfl | with_reducible exact Or.inr rfl) (by first | omega | assumption | with_reducible exact rng_ld _ _ _ | with_reducible exact rng_yand _ _ | with_reducible exact rng_yor _ _ | with_reducible exact rng_zcmp _ _ | with_reducible exact yand7 _ | with_reducible exact rng_toInt _ | with_reducible exact yarr23 (by omega) | with_reducible exact yarr57 (by omega) | with_reducible exact Or.inl rfl | with_reducible exact Or.inr rfl) (fun M6 fM6 p6a p6b p6c => ?_)) (by omega)
          replace fM := fM.tr fM6 in_Ki2
          have zF := p6c
          have z9 : HJA M6 1 := y9.fr fM6 (by (first | (dsimp only [wNew]; omega) | omega)) (fun _ => by (first | (dsimp only [wNew]; omega) | omega)) (fun _ => by (first | (dsimp only [wNew]; omega) | omega))
          have z10 : FSP (ld M 3) (nm (ld M 2) x1 x2) (ld M 1 0) (cn (ld M 2) x1 x2 (ld M 1 0).toNat) (ld M 1 0) 0 (ld M6 3) := by
            rw [show ld M6 3 = ld M5 3 from funext fun j => fM6.ld (by (first | (dsimp only [wNew]; omega) | omega))]
            exact g49
          have z1 : ld M6 1 0 = cn (ld M 2) x1 x2 (ld M 1 0).toNat := by rw [fM6.ld (by omega), s49, s38, cn_cg (e38 x1 (by omega) (by omega)) (e38 x2 (by omega) (by omega))]
          have z2 : FT (ld M 2) x1 x2 (ld M 1 0) (ld M6 2) := by rw [s38] at f49; exact FT.cg hFH e38 (fun j => fM6.ld (by omega)) f49
          have z3 : T8 M6 2 := u49.fr fM6 (fun _ _ _ => by omega)
          have z4 : ld M6 19 0 = ld M 19 0 := by omega
          have z5 := p6b
          have z6 : ld M6 4 0 = 0 := by rw [fM6.ld (by (first | (dsimp only [wNew]; omega) | omega))]; exact x4
          have z7 : ld M6 16 0 = 0 := by rw [fM6.ld (by (first | (dsimp only [wNew]; omega) | omega))]; exact x16
          have z8 : TS M6 := xT.fr fM6 (by (first | (dsimp only [wNew]; omega) | omega)) (fun _ => by (first | (dsimp only [wNew]; omega) | omega)) (fun _ => by (first | (dsimp only [wNew]; omega) | omega))
          refine uX11_fuse_66 ?_
          exact k _ _ fM (Or.inr (Or.inr ⟨rfl, by omega, by omega, z1, z2, z3, z4, z5, z6, z7, z8, z9, z10⟩)) (Or.inr zF)
        · skip
          refine uX11_fuse_35 ?_
          exact k _ _ fM (Or.inr (Or.inl ⟨rfl, by omega, by omega, rfl⟩)) (Or.inl rfl)
      · skip
        refine uX11_fuse_21 ?_
        exact k _ _ fM (Or.inl ⟨rfl, by omega, rfl⟩) (Or.inl rfl)
