/-! PAIRS OF CALLS THAT CHANGE THE TABLES -/
theorem mt_cg {f g : Int → Int} {a b j : Int} (ha : f a = g a) (hb : f b = g b) (hj : f j = g j) : mt f a b j = mt g a b j := by
  unfold mt
  rw [ha, hb, hj]
theorem FT.iv {f t : Int → Int} {a b k : Int} (hF : FH f k a b) (h : FT f a b k t) : IV t (cn f a b k.toNat) := fun j h1 h2 => FT.in8 hF h ⟨h1, h2⟩
theorem TW.iv {f g t : Int → Int} {k m : Int} (hk : 1 ≤ k) (hf : IV f k) (hg : IV g m) (h8 : k * m ≤ 8) (hm : 1 ≤ m) (h : TW f g k m 0 t) : IV t (k * m) := fun j h1 h2 => by
  have hb8 : k ≤ 8 := by
    have := Int.mul_le_mul_of_nonneg_left hm (show 0 ≤ k by omega)
    omega
  have hs := shx (x := j) (m := k) (n := m) ⟨h1, h2⟩ ⟨hk, hb8⟩ h8
  generalize yrem j k = c at hs
  generalize ydiv j k = r at hs
  have e1 := h c r hs.1.1 hs.1.2 hs.2.1.1 (Or.inl hs.2.1.2)
  have qc := hf c hs.1.1 hs.1.2
  have qr := hg r hs.2.1.1 hs.2.1.2
  have e2 := h (f c) (g r) qc.1.1 qc.1.2 qr.1.1 (Or.inl qr.1.2)
  have hb := ixb (k := k) (m := m) qc.1 qr.1 h8
  rw [hs.2.2, e1, e2, qc.2, qr.2]
  omega
theorem TW.eq {f g f' g' t t' : Int → Int} {k m : Int} (hk : 1 ≤ k ∧ k ≤ 8) (h8 : k * m ≤ 8) (h : TW f g k m 0 t) (h' : TW f' g' k m 0 t') (e1 : ∀ j, 0 ≤ j → j < k → f j = f' j) (e2 : ∀ j, 0 ≤ j → j < m → g j = g' j) {j : Int} (hj : 0 ≤ j ∧ j < k * m) : t j = t' j := by
  have hs := shx (x := j) (m := k) (n := m) hj hk h8
  generalize yrem j k = c at hs
  generalize ydiv j k = r at hs
  rw [hs.2.2, h c r hs.1.1 hs.1.2 hs.2.1.1 (Or.inl hs.2.1.2), h' c r hs.1.1 hs.1.2 hs.2.1.1 (Or.inl hs.2.1.2), e1 c hs.1.1 hs.1.2, e2 r hs.2.1.1 hs.2.1.2]
theorem RLl.n {W W' : Nat → Int → Prop} {M M1 M2 : yM} (h : RLl M) (f1 : fr W M M1) (w1 : ∀ o j, W o j → o < 92 ∧ ¬ sS o j) (f2 : fr W' M1 M2) (w2 : ∀ o j, W' o j → 92 ≤ o ∧ ¬ mS o j) (b1 : ld M1 1 0 = ld M2 92 2) (b2 : ld M1 19 0 = ld M2 92 11) (b3 : ∀ j, 0 ≤ j → j < ld M1 1 0 → ld M1 2 j = ld M2 93 j) : RLl M2 := by
  have c1 : ld M2 1 0 = ld M1 1 0 := f2.ld (fun q => by have := w2 _ _ q; omega)
  have c2 : ∀ j, ld M2 2 j = ld M1 2 j := fun j => f2.ld (fun q => by have := w2 _ _ q; omega)
  have c3 : ld M2 19 0 = ld M1 19 0 := f2.ld (fun q => by have := w2 _ _ q; omega)
  have c4 : ld M2 7 0 = ld M 7 0 := by rw [f2.ld (fun q => by have := w2 _ _ q; omega), f1.ld (fun q => (w1 _ _ q).2 (Or.inl ⟨rfl, rfl⟩))]
  have c5 : ∀ j, ld M2 8 j = ld M 8 j := fun j => by rw [f2.ld (fun q => by have := w2 _ _ q; omega), f1.ld (fun q => (w1 _ _ q).2 (Or.inr rfl))]
  have g4 : ld M2 92 5 = ld M 92 5 := by rw [f2.ld (fun q => (w2 _ _ q).2 (Or.inl ⟨rfl, rfl⟩)), f1.ld (fun q => by have := w1 _ _ q; omega)]
  have g5 : ∀ j, ld M2 95 j = ld M 95 j := fun j => by rw [f2.ld (fun q => (w2 _ _ q).2 (Or.inr rfl)), f1.ld (fun q => by have := w1 _ _ q; omega)]
  obtain ⟨a1, a2, a3, a4, a5⟩ := h
  exact ⟨by omega, by omega, by omega, fun j q1 q2 => by rw [c2]; exact b3 j q1 (by omega), fun j q1 q2 => by rw [c5, g5]; exact a5 j q1 (by omega)⟩
theorem nm_0 {f : Int → Int} {a b : Int} (ha : 1 ≤ a) (hb : 1 ≤ b) (fa : f a ≠ 0 ∨ f b ≠ 0) (h : 0 ≤ f a ∧ 0 ≤ f b) : nm f a b 0 = 0 := by
  have m1 := mx_mn a b
  have m2 := mx_mn (f a) (f b)
  have r := rp_or f a b 0
  unfold nm
  rw [show rp f a b 0 = 0 by omega]
  rfl
theorem p_kinds {M : yM} {a : Int} (H : INV4 M) (ha : yR a) : XCi 40 84 [.inr (.inr 0), .inl a] M (fun v M1 => XCi 40 130 [.inr (.inr 92), .inl a] M1 (fun w M2 => v = w ∧ INV4 M2)) := by
  obtain ⟨⟨⟨h, g⟩, ca⟩, fk, un⟩ := H
  have hRL := h.2.2.1
  have hR1 := hRL.1
  have hR2 := hRL.2.1
  have hR3 := hRL.2.2.1
  have hR4 := hRL.2.2.2.1
  have hR5 := hRL.2.2.2.2
  have hZ := h.1.2.2.2.2.2.2.2.2.2.1
  have hTS := h.1.2.2.2.2.2.2.2.2.2.2
  have hK := h.1.1
  have hN := h.1.2.2.2.1
  refine XC.deep (c11_kinds (d := 0) h.1.1 h.1.2.2.2.1 ha hZ.1 (fun v M1 f1 q qF => ?_)) (by omega)
  have ca1 : CA M1 := CA.of ca qF
  have fk1 : FK M1 := FK.of fk qF
  rcases q with ⟨e1, n1, e0⟩ | ⟨e1, n1, z1, z2, z3, z4, z5, z6, z9, z10⟩
  · subst e0
    refine XC.deep (c12_kinds (d := 0) h.2.1.1.1 ha (fun w M2 f2 q => ?_)) (by omega)
    rcases q with ⟨e2, n2, t⟩ | ⟨e2, n2, _⟩
    · exact ⟨by omega, ⟨⟨h.m0 t, g.m0 t⟩, ca1.m0 t⟩, fk1.m0 t, un.m0 t⟩
    · omega
  · skip
    have m1 : MO M1 := h.2.1.c f1 (by intro o j hw; first | (dsimp only [wFq, wRsn, wOq, wNar, wFil, wCan, wLst, wCar, wDr, wOb, wTl, wMq, wRx, wCr, wTab, wNew, wKi, wKn, wTn, wPt, sZ, sK, sS, sX, mK, mS] at *; omega) | (dsimp only at *; omega) | omega)
    have g2 : ld M1 92 2 = ld M 92 2 := f1.ld (by (first | (dsimp only [wFq, wRsn, wOq, wNar, wFil, wCan, wLst, wCar, wDr, wOb, wTl, wMq, wRx, wCr, wTab, wNew, wKi, wKn, wTn, wPt, sZ, sK, sS, sX, mK, mS]; omega) | omega))
    have g11 : ld M1 92 11 = ld M 92 11 := f1.ld (by (first | (dsimp only [wFq, wRsn, wOq, wNar, wFil, wCan, wLst, wCar, wDr, wOb, wTl, wMq, wRx, wCr, wTab, wNew, wKi, wKn, wTn, wPt, sZ, sK, sS, sX, mK, mS]; omega) | omega))
    have g5 : ld M1 92 5 = ld M 92 5 := f1.ld (by (first | (dsimp only [wFq, wRsn, wOq, wNar, wFil, wCan, wLst, wCar, wDr, wOb, wTl, wMq, wRx, wCr, wTab, wNew, wKi, wKn, wTn, wPt, sZ, sK, sS, sX, mK, mS]; omega) | omega))
    have g93 : ∀ j, ld M1 93 j = ld M 93 j := fun j => f1.ld (by (first | (dsimp only [wFq, wRsn, wOq, wNar, wFil, wCan, wLst, wCar, wDr, wOb, wTl, wMq, wRx, wCr, wTab, wNew, wKi, wKn, wTn, wPt, sZ, sK, sS, sX, mK, mS]; omega) | omega))
    have g95 : ∀ j, ld M1 95 j = ld M 95 j := fun j => f1.ld (by (first | (dsimp only [wFq, wRsn, wOq, wNar, wFil, wCan, wLst, wCar, wDr, wOb, wTl, wMq, wRx, wCr, wTab, wNew, wKi, wKn, wTn, wPt, sZ, sK, sS, sX, mK, mS]; omega) | omega))
    refine XC.deep (c12_kinds (d := 0) m1.1.1 ha (fun w M2 f2 q => ?_)) (by omega)
    rcases q with ⟨e2, n2, t⟩ | ⟨e2, n2, y1, y2, y3, y4, yO⟩
    · omega
    · skip
      have c1 : CS M1 := h.1.n f1 (by intro o j hw; first | (dsimp only [wFq, wRsn, wOq, wNar, wFil, wCan, wLst, wCar, wDr, wOb, wTl, wMq, wRx, wCr, wTab, wNew, wKi, wKn, wTn, wPt, sZ, sK, sS, sX, mK, mS] at *; omega) | (dsimp only at *; omega) | omega) (by omega) (fun j q1 q2 => by rw [z2 j q1 q2]; omega) (fun j q1 q2 => by have e := z2 j q1 (by omega); rw [e, e]; omega) (by omega) ⟨z5, by rw [f1.ld (by (first | (dsimp only [wFq, wRsn, wOq, wNar, wFil, wCan, wLst, wCar, wDr, wOb, wTl, wMq, wRx, wCr, wTab, wNew, wKi, wKn, wTn, wPt, sZ, sK, sS, sX, mK, mS]; omega) | omega))]; exact hZ.2.1, by rw [f1.ld (by (first | (dsimp only [wFq, wRsn, wOq, wNar, wFil, wCan, wLst, wCar, wDr, wOb, wTl, wMq, wRx, wCr, wTab, wNew, wKi, wKn, wTn, wPt, sZ, sK, sS, sX, mK, mS]; omega) | omega))]; exact hZ.2.2⟩ z6
      have k11 : ld M2 92 11 = ld M1 92 11 := f2.ld (by (first | (dsimp only [wFq, wRsn, wOq, wNar, wFil, wCan, wLst, wCar, wDr, wOb, wTl, wMq, wRx, wCr, wTab, wNew, wKi, wKn, wTn, wPt, sZ, sK, sS, sX, mK, mS]; omega) | omega))
      have vw : v = w := by omega
      have c2 : CS M2 := c1.m f2 (by intro o j hw; first | (dsimp only [wFq, wRsn, wOq, wNar, wFil, wCan, wLst, wCar, wDr, wOb, wTl, wMq, wRx, wCr, wTab, wNew, wKi, wKn, wTn, wPt, sZ, sK, sS, sX, mK, mS] at *; omega) | (dsimp only at *; omega) | omega)
      have o2 : MO M2 := ⟨m1.1.n f2 (by intro o j hw; first | (dsimp only [wFq, wRsn, wOq, wNar, wFil, wCan, wLst, wCar, wDr, wOb, wTl, wMq, wRx, wCr, wTab, wNew, wKi, wKn, wTn, wPt, sZ, sK, sS, sX, mK, mS] at *; omega) | (dsimp only at *; omega) | omega) (by omega) (fun j q1 q2 => by rw [y2 j q1 q2]; omega) (fun j q1 q2 => by have e := y2 j q1 (by omega); rw [e, e]; omega) (by omega), MB.of y3 (by omega), y4, m1.2.2.2.1.q f2 (by (first | (dsimp only [wFq, wRsn, wOq, wNar, wFil, wCan, wLst, wCar, wDr, wOb, wTl, wMq, wRx, wCr, wTab, wNew, wKi, wKn, wTn, wPt, sZ, sK, sS, sX, mK, mS]; omega) | omega)), m1.2.2.2.2.fr f2 (fun j => by (first | (dsimp only [wFq, wRsn, wOq, wNar, wFil, wCan, wLst, wCar, wDr, wOb, wTl, wMq, wRx, wCr, wTab, wNew, wKi, wKn, wTn, wPt, sZ, sK, sS, sX, mK, mS]; omega) | omega))⟩
      have r2 : RLl M2 := hRL.n f1 (by intro o j hw; first | (dsimp only [wFq, wRsn, wOq, wNar, wFil, wCan, wLst, wCar, wDr, wOb, wTl, wMq, wRx, wCr, wTab, wNew, wKi, wKn, wTn, wPt, sZ, sK, sS, sX, mK, mS] at *; omega) | (dsimp only at *; omega) | omega) f2 (by intro o j hw; first | (dsimp only [wFq, wRsn, wOq, wNar, wFil, wCan, wLst, wCar, wDr, wOb, wTl, wMq, wRx, wCr, wTab, wNew, wKi, wKn, wTn, wPt, sZ, sK, sS, sX, mK, mS] at *; omega) | (dsimp only at *; omega) | omega) (by omega) (by omega) (fun j q1 q2 => by rw [z2 j q1 (by omega), y2 j q1 (by omega)])
      have n2 : NF M2 := z4.fr f2 (by (first | (dsimp only [wFq, wRsn, wOq, wNar, wFil, wCan, wLst, wCar, wDr, wOb, wTl, wMq, wRx, wCr, wTab, wNew, wKi, wKn, wTn, wPt, sZ, sK, sS, sX, mK, mS]; omega) | omega)) (fun j => by (first | (dsimp only [wFq, wRsn, wOq, wNar, wFil, wCan, wLst, wCar, wDr, wOb, wTl, wMq, wRx, wCr, wTab, wNew, wKi, wKn, wTn, wPt, sZ, sK, sS, sX, mK, mS]; omega) | omega))
      have sx2 : TXs M2 := (g.2.1.fr f1 (by intro o j hw; first | (dsimp only [wFq, wRsn, wOq, wNar, wFil, wCan, wLst, wCar, wDr, wOb, wTl, wMq, wRx, wCr, wTab, wNew, wKi, wKn, wTn, wPt, sZ, sK, sS, sX, mK, mS, sT, sU] at *; omega) | (dsimp only [sT, sU] at *; omega) | omega)).fr f2 (by intro o j hw; first | (dsimp only [wFq, wRsn, wOq, wNar, wFil, wCan, wLst, wCar, wDr, wOb, wTl, wMq, wRx, wCr, wTab, wNew, wKi, wKn, wTn, wPt, sZ, sK, sS, sX, mK, mS, sT, sU] at *; omega) | (dsimp only [sT, sU] at *; omega) | omega)
      have sq2 : SQ M2 := (g.2.2.2.fr f1 (by (first | (dsimp only [wFq, wRsn, wOq, wNar, wFil, wCan, wLst, wCar, wDr, wOb, wTl, wMq, wRx, wCr, wTab, wNew, wKi, wKn, wTn, wPt, sZ, sK, sS, sX, mK, mS]; omega) | omega)) (fun j => by (first | (dsimp only [wFq, wRsn, wOq, wNar, wFil, wCan, wLst, wCar, wDr, wOb, wTl, wMq, wRx, wCr, wTab, wNew, wKi, wKn, wTn, wPt, sZ, sK, sS, sX, mK, mS]; omega) | omega)) (fun j => by (first | (dsimp only [wFq, wRsn, wOq, wNar, wFil, wCan, wLst, wCar, wDr, wOb, wTl, wMq, wRx, wCr, wTab, wNew, wKi, wKn, wTn, wPt, sZ, sK, sS, sX, mK, mS]; omega) | omega))).fr f2 (by (first | (dsimp only [wFq, wRsn, wOq, wNar, wFil, wCan, wLst, wCar, wDr, wOb, wTl, wMq, wRx, wCr, wTab, wNew, wKi, wKn, wTn, wPt, sZ, sK, sS, sX, mK, mS]; omega) | omega)) (fun j => by (first | (dsimp only [wFq, wRsn, wOq, wNar, wFil, wCan, wLst, wCar, wDr, wOb, wTl, wMq, wRx, wCr, wTab, wNew, wKi, wKn, wTn, wPt, sZ, sK, sS, sX, mK, mS]; omega) | omega)) (fun j => by (first | (dsimp only [wFq, wRsn, wOq, wNar, wFil, wCan, wLst, wCar, wDr, wOb, wTl, wMq, wRx, wCr, wTab, wNew, wKi, wKn, wTn, wPt, sZ, sK, sS, sX, mK, mS]; omega) | omega))
      have hz1 : HZ M1 := g.1.2.2.2.2.fr f1 (fun j q => by first | (dsimp only [wFq, wRsn, wOq, wNar, wFil, wCan, wLst, wCar, wDr, wOb, wTl, wMq, wRx, wCr, wTab, wNew, wKi, wKn, wTn, wPt, sZ, sK, sS, sX, mK, mS] at q; omega) | omega)
      have tc1 : TXc M1 := TXc.opn c1.1 c1.2.2.1 (z2 0 (by omega) (by omega)) z10 z9 hz1
      have tq2 : TQ M2 := TQ.opn (z10.fr f2 (by (first | (dsimp only [wFq, wRsn, wOq, wNar, wFil, wCan, wLst, wCar, wDr, wOb, wTl, wMq, wRx, wCr, wTab, wNew, wKi, wKn, wTn, wPt, sZ, sK, sS, sX, mK, mS]; omega) | omega)) (fun j => by (first | (dsimp only [wFq, wRsn, wOq, wNar, wFil, wCan, wLst, wCar, wDr, wOb, wTl, wMq, wRx, wCr, wTab, wNew, wKi, wKn, wTn, wPt, sZ, sK, sS, sX, mK, mS]; omega) | omega)) (fun j => by (first | (dsimp only [wFq, wRsn, wOq, wNar, wFil, wCan, wLst, wCar, wDr, wOb, wTl, wMq, wRx, wCr, wTab, wNew, wKi, wKn, wTn, wPt, sZ, sK, sS, sX, mK, mS]; omega) | omega))) yO r2.1 r2.2.2.2.1
      have un1 : UN M1 := un_n un f1 (by (first | (dsimp only [wFq, wRsn, wOq, wNar, wFil, wCan, wLst, wCar, wDr, wOb, wTl, wMq, wRx, wCr, wTab, wNew, wKi, wKn, wTn, wPt, sZ, sK, sS, sX, mK, mS]; omega) | omega)) (fun j => by (first | (dsimp only [wFq, wRsn, wOq, wNar, wFil, wCan, wLst, wCar, wDr, wOb, wTl, wMq, wRx, wCr, wTab, wNew, wKi, wKn, wTn, wPt, sZ, sK, sS, sX, mK, mS]; omega) | omega)) (U1.opn c1.1.2 z10)
      exact ⟨vw, ⟨⟨⟨c2, o2, r2, NQ.of n2 y3 r2.1, NL.of n2 c2.1 c2.2.2.1⟩, tc1.fr f2 (by intro o j hw; first | (dsimp only [wFq, wRsn, wOq, wNar, wFil, wCan, wLst, wCar, wDr, wOb, wTl, wMq, wRx, wCr, wTab, wNew, wKi, wKn, wTn, wPt, sZ, sK, sS, sX, mK, mS, sT, sU] at *; omega) | (dsimp only [sT, sU] at *; omega) | omega), sx2, tq2, sq2⟩, ca1.fr f2 (by intro o j hw; first | (dsimp only [wFq, wRsn, wOq, wNar, wFil, wCan, wLst, wCar, wDr, wOb, wTl, wMq, wRx, wCr, wTab, wNew, wKi, wKn, wTn, wPt, sZ, sK, sS, sX, mK, mS, sC] at *; omega) | (dsimp only [sC] at *; omega) | omega)⟩, fk1.fr f2 (by intro o j hw; first | (dsimp only [wFq, wRsn, wOq, wNar, wFil, wCan, wLst, wCar, wDr, wOb, wTl, wMq, wRx, wCr, wTab, wNew, wKi, wKn, wTn, wPt, sZ, sK, sS, sX, mK, mS, sF] at *; omega) | (dsimp only [sF] at *; omega) | omega), un1.fr f2 (by intro o j hw; first | (dsimp only [wFq, wRsn, wOq, wNar, wFil, wCan, wLst, wCar, wDr, wOb, wTl, wMq, wRx, wCr, wTab, wNew, wKi, wKn, wTn, wPt, sZ, sK, sS, sX, mK, mS, sN] at *; omega) | (dsimp only [sN] at *; omega) | omega)⟩
theorem p_turn {M : yM} {a b : Int} (H : INV4 M) (ha : yR a) (hb : yR b) : XCi 40 85 [.inr (.inr 0), .inl a, .inl b] M (fun v M1 => XCi 40 131 [.inr (.inr 92), .inl a, .inl b] M1 (fun w M2 => v = w ∧ INV4 M2)) := by
  obtain ⟨⟨⟨h, g⟩, ca⟩, fk, un⟩ := H
  have hRL := h.2.2.1
  have hR1 := hRL.1
  have hR2 := hRL.2.1
  have hR3 := hRL.2.2.1
  have hR4 := hRL.2.2.2.1
  have hR5 := hRL.2.2.2.2
  have hZ := h.1.2.2.2.2.2.2.2.2.2.1
  have hTS := h.1.2.2.2.2.2.2.2.2.2.2
  have hK := h.1.1
  have hN := h.1.2.2.2.1
  refine XC.deep (c11_turn (d := 0) h.1.1 h.1.2.2.2.1 h.1.2.1 ha hb hZ.1 (fun v M1 f1 q qF => ?_)) (by omega)
  have ca1 : CA M1 := CA.of ca qF
  have fk1 : FK M1 := FK.of fk qF
  have h93o : ld M 93 0 = 0 := by rw [← hR4 0 (by omega) (by omega)]; exact g.1.1
  rcases q with ⟨e1, n1, e0⟩ | ⟨e1, n1, z1, z2, z3, z4, z5, z6, z9, z10⟩
  · subst e0
    have h93 := h93o
    refine XC.deep (c12_turn (d := 0) h.2.1.1.1 h.2.1.1.2.1 h.2.1.1.2.2.1 ha hb h93 (fun w M2 f2 q => ?_)) (by omega)
    rcases q with ⟨e2, n2, t⟩ | ⟨e2, n2, _⟩
    · exact ⟨by omega, ⟨⟨h.m0 t, g.m0 t⟩, ca1.m0 t⟩, fk1.m0 t, un.m0 t⟩
    · omega
  · skip
    have m1 : MO M1 := h.2.1.c f1 (by intro o j hw; first | (dsimp only [wFq, wRsn, wOq, wNar, wFil, wCan, wLst, wCar, wDr, wOb, wTl, wMq, wRx, wCr, wTab, wNew, wKi, wKn, wTn, wPt, sZ, sK, sS, sX, mK, mS] at *; omega) | (dsimp only at *; omega) | omega)
    have g2 : ld M1 92 2 = ld M 92 2 := f1.ld (by (first | (dsimp only [wFq, wRsn, wOq, wNar, wFil, wCan, wLst, wCar, wDr, wOb, wTl, wMq, wRx, wCr, wTab, wNew, wKi, wKn, wTn, wPt, sZ, sK, sS, sX, mK, mS]; omega) | omega))
    have g11 : ld M1 92 11 = ld M 92 11 := f1.ld (by (first | (dsimp only [wFq, wRsn, wOq, wNar, wFil, wCan, wLst, wCar, wDr, wOb, wTl, wMq, wRx, wCr, wTab, wNew, wKi, wKn, wTn, wPt, sZ, sK, sS, sX, mK, mS]; omega) | omega))
    have g5 : ld M1 92 5 = ld M 92 5 := f1.ld (by (first | (dsimp only [wFq, wRsn, wOq, wNar, wFil, wCan, wLst, wCar, wDr, wOb, wTl, wMq, wRx, wCr, wTab, wNew, wKi, wKn, wTn, wPt, sZ, sK, sS, sX, mK, mS]; omega) | omega))
    have g93 : ∀ j, ld M1 93 j = ld M 93 j := fun j => f1.ld (by (first | (dsimp only [wFq, wRsn, wOq, wNar, wFil, wCan, wLst, wCar, wDr, wOb, wTl, wMq, wRx, wCr, wTab, wNew, wKi, wKn, wTn, wPt, sZ, sK, sS, sX, mK, mS]; omega) | omega))
    have g95 : ∀ j, ld M1 95 j = ld M 95 j := fun j => f1.ld (by (first | (dsimp only [wFq, wRsn, wOq, wNar, wFil, wCan, wLst, wCar, wDr, wOb, wTl, wMq, wRx, wCr, wTab, wNew, wKi, wKn, wTn, wPt, sZ, sK, sS, sX, mK, mS]; omega) | omega))
    have h93 : ld M1 93 0 = 0 := by rw [g93, ← hR4 0 (by omega) (by omega)]; exact g.1.1
    refine XC.deep (c12_turn (d := 0) m1.1.1 m1.1.2.1 m1.1.2.2.1 ha hb h93 (fun w M2 f2 q => ?_)) (by omega)
    rcases q with ⟨e2, n2, t⟩ | ⟨e2, n2, y1, y2, y3, yO⟩
    · omega
    · skip
      have c1 : CS M1 := h.1.n f1 (by intro o j hw; first | (dsimp only [wFq, wRsn, wOq, wNar, wFil, wCan, wLst, wCar, wDr, wOb, wTl, wMq, wRx, wCr, wTab, wNew, wKi, wKn, wTn, wPt, sZ, sK, sS, sX, mK, mS] at *; omega) | (dsimp only at *; omega) | omega) (by omega) (fun j q1 q2 => by rw [z2]; exact mt_8 (by omega) (by omega) ⟨q1, q2⟩ (h.1.2.1 j q1 q2)) (by rw [z1]; exact (iv_mt h.1.2.2.1 (a := a) (b := b) (by omega) (by omega)).cg (fun j _ _ => z2 j)) (by omega) ⟨z5, by rw [f1.ld (by (first | (dsimp only [wFq, wRsn, wOq, wNar, wFil, wCan, wLst, wCar, wDr, wOb, wTl, wMq, wRx, wCr, wTab, wNew, wKi, wKn, wTn, wPt, sZ, sK, sS, sX, mK, mS]; omega) | omega))]; exact hZ.2.1, by rw [f1.ld (by (first | (dsimp only [wFq, wRsn, wOq, wNar, wFil, wCan, wLst, wCar, wDr, wOb, wTl, wMq, wRx, wCr, wTab, wNew, wKi, wKn, wTn, wPt, sZ, sK, sS, sX, mK, mS]; omega) | omega))]; exact hZ.2.2⟩ z6
      have k11 : ld M2 92 11 = ld M1 92 11 := f2.ld (by (first | (dsimp only [wFq, wRsn, wOq, wNar, wFil, wCan, wLst, wCar, wDr, wOb, wTl, wMq, wRx, wCr, wTab, wNew, wKi, wKn, wTn, wPt, sZ, sK, sS, sX, mK, mS]; omega) | omega))
      have vw : v = w := by omega
      have c2 : CS M2 := c1.m f2 (by intro o j hw; first | (dsimp only [wFq, wRsn, wOq, wNar, wFil, wCan, wLst, wCar, wDr, wOb, wTl, wMq, wRx, wCr, wTab, wNew, wKi, wKn, wTn, wPt, sZ, sK, sS, sX, mK, mS] at *; omega) | (dsimp only at *; omega) | omega)
      have o2 : MO M2 := ⟨m1.1.n f2 (by intro o j hw; first | (dsimp only [wFq, wRsn, wOq, wNar, wFil, wCan, wLst, wCar, wDr, wOb, wTl, wMq, wRx, wCr, wTab, wNew, wKi, wKn, wTn, wPt, sZ, sK, sS, sX, mK, mS] at *; omega) | (dsimp only at *; omega) | omega) (by omega) (fun j q1 q2 => by rw [y2]; exact mt_8 (by omega) (by omega) ⟨q1, q2⟩ (m1.1.2.1 j q1 q2)) (by rw [y1]; exact (iv_mt m1.1.2.2.1 (a := a) (b := b) (by omega) (by omega)).cg (fun j _ _ => y2 j)) (by omega), MB.of y3 (by omega), m1.2.2.1.q f2 (fun j => by (first | (dsimp only [wFq, wRsn, wOq, wNar, wFil, wCan, wLst, wCar, wDr, wOb, wTl, wMq, wRx, wCr, wTab, wNew, wKi, wKn, wTn, wPt, sZ, sK, sS, sX, mK, mS]; omega) | omega)), m1.2.2.2.1.q f2 (by (first | (dsimp only [wFq, wRsn, wOq, wNar, wFil, wCan, wLst, wCar, wDr, wOb, wTl, wMq, wRx, wCr, wTab, wNew, wKi, wKn, wTn, wPt, sZ, sK, sS, sX, mK, mS]; omega) | omega)), m1.2.2.2.2.fr f2 (fun j => by (first | (dsimp only [wFq, wRsn, wOq, wNar, wFil, wCan, wLst, wCar, wDr, wOb, wTl, wMq, wRx, wCr, wTab, wNew, wKi, wKn, wTn, wPt, sZ, sK, sS, sX, mK, mS]; omega) | omega))⟩
      have r2 : RLl M2 := hRL.n f1 (by intro o j hw; first | (dsimp only [wFq, wRsn, wOq, wNar, wFil, wCan, wLst, wCar, wDr, wOb, wTl, wMq, wRx, wCr, wTab, wNew, wKi, wKn, wTn, wPt, sZ, sK, sS, sX, mK, mS] at *; omega) | (dsimp only at *; omega) | omega) f2 (by intro o j hw; first | (dsimp only [wFq, wRsn, wOq, wNar, wFil, wCan, wLst, wCar, wDr, wOb, wTl, wMq, wRx, wCr, wTab, wNew, wKi, wKn, wTn, wPt, sZ, sK, sS, sX, mK, mS] at *; omega) | (dsimp only at *; omega) | omega) (by omega) (by omega) (fun j q1 q2 => by rw [z2, y2]; exact mt_cg (by rw [g93]; exact hR4 a (by omega) (by omega)) (by rw [g93]; exact hR4 b (by omega) (by omega)) (by rw [g93]; exact hR4 j q1 (by omega)))
      have n2 : NF M2 := z4.fr f2 (by (first | (dsimp only [wFq, wRsn, wOq, wNar, wFil, wCan, wLst, wCar, wDr, wOb, wTl, wMq, wRx, wCr, wTab, wNew, wKi, wKn, wTn, wPt, sZ, sK, sS, sX, mK, mS]; omega) | omega)) (fun j => by (first | (dsimp only [wFq, wRsn, wOq, wNar, wFil, wCan, wLst, wCar, wDr, wOb, wTl, wMq, wRx, wCr, wTab, wNew, wKi, wKn, wTn, wPt, sZ, sK, sS, sX, mK, mS]; omega) | omega))
      have sx2 : TXs M2 := (g.2.1.fr f1 (by intro o j hw; first | (dsimp only [wFq, wRsn, wOq, wNar, wFil, wCan, wLst, wCar, wDr, wOb, wTl, wMq, wRx, wCr, wTab, wNew, wKi, wKn, wTn, wPt, sZ, sK, sS, sX, mK, mS, sT, sU] at *; omega) | (dsimp only [sT, sU] at *; omega) | omega)).fr f2 (by intro o j hw; first | (dsimp only [wFq, wRsn, wOq, wNar, wFil, wCan, wLst, wCar, wDr, wOb, wTl, wMq, wRx, wCr, wTab, wNew, wKi, wKn, wTn, wPt, sZ, sK, sS, sX, mK, mS, sT, sU] at *; omega) | (dsimp only [sT, sU] at *; omega) | omega)
      have sq2 : SQ M2 := (g.2.2.2.fr f1 (by (first | (dsimp only [wFq, wRsn, wOq, wNar, wFil, wCan, wLst, wCar, wDr, wOb, wTl, wMq, wRx, wCr, wTab, wNew, wKi, wKn, wTn, wPt, sZ, sK, sS, sX, mK, mS]; omega) | omega)) (fun j => by (first | (dsimp only [wFq, wRsn, wOq, wNar, wFil, wCan, wLst, wCar, wDr, wOb, wTl, wMq, wRx, wCr, wTab, wNew, wKi, wKn, wTn, wPt, sZ, sK, sS, sX, mK, mS]; omega) | omega)) (fun j => by (first | (dsimp only [wFq, wRsn, wOq, wNar, wFil, wCan, wLst, wCar, wDr, wOb, wTl, wMq, wRx, wCr, wTab, wNew, wKi, wKn, wTn, wPt, sZ, sK, sS, sX, mK, mS]; omega) | omega))).fr f2 (by (first | (dsimp only [wFq, wRsn, wOq, wNar, wFil, wCan, wLst, wCar, wDr, wOb, wTl, wMq, wRx, wCr, wTab, wNew, wKi, wKn, wTn, wPt, sZ, sK, sS, sX, mK, mS]; omega) | omega)) (fun j => by (first | (dsimp only [wFq, wRsn, wOq, wNar, wFil, wCan, wLst, wCar, wDr, wOb, wTl, wMq, wRx, wCr, wTab, wNew, wKi, wKn, wTn, wPt, sZ, sK, sS, sX, mK, mS]; omega) | omega)) (fun j => by (first | (dsimp only [wFq, wRsn, wOq, wNar, wFil, wCan, wLst, wCar, wDr, wOb, wTl, wMq, wRx, wCr, wTab, wNew, wKi, wKn, wTn, wPt, sZ, sK, sS, sX, mK, mS]; omega) | omega))
      have hz1 : HZ M1 := g.1.2.2.2.2.fr f1 (fun j q => by first | (dsimp only [wFq, wRsn, wOq, wNar, wFil, wCan, wLst, wCar, wDr, wOb, wTl, wMq, wRx, wCr, wTab, wNew, wKi, wKn, wTn, wPt, sZ, sK, sS, sX, mK, mS] at q; omega) | omega)
      have tc1 : TXc M1 := TXc.opn c1.1 c1.2.2.1 (by rw [z2]; exact mt_z h.1.2.2.1 g.1.1 (by omega) (by omega)) z10 z9 hz1
      have tq2 : TQ M2 := TQ.opn (z10.fr f2 (by (first | (dsimp only [wFq, wRsn, wOq, wNar, wFil, wCan, wLst, wCar, wDr, wOb, wTl, wMq, wRx, wCr, wTab, wNew, wKi, wKn, wTn, wPt, sZ, sK, sS, sX, mK, mS]; omega) | omega)) (fun j => by (first | (dsimp only [wFq, wRsn, wOq, wNar, wFil, wCan, wLst, wCar, wDr, wOb, wTl, wMq, wRx, wCr, wTab, wNew, wKi, wKn, wTn, wPt, sZ, sK, sS, sX, mK, mS]; omega) | omega)) (fun j => by (first | (dsimp only [wFq, wRsn, wOq, wNar, wFil, wCan, wLst, wCar, wDr, wOb, wTl, wMq, wRx, wCr, wTab, wNew, wKi, wKn, wTn, wPt, sZ, sK, sS, sX, mK, mS]; omega) | omega))) yO r2.1 r2.2.2.2.1
      have un1 : UN M1 := un_n un f1 (by (first | (dsimp only [wFq, wRsn, wOq, wNar, wFil, wCan, wLst, wCar, wDr, wOb, wTl, wMq, wRx, wCr, wTab, wNew, wKi, wKn, wTn, wPt, sZ, sK, sS, sX, mK, mS]; omega) | omega)) (fun j => by (first | (dsimp only [wFq, wRsn, wOq, wNar, wFil, wCan, wLst, wCar, wDr, wOb, wTl, wMq, wRx, wCr, wTab, wNew, wKi, wKn, wTn, wPt, sZ, sK, sS, sX, mK, mS]; omega) | omega)) (U1.opn c1.1.2 z10)
      exact ⟨vw, ⟨⟨⟨c2, o2, r2, NQ.of n2 y3 r2.1, NL.of n2 c2.1 c2.2.2.1⟩, tc1.fr f2 (by intro o j hw; first | (dsimp only [wFq, wRsn, wOq, wNar, wFil, wCan, wLst, wCar, wDr, wOb, wTl, wMq, wRx, wCr, wTab, wNew, wKi, wKn, wTn, wPt, sZ, sK, sS, sX, mK, mS, sT, sU] at *; omega) | (dsimp only [sT, sU] at *; omega) | omega), sx2, tq2, sq2⟩, ca1.fr f2 (by intro o j hw; first | (dsimp only [wFq, wRsn, wOq, wNar, wFil, wCan, wLst, wCar, wDr, wOb, wTl, wMq, wRx, wCr, wTab, wNew, wKi, wKn, wTn, wPt, sZ, sK, sS, sX, mK, mS, sC] at *; omega) | (dsimp only [sC] at *; omega) | omega)⟩, fk1.fr f2 (by intro o j hw; first | (dsimp only [wFq, wRsn, wOq, wNar, wFil, wCan, wLst, wCar, wDr, wOb, wTl, wMq, wRx, wCr, wTab, wNew, wKi, wKn, wTn, wPt, sZ, sK, sS, sX, mK, mS, sF] at *; omega) | (dsimp only [sF] at *; omega) | omega), un1.fr f2 (by intro o j hw; first | (dsimp only [wFq, wRsn, wOq, wNar, wFil, wCan, wLst, wCar, wDr, wOb, wTl, wMq, wRx, wCr, wTab, wNew, wKi, wKn, wTn, wPt, sZ, sK, sS, sX, mK, mS, sN] at *; omega) | (dsimp only [sN] at *; omega) | omega)⟩
theorem p_fuse {M : yM} {a b : Int} (H : INV4 M) (ha : yR a) (hb : yR b) : XCi 40 90 [.inr (.inr 0), .inl a, .inl b] M (fun v M1 => XCi 40 140 [.inr (.inr 92), .inl a, .inl b] M1 (fun w M2 => v = w ∧ INV4 M2)) := by
  obtain ⟨⟨⟨h, g⟩, ca⟩, fk, un⟩ := H
  have hRL := h.2.2.1
  have hR1 := hRL.1
  have hR2 := hRL.2.1
  have hR3 := hRL.2.2.1
  have hR4 := hRL.2.2.2.1
  have hR5 := hRL.2.2.2.2
  have hZ := h.1.2.2.2.2.2.2.2.2.2.1
  have hTS := h.1.2.2.2.2.2.2.2.2.2.2
  have hK := h.1.1
  have hN := h.1.2.2.2.1
  refine XC.deep (c11_fuse (d := 0) h.1.1 h.1.2.2.2.1 h.1.2.1 h.1.2.2.1 ha hb hZ.1 hZ.2.2 g.1.2.1 (fun v M1 f1 q qF => ?_)) (by omega)
  have ca1 : CA M1 := CA.of ca qF
  have fk1 : FK M1 := FK.of fk qF
  have hTm : TBd (ld M 94) (ld M 92 2) := by rw [← hR1]; exact g.1.2.1.cg (fun p q a1 a2 b1 b2 => (g.2.2.1 p q a1 a2 b1 b2).symm)
  rcases q with ⟨e1, n1, e0⟩ | ⟨e1, n1, c0, e0⟩ | ⟨e1, n1, c0, z1, z2, z5, z3, z4, z6, z7, z8, z9, z10⟩
  · subst e0
    refine XC.deep (c12_fuse (d := 0) h.2.1.1.1 h.2.1.1.2.1 h.2.1.1.2.2.1 ha hb hTm (fun w M2 f2 q => ?_)) (by omega)
    rcases q with ⟨e2, n2, t⟩ | ⟨e2, n2, _⟩ | ⟨e2, n2, _⟩
    · exact ⟨by omega, ⟨⟨h.m0 t, g.m0 t⟩, ca1.m0 t⟩, fk1.m0 t, un.m0 t⟩
    · omega
    · omega
  · subst e0
    have qa := hR4 a (by omega) (by omega)
    have qb := hR4 b (by omega) (by omega)
    refine XC.deep (c12_fuse (d := 0) h.2.1.1.1 h.2.1.1.2.1 h.2.1.1.2.2.1 ha hb hTm (fun w M2 f2 q => ?_)) (by omega)
    rcases q with ⟨e2, n2, t⟩ | ⟨e2, n2, c2, t⟩ | ⟨e2, n2, c2, _⟩
    · omega
    · exact ⟨by omega, ⟨⟨h.m0 t, g.m0 t⟩, ca1.m0 t⟩, fk1.m0 t, un.m0 t⟩
    · rw [← qa, ← qb] at c2
      exact absurd c2 c0
  · skip
    have m1 : MO M1 := h.2.1.c f1 (by intro o j hw; first | (dsimp only [wFq, wRsn, wOq, wNar, wFil, wCan, wLst, wCar, wDr, wOb, wTl, wMq, wRx, wCr, wTab, wNew, wKi, wKn, wTn, wPt, sZ, sK, sS, sX, mK, mS] at *; omega) | (dsimp only at *; omega) | omega)
    have g2 : ld M1 92 2 = ld M 92 2 := f1.ld (by (first | (dsimp only [wFq, wRsn, wOq, wNar, wFil, wCan, wLst, wCar, wDr, wOb, wTl, wMq, wRx, wCr, wTab, wNew, wKi, wKn, wTn, wPt, sZ, sK, sS, sX, mK, mS]; omega) | omega))
    have g11 : ld M1 92 11 = ld M 92 11 := f1.ld (by (first | (dsimp only [wFq, wRsn, wOq, wNar, wFil, wCan, wLst, wCar, wDr, wOb, wTl, wMq, wRx, wCr, wTab, wNew, wKi, wKn, wTn, wPt, sZ, sK, sS, sX, mK, mS]; omega) | omega))
    have g5 : ld M1 92 5 = ld M 92 5 := f1.ld (by (first | (dsimp only [wFq, wRsn, wOq, wNar, wFil, wCan, wLst, wCar, wDr, wOb, wTl, wMq, wRx, wCr, wTab, wNew, wKi, wKn, wTn, wPt, sZ, sK, sS, sX, mK, mS]; omega) | omega))
    have g93 : ∀ j, ld M1 93 j = ld M 93 j := fun j => f1.ld (by (first | (dsimp only [wFq, wRsn, wOq, wNar, wFil, wCan, wLst, wCar, wDr, wOb, wTl, wMq, wRx, wCr, wTab, wNew, wKi, wKn, wTn, wPt, sZ, sK, sS, sX, mK, mS]; omega) | omega))
    have g95 : ∀ j, ld M1 95 j = ld M 95 j := fun j => f1.ld (by (first | (dsimp only [wFq, wRsn, wOq, wNar, wFil, wCan, wLst, wCar, wDr, wOb, wTl, wMq, wRx, wCr, wTab, wNew, wKi, wKn, wTn, wPt, sZ, sK, sS, sX, mK, mS]; omega) | omega))
    have qa := hR4 a (by omega) (by omega)
    have qb := hR4 b (by omega) (by omega)
    have hF : FH (ld M 2) (ld M 1 0) a b := ⟨hK, by omega, by omega, by omega, h.1.2.2.1, c0.1, c0.2⟩
    have e8 : ∀ c, 0 ≤ c → c < ld M 1 0 → ld M1 93 c = ld M 2 c := fun c q1 q2 => by rw [g93]; exact (hR4 c q1 q2).symm
    have g94 : ld M1 94 = ld M 94 := funext fun j => f1.ld (by (first | (dsimp only [wFq, wRsn, wOq, wNar, wFil, wCan, wLst, wCar, wDr, wOb, wTl, wMq, wRx, wCr, wTab, wNew, wKi, wKn, wTn, wPt, sZ, sK, sS, sX, mK, mS]; omega) | omega))
    refine XC.deep (c12_fuse (d := 0) m1.1.1 m1.1.2.1 m1.1.2.2.1 ha hb (by rw [g94, g2]; exact hTm) (fun w M2 f2 q => ?_)) (by omega)
    rcases q with ⟨e2, n2, t⟩ | ⟨e2, n2, c2, t⟩ | ⟨e2, n2, c2, y1, y2, y5, y3, y4, yO⟩
    · omega
    · rw [g93, g93, ← qa, ← qb] at c2
      exact absurd c0 c2
    · have n8 := cn_8 hF
      have xa := e8 a (by omega) (by omega)
      have xb := e8 b (by omega) (by omega)
      have y1' : ld M2 92 2 = cn (ld M 2) a b (ld M 1 0).toNat := by rw [y1, g2, ← hR1, cn_cg xa xb]
      have y2' : FT (ld M 2) a b (ld M 1 0) (ld M2 93) := fun c q1 q2 => by
        have q := y2 c q1 (by omega)
        rw [nm_cg xa xb, nm_cg xa xb, e8 c q1 q2] at q
        exact q
      have c1 : CS M1 := h.1.n f1 (by intro o j hw; first | (dsimp only [wFq, wRsn, wOq, wNar, wFil, wCan, wLst, wCar, wDr, wOb, wTl, wMq, wRx, wCr, wTab, wNew, wKi, wKn, wTn, wPt, sZ, sK, sS, sX, mK, mS] at *; omega) | (dsimp only at *; omega) | omega) (by omega) z5 (by rw [z1]; exact FT.iv hF z2) (by omega) ⟨z6, by rw [f1.ld (by (first | (dsimp only [wFq, wRsn, wOq, wNar, wFil, wCan, wLst, wCar, wDr, wOb, wTl, wMq, wRx, wCr, wTab, wNew, wKi, wKn, wTn, wPt, sZ, sK, sS, sX, mK, mS]; omega) | omega))]; exact hZ.2.1, z7⟩ z8
      have k11 : ld M2 92 11 = ld M1 92 11 := f2.ld (by (first | (dsimp only [wFq, wRsn, wOq, wNar, wFil, wCan, wLst, wCar, wDr, wOb, wTl, wMq, wRx, wCr, wTab, wNew, wKi, wKn, wTn, wPt, sZ, sK, sS, sX, mK, mS]; omega) | omega))
      have vw : v = w := by omega
      have c2 : CS M2 := c1.m f2 (by intro o j hw; first | (dsimp only [wFq, wRsn, wOq, wNar, wFil, wCan, wLst, wCar, wDr, wOb, wTl, wMq, wRx, wCr, wTab, wNew, wKi, wKn, wTn, wPt, sZ, sK, sS, sX, mK, mS] at *; omega) | (dsimp only at *; omega) | omega)
      have o2 : MO M2 := ⟨m1.1.n f2 (by intro o j hw; first | (dsimp only [wFq, wRsn, wOq, wNar, wFil, wCan, wLst, wCar, wDr, wOb, wTl, wMq, wRx, wCr, wTab, wNew, wKi, wKn, wTn, wPt, sZ, sK, sS, sX, mK, mS] at *; omega) | (dsimp only at *; omega) | omega) (by omega) y5 (by rw [y1']; exact FT.iv hF y2') (by omega), MB.of y3 (by omega), y4, m1.2.2.2.1.q f2 (by (first | (dsimp only [wFq, wRsn, wOq, wNar, wFil, wCan, wLst, wCar, wDr, wOb, wTl, wMq, wRx, wCr, wTab, wNew, wKi, wKn, wTn, wPt, sZ, sK, sS, sX, mK, mS]; omega) | omega)), m1.2.2.2.2.fr f2 (fun j => by (first | (dsimp only [wFq, wRsn, wOq, wNar, wFil, wCan, wLst, wCar, wDr, wOb, wTl, wMq, wRx, wCr, wTab, wNew, wKi, wKn, wTn, wPt, sZ, sK, sS, sX, mK, mS]; omega) | omega))⟩
      have r2 : RLl M2 := hRL.n f1 (by intro o j hw; first | (dsimp only [wFq, wRsn, wOq, wNar, wFil, wCan, wLst, wCar, wDr, wOb, wTl, wMq, wRx, wCr, wTab, wNew, wKi, wKn, wTn, wPt, sZ, sK, sS, sX, mK, mS] at *; omega) | (dsimp only at *; omega) | omega) f2 (by intro o j hw; first | (dsimp only [wFq, wRsn, wOq, wNar, wFil, wCan, wLst, wCar, wDr, wOb, wTl, wMq, wRx, wCr, wTab, wNew, wKi, wKn, wTn, wPt, sZ, sK, sS, sX, mK, mS] at *; omega) | (dsimp only at *; omega) | omega) (by omega) (by omega) (fun j q1 q2 => FT.eq (by omega) z2 y2' ⟨q1, by omega⟩)
      have n2 : NF M2 := z4.fr f2 (by (first | (dsimp only [wFq, wRsn, wOq, wNar, wFil, wCan, wLst, wCar, wDr, wOb, wTl, wMq, wRx, wCr, wTab, wNew, wKi, wKn, wTn, wPt, sZ, sK, sS, sX, mK, mS]; omega) | omega)) (fun j => by (first | (dsimp only [wFq, wRsn, wOq, wNar, wFil, wCan, wLst, wCar, wDr, wOb, wTl, wMq, wRx, wCr, wTab, wNew, wKi, wKn, wTn, wPt, sZ, sK, sS, sX, mK, mS]; omega) | omega))
      have sx2 : TXs M2 := (g.2.1.fr f1 (by intro o j hw; first | (dsimp only [wFq, wRsn, wOq, wNar, wFil, wCan, wLst, wCar, wDr, wOb, wTl, wMq, wRx, wCr, wTab, wNew, wKi, wKn, wTn, wPt, sZ, sK, sS, sX, mK, mS, sT, sU] at *; omega) | (dsimp only [sT, sU] at *; omega) | omega)).fr f2 (by intro o j hw; first | (dsimp only [wFq, wRsn, wOq, wNar, wFil, wCan, wLst, wCar, wDr, wOb, wTl, wMq, wRx, wCr, wTab, wNew, wKi, wKn, wTn, wPt, sZ, sK, sS, sX, mK, mS, sT, sU] at *; omega) | (dsimp only [sT, sU] at *; omega) | omega)
      have sq2 : SQ M2 := (g.2.2.2.fr f1 (by (first | (dsimp only [wFq, wRsn, wOq, wNar, wFil, wCan, wLst, wCar, wDr, wOb, wTl, wMq, wRx, wCr, wTab, wNew, wKi, wKn, wTn, wPt, sZ, sK, sS, sX, mK, mS]; omega) | omega)) (fun j => by (first | (dsimp only [wFq, wRsn, wOq, wNar, wFil, wCan, wLst, wCar, wDr, wOb, wTl, wMq, wRx, wCr, wTab, wNew, wKi, wKn, wTn, wPt, sZ, sK, sS, sX, mK, mS]; omega) | omega)) (fun j => by (first | (dsimp only [wFq, wRsn, wOq, wNar, wFil, wCan, wLst, wCar, wDr, wOb, wTl, wMq, wRx, wCr, wTab, wNew, wKi, wKn, wTn, wPt, sZ, sK, sS, sX, mK, mS]; omega) | omega))).fr f2 (by (first | (dsimp only [wFq, wRsn, wOq, wNar, wFil, wCan, wLst, wCar, wDr, wOb, wTl, wMq, wRx, wCr, wTab, wNew, wKi, wKn, wTn, wPt, sZ, sK, sS, sX, mK, mS]; omega) | omega)) (fun j => by (first | (dsimp only [wFq, wRsn, wOq, wNar, wFil, wCan, wLst, wCar, wDr, wOb, wTl, wMq, wRx, wCr, wTab, wNew, wKi, wKn, wTn, wPt, sZ, sK, sS, sX, mK, mS]; omega) | omega)) (fun j => by (first | (dsimp only [wFq, wRsn, wOq, wNar, wFil, wCan, wLst, wCar, wDr, wOb, wTl, wMq, wRx, wCr, wTab, wNew, wKi, wKn, wTn, wPt, sZ, sK, sS, sX, mK, mS]; omega) | omega))
      have hz1 : HZ M1 := g.1.2.2.2.2.fr f1 (fun j q => by first | (dsimp only [wFq, wRsn, wOq, wNar, wFil, wCan, wLst, wCar, wDr, wOb, wTl, wMq, wRx, wCr, wTab, wNew, wKi, wKn, wTn, wPt, sZ, sK, sS, sX, mK, mS] at q; omega) | omega)
      have un1 : UN M1 := un_n un f1 (by (first | (dsimp only [wFq, wRsn, wOq, wNar, wFil, wCan, wLst, wCar, wDr, wOb, wTl, wMq, wRx, wCr, wTab, wNew, wKi, wKn, wTn, wPt, sZ, sK, sS, sX, mK, mS]; omega) | omega)) (fun j => by (first | (dsimp only [wFq, wRsn, wOq, wNar, wFil, wCan, wLst, wCar, wDr, wOb, wTl, wMq, wRx, wCr, wTab, wNew, wKi, wKn, wTn, wPt, sZ, sK, sS, sX, mK, mS]; omega) | omega)) (by rw [z1]; exact un.1.fus z10 (by omega) (nm_0 (by omega) (by omega) (by have := hF.p; omega) (by have := hF.p; omega)) n8.1 (fun j q1 q2 => nm_sj (by omega) ⟨q1, q2⟩))
      have nB : ∀ c, 0 ≤ c → c < ld M 1 0 → 0 ≤ nm (ld M 2) a b c ∧ nm (ld M 2) a b c < cn (ld M 2) a b (ld M 1 0).toNat := fun c q1 q2 => by have := nm_b hF (c := c) ⟨q1, q2⟩; omega
      have tc1 : TXc M1 := by
        refine ⟨?_, ?_, ?_, z9, hz1⟩
        · have q := z2 0 (by omega) (by omega)
          rw [g.1.1, nm_0 (by omega) (by omega) (by have := hF.p; omega) (by have := hF.p; omega)] at q
          exact q
        · rw [z1]; exact z10.bd n8 nB (fun j => rng_ld _ _ _)
        · rw [z1]; exact z10.sy n8.2 g.1.2.2.1 h.1.2.2.1 (FT.iv hF z2) nB z2
      have yO' := yO
      rw [g94, g2, ← hR1, cn_cg xa xb] at yO'
      have yP := yO'.cg (T' := ld M 3) (N' := nm (ld M 2) a b) g.2.2.1 (fun c _ _ => (nm_cg xa xb c).symm)
      have tq2 : TQ M2 := fun p q a1 a2 b1 b2 => by
        have k1 : ld M2 1 0 = ld M1 1 0 := f2.ld (by (first | (dsimp only [wFq, wRsn, wOq, wNar, wFil, wCan, wLst, wCar, wDr, wOb, wTl, wMq, wRx, wCr, wTab, wNew, wKi, wKn, wTn, wPt, sZ, sK, sS, sX, mK, mS]; omega) | omega))
        rw [k1, z1] at a2 b2
        rw [f2.ld (by (first | (dsimp only [wFq, wRsn, wOq, wNar, wFil, wCan, wLst, wCar, wDr, wOb, wTl, wMq, wRx, wCr, wTab, wNew, wKi, wKn, wTn, wPt, sZ, sK, sS, sX, mK, mS]; omega) | omega))]
        exact z10.uq yP (fun _ _ _ _ _ _ => rfl) (fun _ _ _ => rfl) ⟨a1, a2⟩ ⟨b1, b2⟩ (rng_ld _ _ _) (rng_ld _ _ _)
      exact ⟨vw, ⟨⟨⟨c2, o2, r2, NQ.of n2 y3 r2.1, NL.of n2 c2.1 c2.2.2.1⟩, tc1.fr f2 (by intro o j hw; first | (dsimp only [wFq, wRsn, wOq, wNar, wFil, wCan, wLst, wCar, wDr, wOb, wTl, wMq, wRx, wCr, wTab, wNew, wKi, wKn, wTn, wPt, sZ, sK, sS, sX, mK, mS, sT, sU] at *; omega) | (dsimp only [sT, sU] at *; omega) | omega), sx2, tq2, sq2⟩, ca1.fr f2 (by intro o j hw; first | (dsimp only [wFq, wRsn, wOq, wNar, wFil, wCan, wLst, wCar, wDr, wOb, wTl, wMq, wRx, wCr, wTab, wNew, wKi, wKn, wTn, wPt, sZ, sK, sS, sX, mK, mS, sC] at *; omega) | (dsimp only [sC] at *; omega) | omega)⟩, fk1.fr f2 (by intro o j hw; first | (dsimp only [wFq, wRsn, wOq, wNar, wFil, wCan, wLst, wCar, wDr, wOb, wTl, wMq, wRx, wCr, wTab, wNew, wKi, wKn, wTn, wPt, sZ, sK, sS, sX, mK, mS, sF] at *; omega) | (dsimp only [sF] at *; omega) | omega), un1.fr f2 (by intro o j hw; first | (dsimp only [wFq, wRsn, wOq, wNar, wFil, wCan, wLst, wCar, wDr, wOb, wTl, wMq, wRx, wCr, wTab, wNew, wKi, wKn, wTn, wPt, sZ, sK, sS, sX, mK, mS, sN] at *; omega) | (dsimp only [sN] at *; omega) | omega)⟩
theorem p_shelf {M : yM} {a : Int} (H : INV4 M) (ha : yR a) : XCi 40 92 [.inr (.inr 0), .inl a] M (fun v M1 => XCi 40 142 [.inr (.inr 92), .inl a] M1 (fun w M2 => v = w ∧ INV4 M2)) := by
  obtain ⟨⟨⟨h, g⟩, ca⟩, fk, un⟩ := H
  have hRL := h.2.2.1
  have hR1 := hRL.1
  have hR2 := hRL.2.1
  have hR3 := hRL.2.2.1
  have hR4 := hRL.2.2.2.1
  have hR5 := hRL.2.2.2.2
  have hZ := h.1.2.2.2.2.2.2.2.2.2.1
  have hTS := h.1.2.2.2.2.2.2.2.2.2.2
  have hK := h.1.1
  have hN := h.1.2.2.2.1
  refine XC.deep (c11_shelf (d := 0) h.1.1 h.1.2.2.2.1 h.1.2.1 h.1.2.2.1 h.1.2.2.2.2.1 h.1.2.2.2.2.2.2.1 ha h.1.2.2.2.2.2.1 hZ.1 hZ.2.2 (fun v M1 f1 q qF => ?_)) (by omega)
  have ca1 : CA M1 := CA.of ca qF
  have fk1 : FK M1 := FK.of fk qF
  have hTm : TBd (ld M 94) (ld M 92 2) := by rw [← hR1]; exact g.1.2.1.cg (fun p q a1 a2 b1 b2 => (g.2.2.1 p q a1 a2 b1 b2).symm)
  have hTs : TBd (ld M 96) (ld M 92 5) := by rw [← hR3]; exact g.2.1.2.1.cg (fun p q a1 a2 b1 b2 => (g.2.2.2 p q a1 a2 b1 b2).symm)
  have mo : ld M 1 0 * ld M 7 0 = ld M 92 2 * ld M 92 5 := by rw [hR1, hR3]
  rcases q with ⟨e1, n1, e0⟩ | ⟨e1, n1, c0, e0⟩ | ⟨e1, n1, c0, d0, e0⟩ | ⟨e1, c0, z1, z3, z4, z6, z7, z8, z9, z10⟩
  · subst e0
    refine XC.deep (c12_shelf (d := 0) h.2.1.1.1 h.2.1.1.2.1 h.2.1.1.2.2.1 h.2.1.1.2.2.2.2.1 h.2.1.1.2.2.2.2.2 ha hTm hTs (fun w M2 f2 q => ?_)) (by omega)
    rcases q with ⟨e2, n2, t⟩ | ⟨e2, n2, _⟩ | ⟨e2, n2, _⟩ | ⟨e2, n2, d2, _⟩
    · exact ⟨by omega, ⟨⟨h.m0 t, g.m0 t⟩, ca1.m0 t⟩, fk1.m0 t, un.m0 t⟩
    · omega
    · omega
    · omega
  · subst e0
    refine XC.deep (c12_shelf (d := 0) h.2.1.1.1 h.2.1.1.2.1 h.2.1.1.2.2.1 h.2.1.1.2.2.2.2.1 h.2.1.1.2.2.2.2.2 ha hTm hTs (fun w M2 f2 q => ?_)) (by omega)
    rcases q with ⟨e2, n2, t⟩ | ⟨e2, n2, c2, t⟩ | ⟨e2, n2, c2, _⟩ | ⟨e2, c2, _⟩
    · omega
    · exact ⟨by omega, ⟨⟨h.m0 t, g.m0 t⟩, ca1.m0 t⟩, fk1.m0 t, un.m0 t⟩
    · omega
    · omega
  · subst e0
    refine XC.deep (c12_shelf (d := 0) h.2.1.1.1 h.2.1.1.2.1 h.2.1.1.2.2.1 h.2.1.1.2.2.2.2.1 h.2.1.1.2.2.2.2.2 ha hTm hTs (fun w M2 f2 q => ?_)) (by omega)
    rcases q with ⟨e2, n2, t⟩ | ⟨e2, n2, c2, t⟩ | ⟨e2, n2, c2, d2, t⟩ | ⟨e2, c2, d2, _⟩
    · omega
    · omega
    · exact ⟨by omega, ⟨⟨h.m0 t, g.m0 t⟩, ca1.m0 t⟩, fk1.m0 t, un.m0 t⟩
    · rcases d2 with d2 | d2
      · omega
      · have := d2.2.1
        omega
  · skip
    have m1 : MO M1 := h.2.1.c f1 (by intro o j hw; first | (dsimp only [wFq, wRsn, wOq, wNar, wFil, wCan, wLst, wCar, wDr, wOb, wTl, wMq, wRx, wCr, wTab, wNew, wKi, wKn, wTn, wPt, sZ, sK, sS, sX, mK, mS] at *; omega) | (dsimp only at *; omega) | omega)
    have g2 : ld M1 92 2 = ld M 92 2 := f1.ld (by (first | (dsimp only [wFq, wRsn, wOq, wNar, wFil, wCan, wLst, wCar, wDr, wOb, wTl, wMq, wRx, wCr, wTab, wNew, wKi, wKn, wTn, wPt, sZ, sK, sS, sX, mK, mS]; omega) | omega))
    have g11 : ld M1 92 11 = ld M 92 11 := f1.ld (by (first | (dsimp only [wFq, wRsn, wOq, wNar, wFil, wCan, wLst, wCar, wDr, wOb, wTl, wMq, wRx, wCr, wTab, wNew, wKi, wKn, wTn, wPt, sZ, sK, sS, sX, mK, mS]; omega) | omega))
    have g5 : ld M1 92 5 = ld M 92 5 := f1.ld (by (first | (dsimp only [wFq, wRsn, wOq, wNar, wFil, wCan, wLst, wCar, wDr, wOb, wTl, wMq, wRx, wCr, wTab, wNew, wKi, wKn, wTn, wPt, sZ, sK, sS, sX, mK, mS]; omega) | omega))
    have g93 : ∀ j, ld M1 93 j = ld M 93 j := fun j => f1.ld (by (first | (dsimp only [wFq, wRsn, wOq, wNar, wFil, wCan, wLst, wCar, wDr, wOb, wTl, wMq, wRx, wCr, wTab, wNew, wKi, wKn, wTn, wPt, sZ, sK, sS, sX, mK, mS]; omega) | omega))
    have g95 : ∀ j, ld M1 95 j = ld M 95 j := fun j => f1.ld (by (first | (dsimp only [wFq, wRsn, wOq, wNar, wFil, wCan, wLst, wCar, wDr, wOb, wTl, wMq, wRx, wCr, wTab, wNew, wKi, wKn, wTn, wPt, sZ, sK, sS, sX, mK, mS]; omega) | omega))
    have mo1 : ld M1 92 2 * ld M1 92 5 = ld M 1 0 * ld M 7 0 := by rw [g2, g5, mo]
    have h7 := h.1.2.2.2.2.1
    have ivS : IV (ld M 8) (ld M 7 0) := h.1.2.2.2.2.2.2.1
    have g94 : ld M1 94 = ld M 94 := funext fun j => f1.ld (by (first | (dsimp only [wFq, wRsn, wOq, wNar, wFil, wCan, wLst, wCar, wDr, wOb, wTl, wMq, wRx, wCr, wTab, wNew, wKi, wKn, wTn, wPt, sZ, sK, sS, sX, mK, mS]; omega) | omega))
    have g96 : ld M1 96 = ld M 96 := funext fun j => f1.ld (by (first | (dsimp only [wFq, wRsn, wOq, wNar, wFil, wCan, wLst, wCar, wDr, wOb, wTl, wMq, wRx, wCr, wTab, wNew, wKi, wKn, wTn, wPt, sZ, sK, sS, sX, mK, mS]; omega) | omega))
    refine XC.deep (c12_shelf (d := 0) m1.1.1 m1.1.2.1 m1.1.2.2.1 m1.1.2.2.2.2.1 m1.1.2.2.2.2.2 ha (by rw [g94, g2]; exact hTm) (by rw [g96, g5]; exact hTs) (fun w M2 f2 q => ?_)) (by omega)
    rcases q with ⟨e2, n2, t⟩ | ⟨e2, n2, c2, t⟩ | ⟨e2, n2, c2, d2, t⟩ | ⟨e2, c2, y1, y5, y3, y4, yO⟩
    · rcases z1 with z | z
      · exact absurd (Or.inl z.1) n2
      · exact absurd (Or.inr z.1) n2
    · omega
    · rcases z1 with z | z
      · have := z.1
        omega
      · have := z.2.1
        omega
    · have key : (1 ≤ ld M1 1 0 ∧ ld M1 1 0 ≤ 8) ∧ T8 M1 2 ∧ IV (ld M1 2) (ld M1 1 0) ∧ ld M2 92 2 = ld M1 1 0 ∧ ∀ j, 0 ≤ j → j < ld M1 1 0 → ld M1 2 j = ld M2 93 j := by
        rcases z1 with ⟨za, zb, zc⟩ | ⟨za, zb, zc, zd, ze⟩
        · rcases y1 with ⟨ya, yb, yc⟩ | ⟨ya, _⟩
          · refine ⟨by omega, fun j q1 q2 => by rw [zc j q1 q2]; exact h.1.2.2.2.2.2.1 j q1 q2, ?_, by omega, fun j q1 q2 => ?_⟩
            · rw [zb]; exact ivS.cg (fun j q1 q2 => zc j q1 (by omega))
            · rw [zc j q1 (by omega), yc j q1 (by omega), g95]; exact hR5 j q1 (by omega)
          · omega
        · rcases y1 with ⟨ya, _⟩ | ⟨ya, yb, yc, yd⟩
          · omega
          · have hm := Int.mul_le_mul_of_nonneg_left (show 1 ≤ ld M 7 0 by omega) (show 0 ≤ ld M 1 0 by omega)
            rw [g2, g5, ← hR1, ← hR3] at yd
            refine ⟨by omega, ze, ?_, by omega, fun j q1 q2 => ?_⟩
            · rw [zc]; exact TW.iv (by omega) h.1.2.2.1 ivS (by omega) (by omega) zd
            · exact TW.eq hK (by omega) zd yd (fun c q3 q4 => by rw [g93]; exact hR4 c q3 q4) (fun c q3 q4 => by rw [g95]; exact hR5 c q3 q4) ⟨q1, by omega⟩
      obtain ⟨k1, k2, k3, k4, k5⟩ := key
      have c1 : CS M1 := h.1.n f1 (by intro o j hw; first | (dsimp only [wFq, wRsn, wOq, wNar, wFil, wCan, wLst, wCar, wDr, wOb, wTl, wMq, wRx, wCr, wTab, wNew, wKi, wKn, wTn, wPt, sZ, sK, sS, sX, mK, mS] at *; omega) | (dsimp only at *; omega) | omega) k1 k2 k3 (by omega) ⟨z6, by rw [f1.ld (by (first | (dsimp only [wFq, wRsn, wOq, wNar, wFil, wCan, wLst, wCar, wDr, wOb, wTl, wMq, wRx, wCr, wTab, wNew, wKi, wKn, wTn, wPt, sZ, sK, sS, sX, mK, mS]; omega) | omega))]; exact hZ.2.1, z7⟩ z8
      have k11 : ld M2 92 11 = ld M1 92 11 := f2.ld (by (first | (dsimp only [wFq, wRsn, wOq, wNar, wFil, wCan, wLst, wCar, wDr, wOb, wTl, wMq, wRx, wCr, wTab, wNew, wKi, wKn, wTn, wPt, sZ, sK, sS, sX, mK, mS]; omega) | omega))
      have vw : v = w := by omega
      have c2 : CS M2 := c1.m f2 (by intro o j hw; first | (dsimp only [wFq, wRsn, wOq, wNar, wFil, wCan, wLst, wCar, wDr, wOb, wTl, wMq, wRx, wCr, wTab, wNew, wKi, wKn, wTn, wPt, sZ, sK, sS, sX, mK, mS] at *; omega) | (dsimp only at *; omega) | omega)
      have o2 : MO M2 := ⟨m1.1.n f2 (by intro o j hw; first | (dsimp only [wFq, wRsn, wOq, wNar, wFil, wCan, wLst, wCar, wDr, wOb, wTl, wMq, wRx, wCr, wTab, wNew, wKi, wKn, wTn, wPt, sZ, sK, sS, sX, mK, mS] at *; omega) | (dsimp only at *; omega) | omega) (by omega) y5 (by rw [k4]; exact k3.cg (fun j q1 q2 => (k5 j q1 q2).symm)) (by omega), MB.of y3 (by omega), y4, m1.2.2.2.1.q f2 (by (first | (dsimp only [wFq, wRsn, wOq, wNar, wFil, wCan, wLst, wCar, wDr, wOb, wTl, wMq, wRx, wCr, wTab, wNew, wKi, wKn, wTn, wPt, sZ, sK, sS, sX, mK, mS]; omega) | omega)), m1.2.2.2.2.fr f2 (fun j => by (first | (dsimp only [wFq, wRsn, wOq, wNar, wFil, wCan, wLst, wCar, wDr, wOb, wTl, wMq, wRx, wCr, wTab, wNew, wKi, wKn, wTn, wPt, sZ, sK, sS, sX, mK, mS]; omega) | omega))⟩
      have r2 : RLl M2 := hRL.n f1 (by intro o j hw; first | (dsimp only [wFq, wRsn, wOq, wNar, wFil, wCan, wLst, wCar, wDr, wOb, wTl, wMq, wRx, wCr, wTab, wNew, wKi, wKn, wTn, wPt, sZ, sK, sS, sX, mK, mS] at *; omega) | (dsimp only at *; omega) | omega) f2 (by intro o j hw; first | (dsimp only [wFq, wRsn, wOq, wNar, wFil, wCan, wLst, wCar, wDr, wOb, wTl, wMq, wRx, wCr, wTab, wNew, wKi, wKn, wTn, wPt, sZ, sK, sS, sX, mK, mS] at *; omega) | (dsimp only at *; omega) | omega) (by omega) (by omega) k5
      have n2 : NF M2 := z4.fr f2 (by (first | (dsimp only [wFq, wRsn, wOq, wNar, wFil, wCan, wLst, wCar, wDr, wOb, wTl, wMq, wRx, wCr, wTab, wNew, wKi, wKn, wTn, wPt, sZ, sK, sS, sX, mK, mS]; omega) | omega)) (fun j => by (first | (dsimp only [wFq, wRsn, wOq, wNar, wFil, wCan, wLst, wCar, wDr, wOb, wTl, wMq, wRx, wCr, wTab, wNew, wKi, wKn, wTn, wPt, sZ, sK, sS, sX, mK, mS]; omega) | omega))
      have sx2 : TXs M2 := (g.2.1.fr f1 (by intro o j hw; first | (dsimp only [wFq, wRsn, wOq, wNar, wFil, wCan, wLst, wCar, wDr, wOb, wTl, wMq, wRx, wCr, wTab, wNew, wKi, wKn, wTn, wPt, sZ, sK, sS, sX, mK, mS, sT, sU] at *; omega) | (dsimp only [sT, sU] at *; omega) | omega)).fr f2 (by intro o j hw; first | (dsimp only [wFq, wRsn, wOq, wNar, wFil, wCan, wLst, wCar, wDr, wOb, wTl, wMq, wRx, wCr, wTab, wNew, wKi, wKn, wTn, wPt, sZ, sK, sS, sX, mK, mS, sT, sU] at *; omega) | (dsimp only [sT, sU] at *; omega) | omega)
      have sq2 : SQ M2 := (g.2.2.2.fr f1 (by (first | (dsimp only [wFq, wRsn, wOq, wNar, wFil, wCan, wLst, wCar, wDr, wOb, wTl, wMq, wRx, wCr, wTab, wNew, wKi, wKn, wTn, wPt, sZ, sK, sS, sX, mK, mS]; omega) | omega)) (fun j => by (first | (dsimp only [wFq, wRsn, wOq, wNar, wFil, wCan, wLst, wCar, wDr, wOb, wTl, wMq, wRx, wCr, wTab, wNew, wKi, wKn, wTn, wPt, sZ, sK, sS, sX, mK, mS]; omega) | omega)) (fun j => by (first | (dsimp only [wFq, wRsn, wOq, wNar, wFil, wCan, wLst, wCar, wDr, wOb, wTl, wMq, wRx, wCr, wTab, wNew, wKi, wKn, wTn, wPt, sZ, sK, sS, sX, mK, mS]; omega) | omega))).fr f2 (by (first | (dsimp only [wFq, wRsn, wOq, wNar, wFil, wCan, wLst, wCar, wDr, wOb, wTl, wMq, wRx, wCr, wTab, wNew, wKi, wKn, wTn, wPt, sZ, sK, sS, sX, mK, mS]; omega) | omega)) (fun j => by (first | (dsimp only [wFq, wRsn, wOq, wNar, wFil, wCan, wLst, wCar, wDr, wOb, wTl, wMq, wRx, wCr, wTab, wNew, wKi, wKn, wTn, wPt, sZ, sK, sS, sX, mK, mS]; omega) | omega)) (fun j => by (first | (dsimp only [wFq, wRsn, wOq, wNar, wFil, wCan, wLst, wCar, wDr, wOb, wTl, wMq, wRx, wCr, wTab, wNew, wKi, wKn, wTn, wPt, sZ, sK, sS, sX, mK, mS]; omega) | omega))
      have hz1 : HZ M1 := g.1.2.2.2.2.fr f1 (fun j q => by first | (dsimp only [wFq, wRsn, wOq, wNar, wFil, wCan, wLst, wCar, wDr, wOb, wTl, wMq, wRx, wCr, wTab, wNew, wKi, wKn, wTn, wPt, sZ, sK, sS, sX, mK, mS] at q; omega) | omega)
      have tt : TXc M1 ∧ ∀ p q, 0 ≤ p → p < ld M1 1 0 → 0 ≤ q → q < ld M1 1 0 → ld M1 3 (8 * p + q) = ld M2 94 (8 * p + q) := by
        rcases z1 with ⟨za, zb, zc⟩ | ⟨za, zb, zc, zd, ze⟩
        · have e3 := z10.1 za
          have e4 := yO.1 za
          rw [g96, g5, ← hR3] at e4
          refine ⟨⟨?_, ?_, ?_, z9, hz1⟩, fun p q a1 a2 b1 b2 => ?_⟩
          · rw [zc 0 (by omega) (by omega)]; exact g.2.1.1 c0
          · rw [zb]; exact g.2.1.2.1.cg (fun p q a1 a2 b1 b2 => e3 _ (by omega) (by omega))
          · rw [zb]; exact g.2.1.2.2.cg ivS (fun p q a1 a2 b1 b2 => e3 _ (by omega) (by omega)) (fun p a1 a2 => zc p a1 (by omega))
          · rw [zb] at a2 b2
            rw [e3 _ (by omega) (by omega), e4 p q a1 a2 b1 b2]
            exact g.2.2.2 p q a1 a2 b1 b2
        · have hm := Int.mul_le_mul_of_nonneg_left (show 1 ≤ ld M 7 0 by omega) (show 0 ≤ ld M 1 0 by omega)
          have t1 : TWO (ld M 3) (ld M 9) (ld M 1 0) (ld M 7 0) (ld M1 3) := (z10.2 za).two hK (by omega) zb g.1.2.1 g.2.1.2.1
          have t2 := yO.2 za
          rw [g94, g96, g2, g5, ← hR1, ← hR3] at t2
          refine ⟨⟨?_, ?_, ?_, z9, hz1⟩, fun p q a1 a2 b1 b2 => ?_⟩
          · have w := zd 0 0 (by omega) (by omega) (by omega) (Or.inl (by omega))
            rw [g.1.1, g.2.1.1 c0] at w
            rw [show (0 : Int) + ld M 1 0 * 0 = 0 by omega] at w
            exact w
          · rw [zc]; exact t1.bd (by omega) (by omega) zb (fun j => rng_ld _ _ _)
          · rw [zc]; exact t1.sy (by omega) g.1.2.2.1 g.2.1.2.2 h.1.2.2.1 ivS (fun p s p1 p2 s1 s2 => zd p s p1 p2 s1 (Or.inl s2))
          · rw [zc] at a2 b2
            exact t1.uq (by omega) t2 g.2.2.1 g.2.2.2 (fun j => rng_ld _ _ _) (fun j => rng_ld _ _ _) ⟨a1, a2⟩ ⟨b1, b2⟩
      have un1 : UN M1 := un_n un f1 (by (first | (dsimp only [wFq, wRsn, wOq, wNar, wFil, wCan, wLst, wCar, wDr, wOb, wTl, wMq, wRx, wCr, wTab, wNew, wKi, wKn, wTn, wPt, sZ, sK, sS, sX, mK, mS]; omega) | omega)) (fun j => by (first | (dsimp only [wFq, wRsn, wOq, wNar, wFil, wCan, wLst, wCar, wDr, wOb, wTl, wMq, wRx, wCr, wTab, wNew, wKi, wKn, wTn, wPt, sZ, sK, sS, sX, mK, mS]; omega) | omega)) (by
        rcases z1 with ⟨za, zb, zc⟩ | ⟨za, zb, zc, zd, ze⟩
        · have e3 := z10.1 za
          rw [zb]
          exact un.2.cu (fun b b1 b2 => e3 _ (by omega) (by omega))
        · have t1 : TWO (ld M 3) (ld M 9) (ld M 1 0) (ld M 7 0) (ld M1 3) := (z10.2 za).two hK (by omega) zb g.1.2.1 g.2.1.2.1
          rw [zc]
          exact un.1.two un.2 t1 (by omega) (by omega) zb)
      have tc1 := tt.1
      have tq2 : TQ M2 := fun p q a1 a2 b1 b2 => by
        have k1 : ld M2 1 0 = ld M1 1 0 := f2.ld (by (first | (dsimp only [wFq, wRsn, wOq, wNar, wFil, wCan, wLst, wCar, wDr, wOb, wTl, wMq, wRx, wCr, wTab, wNew, wKi, wKn, wTn, wPt, sZ, sK, sS, sX, mK, mS]; omega) | omega))
        rw [k1] at a2 b2
        rw [f2.ld (by (first | (dsimp only [wFq, wRsn, wOq, wNar, wFil, wCan, wLst, wCar, wDr, wOb, wTl, wMq, wRx, wCr, wTab, wNew, wKi, wKn, wTn, wPt, sZ, sK, sS, sX, mK, mS]; omega) | omega))]
        exact tt.2 p q a1 a2 b1 b2
      exact ⟨vw, ⟨⟨⟨c2, o2, r2, NQ.of n2 y3 r2.1, NL.of n2 c2.1 c2.2.2.1⟩, tc1.fr f2 (by intro o j hw; first | (dsimp only [wFq, wRsn, wOq, wNar, wFil, wCan, wLst, wCar, wDr, wOb, wTl, wMq, wRx, wCr, wTab, wNew, wKi, wKn, wTn, wPt, sZ, sK, sS, sX, mK, mS, sT, sU] at *; omega) | (dsimp only [sT, sU] at *; omega) | omega), sx2, tq2, sq2⟩, ca1.fr f2 (by intro o j hw; first | (dsimp only [wFq, wRsn, wOq, wNar, wFil, wCan, wLst, wCar, wDr, wOb, wTl, wMq, wRx, wCr, wTab, wNew, wKi, wKn, wTn, wPt, sZ, sK, sS, sX, mK, mS, sC] at *; omega) | (dsimp only [sC] at *; omega) | omega)⟩, fk1.fr f2 (by intro o j hw; first | (dsimp only [wFq, wRsn, wOq, wNar, wFil, wCan, wLst, wCar, wDr, wOb, wTl, wMq, wRx, wCr, wTab, wNew, wKi, wKn, wTn, wPt, sZ, sK, sS, sX, mK, mS, sF] at *; omega) | (dsimp only [sF] at *; omega) | omega), un1.fr f2 (by intro o j hw; first | (dsimp only [wFq, wRsn, wOq, wNar, wFil, wCan, wLst, wCar, wDr, wOb, wTl, wMq, wRx, wCr, wTab, wNew, wKi, wKn, wTn, wPt, sZ, sK, sS, sX, mK, mS, sN] at *; omega) | (dsimp only [sN] at *; omega) | omega)⟩
theorem p_points {M : yM} {a : Int} (H : INV4 M) (ha : yR a) : XCi 40 93 [.inr (.inr 0), .inl a] M (fun v M1 => XCi 40 143 [.inr (.inr 92), .inl a] M1 (fun w M2 => v = w ∧ INV4 M2)) := by
  obtain ⟨⟨⟨h, g⟩, ca⟩, fk, un⟩ := H
  have hRL := h.2.2.1
  have hR1 := hRL.1
  have hR2 := hRL.2.1
  have hR3 := hRL.2.2.1
  have hR4 := hRL.2.2.2.1
  have hR5 := hRL.2.2.2.2
  have hZ := h.1.2.2.2.2.2.2.2.2.2.1
  have hTS := h.1.2.2.2.2.2.2.2.2.2.2
  have hK := h.1.1
  have hN := h.1.2.2.2.1
  refine XC.deep (c11_points (d := 0) h.1.1 ha (fun v M1 f1 q qF => ?_)) (by omega)
  have ca1 : CA M1 := CA.of ca qF
  have fk1 : FK M1 := FK.of fk qF
  rcases q with ⟨e1, n1, e0⟩ | ⟨e1, n1, z1, z4⟩
  · subst e0
    refine XC.deep (c12_points (d := 0) h.2.1.1.1 ha (fun w M2 f2 q => ?_)) (by omega)
    rcases q with ⟨e2, n2, t⟩ | ⟨e2, n2, _⟩
    · exact ⟨by omega, ⟨⟨h.m0 t, g.m0 t⟩, ca1.m0 t⟩, fk1.m0 t, un.m0 t⟩
    · omega
  · skip
    have m1 : MO M1 := h.2.1.c f1 (by intro o j hw; first | (dsimp only [wFq, wRsn, wOq, wNar, wFil, wCan, wLst, wCar, wDr, wOb, wTl, wMq, wRx, wCr, wTab, wNew, wKi, wKn, wTn, wPt, sZ, sK, sS, sX, mK, mS] at *; omega) | (dsimp only at *; omega) | omega)
    have g2 : ld M1 92 2 = ld M 92 2 := f1.ld (by (first | (dsimp only [wFq, wRsn, wOq, wNar, wFil, wCan, wLst, wCar, wDr, wOb, wTl, wMq, wRx, wCr, wTab, wNew, wKi, wKn, wTn, wPt, sZ, sK, sS, sX, mK, mS]; omega) | omega))
    have g11 : ld M1 92 11 = ld M 92 11 := f1.ld (by (first | (dsimp only [wFq, wRsn, wOq, wNar, wFil, wCan, wLst, wCar, wDr, wOb, wTl, wMq, wRx, wCr, wTab, wNew, wKi, wKn, wTn, wPt, sZ, sK, sS, sX, mK, mS]; omega) | omega))
    have g5 : ld M1 92 5 = ld M 92 5 := f1.ld (by (first | (dsimp only [wFq, wRsn, wOq, wNar, wFil, wCan, wLst, wCar, wDr, wOb, wTl, wMq, wRx, wCr, wTab, wNew, wKi, wKn, wTn, wPt, sZ, sK, sS, sX, mK, mS]; omega) | omega))
    have g93 : ∀ j, ld M1 93 j = ld M 93 j := fun j => f1.ld (by (first | (dsimp only [wFq, wRsn, wOq, wNar, wFil, wCan, wLst, wCar, wDr, wOb, wTl, wMq, wRx, wCr, wTab, wNew, wKi, wKn, wTn, wPt, sZ, sK, sS, sX, mK, mS]; omega) | omega))
    have g95 : ∀ j, ld M1 95 j = ld M 95 j := fun j => f1.ld (by (first | (dsimp only [wFq, wRsn, wOq, wNar, wFil, wCan, wLst, wCar, wDr, wOb, wTl, wMq, wRx, wCr, wTab, wNew, wKi, wKn, wTn, wPt, sZ, sK, sS, sX, mK, mS]; omega) | omega))
    have x1 : ld M1 1 0 = ld M 1 0 := f1.ld (by (first | (dsimp only [wFq, wRsn, wOq, wNar, wFil, wCan, wLst, wCar, wDr, wOb, wTl, wMq, wRx, wCr, wTab, wNew, wKi, wKn, wTn, wPt, sZ, sK, sS, sX, mK, mS]; omega) | omega))
    have x2 : ∀ j, ld M1 2 j = ld M 2 j := fun j => f1.ld (by (first | (dsimp only [wFq, wRsn, wOq, wNar, wFil, wCan, wLst, wCar, wDr, wOb, wTl, wMq, wRx, wCr, wTab, wNew, wKi, wKn, wTn, wPt, sZ, sK, sS, sX, mK, mS]; omega) | omega))
    refine XC.deep (c12_points (d := 0) m1.1.1 ha (fun w M2 f2 q => ?_)) (by omega)
    rcases q with ⟨e2, n2, t⟩ | ⟨e2, n2, y1, y3⟩
    · omega
    · have x3 : ld M2 92 2 = ld M1 92 2 := f2.ld (by (first | (dsimp only [wFq, wRsn, wOq, wNar, wFil, wCan, wLst, wCar, wDr, wOb, wTl, wMq, wRx, wCr, wTab, wNew, wKi, wKn, wTn, wPt, sZ, sK, sS, sX, mK, mS]; omega) | omega))
      have x4 : ∀ j, ld M2 93 j = ld M1 93 j := fun j => f2.ld (by (first | (dsimp only [wFq, wRsn, wOq, wNar, wFil, wCan, wLst, wCar, wDr, wOb, wTl, wMq, wRx, wCr, wTab, wNew, wKi, wKn, wTn, wPt, sZ, sK, sS, sX, mK, mS]; omega) | omega))
      have c1 : CS M1 := h.1.n f1 (by intro o j hw; first | (dsimp only [wFq, wRsn, wOq, wNar, wFil, wCan, wLst, wCar, wDr, wOb, wTl, wMq, wRx, wCr, wTab, wNew, wKi, wKn, wTn, wPt, sZ, sK, sS, sX, mK, mS] at *; omega) | (dsimp only at *; omega) | omega) (by omega) (fun j q1 q2 => by rw [x2]; exact h.1.2.1 j q1 q2) (by rw [x1]; exact h.1.2.2.1.cg (fun j _ _ => x2 j)) (by omega) (hZ.fr f1 (by intro o j hw; first | (dsimp only [wFq, wRsn, wOq, wNar, wFil, wCan, wLst, wCar, wDr, wOb, wTl, wMq, wRx, wCr, wTab, wNew, wKi, wKn, wTn, wPt, sZ, sK, sS, sX, mK, mS] at *; omega) | (dsimp only at *; omega) | omega)) (hTS.fr f1 (by (first | (dsimp only [wFq, wRsn, wOq, wNar, wFil, wCan, wLst, wCar, wDr, wOb, wTl, wMq, wRx, wCr, wTab, wNew, wKi, wKn, wTn, wPt, sZ, sK, sS, sX, mK, mS]; omega) | omega)) (fun j => by (first | (dsimp only [wFq, wRsn, wOq, wNar, wFil, wCan, wLst, wCar, wDr, wOb, wTl, wMq, wRx, wCr, wTab, wNew, wKi, wKn, wTn, wPt, sZ, sK, sS, sX, mK, mS]; omega) | omega)) (fun j => by (first | (dsimp only [wFq, wRsn, wOq, wNar, wFil, wCan, wLst, wCar, wDr, wOb, wTl, wMq, wRx, wCr, wTab, wNew, wKi, wKn, wTn, wPt, sZ, sK, sS, sX, mK, mS]; omega) | omega)))
      have c2 : CS M2 := c1.m f2 (by intro o j hw; first | (dsimp only [wFq, wRsn, wOq, wNar, wFil, wCan, wLst, wCar, wDr, wOb, wTl, wMq, wRx, wCr, wTab, wNew, wKi, wKn, wTn, wPt, sZ, sK, sS, sX, mK, mS] at *; omega) | (dsimp only at *; omega) | omega)
      have r2 : RLl M2 := hRL.n f1 (by intro o j hw; first | (dsimp only [wFq, wRsn, wOq, wNar, wFil, wCan, wLst, wCar, wDr, wOb, wTl, wMq, wRx, wCr, wTab, wNew, wKi, wKn, wTn, wPt, sZ, sK, sS, sX, mK, mS] at *; omega) | (dsimp only at *; omega) | omega) f2 (by intro o j hw; first | (dsimp only [wFq, wRsn, wOq, wNar, wFil, wCan, wLst, wCar, wDr, wOb, wTl, wMq, wRx, wCr, wTab, wNew, wKi, wKn, wTn, wPt, sZ, sK, sS, sX, mK, mS] at *; omega) | (dsimp only at *; omega) | omega) (by omega) (by omega) (fun j q1 q2 => by rw [x2, x4, g93]; exact hR4 j q1 (by omega))
      have n2 : NF M2 := z4.fr f2 (by (first | (dsimp only [wFq, wRsn, wOq, wNar, wFil, wCan, wLst, wCar, wDr, wOb, wTl, wMq, wRx, wCr, wTab, wNew, wKi, wKn, wTn, wPt, sZ, sK, sS, sX, mK, mS]; omega) | omega)) (fun j => by (first | (dsimp only [wFq, wRsn, wOq, wNar, wFil, wCan, wLst, wCar, wDr, wOb, wTl, wMq, wRx, wCr, wTab, wNew, wKi, wKn, wTn, wPt, sZ, sK, sS, sX, mK, mS]; omega) | omega))
      exact ⟨by omega, ⟨⟨⟨c2, ⟨m1.1.n f2 (by intro o j hw; first | (dsimp only [wFq, wRsn, wOq, wNar, wFil, wCan, wLst, wCar, wDr, wOb, wTl, wMq, wRx, wCr, wTab, wNew, wKi, wKn, wTn, wPt, sZ, sK, sS, sX, mK, mS] at *; omega) | (dsimp only at *; omega) | omega) (by omega) (fun j q1 q2 => by rw [x4]; exact m1.1.2.1 j q1 q2) (by rw [x3]; exact m1.1.2.2.1.cg (fun j _ _ => x4 j)) (by omega), MB.of y3 (by omega), m1.2.2.1.q f2 (fun j => by (first | (dsimp only [wFq, wRsn, wOq, wNar, wFil, wCan, wLst, wCar, wDr, wOb, wTl, wMq, wRx, wCr, wTab, wNew, wKi, wKn, wTn, wPt, sZ, sK, sS, sX, mK, mS]; omega) | omega)), m1.2.2.2.1.q f2 (by (first | (dsimp only [wFq, wRsn, wOq, wNar, wFil, wCan, wLst, wCar, wDr, wOb, wTl, wMq, wRx, wCr, wTab, wNew, wKi, wKn, wTn, wPt, sZ, sK, sS, sX, mK, mS]; omega) | omega)), m1.2.2.2.2.fr f2 (fun j => by (first | (dsimp only [wFq, wRsn, wOq, wNar, wFil, wCan, wLst, wCar, wDr, wOb, wTl, wMq, wRx, wCr, wTab, wNew, wKi, wKn, wTn, wPt, sZ, sK, sS, sX, mK, mS]; omega) | omega))⟩, r2, NQ.of n2 y3 r2.1, NL.of n2 c2.1 c2.2.2.1⟩, (g.fr f1 (by intro o j hw; refine ⟨?_, ?_, ?_, ?_⟩ <;> first | (dsimp only [wFq, wRsn, wOq, wNar, wFil, wCan, wLst, wCar, wDr, wOb, wTl, wMq, wRx, wCr, wTab, wNew, wKi, wKn, wTn, wPt, sZ, sK, sS, sX, mK, mS, sT, sU] at *; omega) | (dsimp only [sT, sU] at *; omega) | omega)).fr f2 (by intro o j hw; refine ⟨?_, ?_, ?_, ?_⟩ <;> first | (dsimp only [wFq, wRsn, wOq, wNar, wFil, wCan, wLst, wCar, wDr, wOb, wTl, wMq, wRx, wCr, wTab, wNew, wKi, wKn, wTn, wPt, sZ, sK, sS, sX, mK, mS, sT, sU] at *; omega) | (dsimp only [sT, sU] at *; omega) | omega)⟩, ca1.fr f2 (by intro o j hw; first | (dsimp only [wFq, wRsn, wOq, wNar, wFil, wCan, wLst, wCar, wDr, wOb, wTl, wMq, wRx, wCr, wTab, wNew, wKi, wKn, wTn, wPt, sZ, sK, sS, sX, mK, mS, sC] at *; omega) | (dsimp only [sC] at *; omega) | omega)⟩, fk1.fr f2 (by intro o j hw; first | (dsimp only [wFq, wRsn, wOq, wNar, wFil, wCan, wLst, wCar, wDr, wOb, wTl, wMq, wRx, wCr, wTab, wNew, wKi, wKn, wTn, wPt, sZ, sK, sS, sX, mK, mS, sF] at *; omega) | (dsimp only [sF] at *; omega) | omega), (un.fr f1 (by intro o j hw; first | (dsimp only [wFq, wRsn, wOq, wNar, wFil, wCan, wLst, wCar, wDr, wOb, wTl, wMq, wRx, wCr, wTab, wNew, wKi, wKn, wTn, wPt, sZ, sK, sS, sX, mK, mS, sN] at *; omega) | (dsimp only [sN] at *; omega) | omega)).fr f2 (by intro o j hw; first | (dsimp only [wFq, wRsn, wOq, wNar, wFil, wCan, wLst, wCar, wDr, wOb, wTl, wMq, wRx, wCr, wTab, wNew, wKi, wKn, wTn, wPt, sZ, sK, sS, sX, mK, mS, sN] at *; omega) | (dsimp only [sN] at *; omega) | omega)⟩
theorem p_keep {M : yM}  (H : INV4 M)  : XCi 40 91 [.inr (.inr 0)] M (fun v M1 => XCi 40 141 [.inr (.inr 92)] M1 (fun w M2 => v = w ∧ INV4 M2)) := by
  obtain ⟨⟨⟨h, g⟩, ca⟩, fk, un⟩ := H
  have hRL := h.2.2.1
  have hR1 := hRL.1
  have hR2 := hRL.2.1
  have hR3 := hRL.2.2.1
  have hR4 := hRL.2.2.2.1
  have hR5 := hRL.2.2.2.2
  have hZ := h.1.2.2.2.2.2.2.2.2.2.1
  have hTS := h.1.2.2.2.2.2.2.2.2.2.2
  have hK := h.1.1
  have hN := h.1.2.2.2.1
  refine XC.deep (c11_keep (d := 0) h.1.1 h.1.2.1 hZ.2.1 (fun v M1 f1 e1 z1 z2 z5 z9 => ?_)) (by omega)
  have m1 : MO M1 := h.2.1.c f1 (by intro o j hw; first | (dsimp only [wFq, wRsn, wOq, wNar, wFil, wCan, wLst, wCar, wDr, wOb, wTl, wMq, wRx, wCr, wTab, wNew, wKi, wKn, wTn, wPt, sZ, sK, sS, sX, mK, mS] at *; omega) | (dsimp only at *; omega) | omega)
  have g2 : ld M1 92 2 = ld M 92 2 := f1.ld (by (first | (dsimp only [wFq, wRsn, wOq, wNar, wFil, wCan, wLst, wCar, wDr, wOb, wTl, wMq, wRx, wCr, wTab, wNew, wKi, wKn, wTn, wPt, sZ, sK, sS, sX, mK, mS]; omega) | omega))
  have g11 : ld M1 92 11 = ld M 92 11 := f1.ld (by (first | (dsimp only [wFq, wRsn, wOq, wNar, wFil, wCan, wLst, wCar, wDr, wOb, wTl, wMq, wRx, wCr, wTab, wNew, wKi, wKn, wTn, wPt, sZ, sK, sS, sX, mK, mS]; omega) | omega))
  have g5 : ld M1 92 5 = ld M 92 5 := f1.ld (by (first | (dsimp only [wFq, wRsn, wOq, wNar, wFil, wCan, wLst, wCar, wDr, wOb, wTl, wMq, wRx, wCr, wTab, wNew, wKi, wKn, wTn, wPt, sZ, sK, sS, sX, mK, mS]; omega) | omega))
  have g93 : ∀ j, ld M1 93 j = ld M 93 j := fun j => f1.ld (by (first | (dsimp only [wFq, wRsn, wOq, wNar, wFil, wCan, wLst, wCar, wDr, wOb, wTl, wMq, wRx, wCr, wTab, wNew, wKi, wKn, wTn, wPt, sZ, sK, sS, sX, mK, mS]; omega) | omega))
  have g95 : ∀ j, ld M1 95 j = ld M 95 j := fun j => f1.ld (by (first | (dsimp only [wFq, wRsn, wOq, wNar, wFil, wCan, wLst, wCar, wDr, wOb, wTl, wMq, wRx, wCr, wTab, wNew, wKi, wKn, wTn, wPt, sZ, sK, sS, sX, mK, mS]; omega) | omega))
  have x1 : ld M1 1 0 = ld M 1 0 := f1.ld (by (first | (dsimp only [wFq, wRsn, wOq, wNar, wFil, wCan, wLst, wCar, wDr, wOb, wTl, wMq, wRx, wCr, wTab, wNew, wKi, wKn, wTn, wPt, sZ, sK, sS, sX, mK, mS]; omega) | omega))
  have x2 : ∀ j, ld M1 2 j = ld M 2 j := fun j => f1.ld (by (first | (dsimp only [wFq, wRsn, wOq, wNar, wFil, wCan, wLst, wCar, wDr, wOb, wTl, wMq, wRx, wCr, wTab, wNew, wKi, wKn, wTn, wPt, sZ, sK, sS, sX, mK, mS]; omega) | omega))
  have x3 : ld M1 19 0 = ld M 19 0 := f1.ld (by (first | (dsimp only [wFq, wRsn, wOq, wNar, wFil, wCan, wLst, wCar, wDr, wOb, wTl, wMq, wRx, wCr, wTab, wNew, wKi, wKn, wTn, wPt, sZ, sK, sS, sX, mK, mS]; omega) | omega))
  have x4 : ld M1 77 1 = ld M 77 1 := f1.ld (by (first | (dsimp only [wFq, wRsn, wOq, wNar, wFil, wCan, wLst, wCar, wDr, wOb, wTl, wMq, wRx, wCr, wTab, wNew, wKi, wKn, wTn, wPt, sZ, sK, sS, sX, mK, mS]; omega) | omega))
  have x5 : ld M1 65 7 = ld M 65 7 := f1.ld (by (first | (dsimp only [wFq, wRsn, wOq, wNar, wFil, wCan, wLst, wCar, wDr, wOb, wTl, wMq, wRx, wCr, wTab, wNew, wKi, wKn, wTn, wPt, sZ, sK, sS, sX, mK, mS]; omega) | omega))
  refine XC.deep (c12_keep (d := 0) m1.1.1 (fun w M2 f2 e2 y1 y2 y9 => ?_)) (by omega)
  have g94 : ∀ j, ld M1 94 j = ld M 94 j := fun j => f1.ld (by (first | (dsimp only [wFq, wRsn, wOq, wNar, wFil, wCan, wLst, wCar, wDr, wOb, wTl, wMq, wRx, wCr, wTab, wNew, wKi, wKn, wTn, wPt, sZ, sK, sS, sX, mK, mS]; omega) | omega))
  have tx2 : TX M2 := by
    refine ⟨(g.1.fr f1 (by intro o j hw; first | (dsimp only [wFq, wRsn, wOq, wNar, wFil, wCan, wLst, wCar, wDr, wOb, wTl, wMq, wRx, wCr, wTab, wNew, wKi, wKn, wTn, wPt, sZ, sK, sS, sX, mK, mS, sT, sU] at *; omega) | (dsimp only [sT, sU] at *; omega) | omega)).fr f2 (by intro o j hw; first | (dsimp only [wFq, wRsn, wOq, wNar, wFil, wCan, wLst, wCar, wDr, wOb, wTl, wMq, wRx, wCr, wTab, wNew, wKi, wKn, wTn, wPt, sZ, sK, sS, sX, mK, mS, sT, sU] at *; omega) | (dsimp only [sT, sU] at *; omega) | omega), TXs.fr (M := M1) ⟨fun _ => ?_, ?_, ?_⟩ f2 (by intro o j hw; first | (dsimp only [wFq, wRsn, wOq, wNar, wFil, wCan, wLst, wCar, wDr, wOb, wTl, wMq, wRx, wCr, wTab, wNew, wKi, wKn, wTn, wPt, sZ, sK, sS, sX, mK, mS, sT, sU] at *; omega) | (dsimp only [sT, sU] at *; omega) | omega), (g.2.2.1.fr f1 (by (first | (dsimp only [wFq, wRsn, wOq, wNar, wFil, wCan, wLst, wCar, wDr, wOb, wTl, wMq, wRx, wCr, wTab, wNew, wKi, wKn, wTn, wPt, sZ, sK, sS, sX, mK, mS]; omega) | omega)) (fun j => by (first | (dsimp only [wFq, wRsn, wOq, wNar, wFil, wCan, wLst, wCar, wDr, wOb, wTl, wMq, wRx, wCr, wTab, wNew, wKi, wKn, wTn, wPt, sZ, sK, sS, sX, mK, mS]; omega) | omega)) (fun j => by (first | (dsimp only [wFq, wRsn, wOq, wNar, wFil, wCan, wLst, wCar, wDr, wOb, wTl, wMq, wRx, wCr, wTab, wNew, wKi, wKn, wTn, wPt, sZ, sK, sS, sX, mK, mS]; omega) | omega))).fr f2 (by (first | (dsimp only [wFq, wRsn, wOq, wNar, wFil, wCan, wLst, wCar, wDr, wOb, wTl, wMq, wRx, wCr, wTab, wNew, wKi, wKn, wTn, wPt, sZ, sK, sS, sX, mK, mS]; omega) | omega)) (fun j => by (first | (dsimp only [wFq, wRsn, wOq, wNar, wFil, wCan, wLst, wCar, wDr, wOb, wTl, wMq, wRx, wCr, wTab, wNew, wKi, wKn, wTn, wPt, sZ, sK, sS, sX, mK, mS]; omega) | omega)) (fun j => by (first | (dsimp only [wFq, wRsn, wOq, wNar, wFil, wCan, wLst, wCar, wDr, wOb, wTl, wMq, wRx, wCr, wTab, wNew, wKi, wKn, wTn, wPt, sZ, sK, sS, sX, mK, mS]; omega) | omega)), fun p q a1 a2 b1 b2 => ?_⟩
    · rw [z2 0 (by omega) (by omega)]; exact g.1.1
    · rw [z1]; exact g.1.2.1.cg (fun p q a1 a2 b1 b2 => z9 _ (by omega) (by omega))
    · rw [z1]; exact g.1.2.2.1.cg h.1.2.2.1 (fun p q a1 a2 b1 b2 => z9 _ (by omega) (by omega)) (fun p a1 a2 => z2 p a1 (by omega))
    · have k7 : ld M2 7 0 = ld M1 7 0 := f2.ld (by (first | (dsimp only [wFq, wRsn, wOq, wNar, wFil, wCan, wLst, wCar, wDr, wOb, wTl, wMq, wRx, wCr, wTab, wNew, wKi, wKn, wTn, wPt, sZ, sK, sS, sX, mK, mS]; omega) | omega))
      rw [k7, z1] at a2 b2
      rw [f2.ld (by (first | (dsimp only [wFq, wRsn, wOq, wNar, wFil, wCan, wLst, wCar, wDr, wOb, wTl, wMq, wRx, wCr, wTab, wNew, wKi, wKn, wTn, wPt, sZ, sK, sS, sX, mK, mS]; omega) | omega)), z9 _ (by omega) (by omega), y9 _ (by omega) (by omega), g94]
      exact g.2.2.1 p q a1 a2 b1 b2
  have u1 : ld M2 92 2 = ld M1 92 2 := f2.ld (by (first | (dsimp only [wFq, wRsn, wOq, wNar, wFil, wCan, wLst, wCar, wDr, wOb, wTl, wMq, wRx, wCr, wTab, wNew, wKi, wKn, wTn, wPt, sZ, sK, sS, sX, mK, mS]; omega) | omega))
  have u2 : ∀ j, ld M2 93 j = ld M1 93 j := fun j => f2.ld (by (first | (dsimp only [wFq, wRsn, wOq, wNar, wFil, wCan, wLst, wCar, wDr, wOb, wTl, wMq, wRx, wCr, wTab, wNew, wKi, wKn, wTn, wPt, sZ, sK, sS, sX, mK, mS]; omega) | omega))
  have u3 : ld M2 92 11 = ld M1 92 11 := f2.ld (by (first | (dsimp only [wFq, wRsn, wOq, wNar, wFil, wCan, wLst, wCar, wDr, wOb, wTl, wMq, wRx, wCr, wTab, wNew, wKi, wKn, wTn, wPt, sZ, sK, sS, sX, mK, mS]; omega) | omega))
  have u4 : ld M2 1 0 = ld M1 1 0 := f2.ld (by (first | (dsimp only [wFq, wRsn, wOq, wNar, wFil, wCan, wLst, wCar, wDr, wOb, wTl, wMq, wRx, wCr, wTab, wNew, wKi, wKn, wTn, wPt, sZ, sK, sS, sX, mK, mS]; omega) | omega))
  have u5 : ∀ j, ld M2 2 j = ld M1 2 j := fun j => f2.ld (by (first | (dsimp only [wFq, wRsn, wOq, wNar, wFil, wCan, wLst, wCar, wDr, wOb, wTl, wMq, wRx, wCr, wTab, wNew, wKi, wKn, wTn, wPt, sZ, sK, sS, sX, mK, mS]; omega) | omega))
  have u6 : ld M2 19 0 = ld M1 19 0 := f2.ld (by (first | (dsimp only [wFq, wRsn, wOq, wNar, wFil, wCan, wLst, wCar, wDr, wOb, wTl, wMq, wRx, wCr, wTab, wNew, wKi, wKn, wTn, wPt, sZ, sK, sS, sX, mK, mS]; omega) | omega))
  have u7 : ld M2 7 0 = ld M1 7 0 := f2.ld (by (first | (dsimp only [wFq, wRsn, wOq, wNar, wFil, wCan, wLst, wCar, wDr, wOb, wTl, wMq, wRx, wCr, wTab, wNew, wKi, wKn, wTn, wPt, sZ, sK, sS, sX, mK, mS]; omega) | omega))
  have u8 : ∀ j, ld M2 8 j = ld M1 8 j := fun j => f2.ld (by (first | (dsimp only [wFq, wRsn, wOq, wNar, wFil, wCan, wLst, wCar, wDr, wOb, wTl, wMq, wRx, wCr, wTab, wNew, wKi, wKn, wTn, wPt, sZ, sK, sS, sX, mK, mS]; omega) | omega))
  have nq : NQ M2 := (h.2.2.2.1.fr f1 (fun j => by (first | (dsimp only [wFq, wRsn, wOq, wNar, wFil, wCan, wLst, wCar, wDr, wOb, wTl, wMq, wRx, wCr, wTab, wNew, wKi, wKn, wTn, wPt, sZ, sK, sS, sX, mK, mS]; omega) | omega)) (fun j _ _ => by (first | (dsimp only [wFq, wRsn, wOq, wNar, wFil, wCan, wLst, wCar, wDr, wOb, wTl, wMq, wRx, wCr, wTab, wNew, wKi, wKn, wTn, wPt, sZ, sK, sS, sX, mK, mS]; omega) | omega))).fr f2 (fun j => by (first | (dsimp only [wFq, wRsn, wOq, wNar, wFil, wCan, wLst, wCar, wDr, wOb, wTl, wMq, wRx, wCr, wTab, wNew, wKi, wKn, wTn, wPt, sZ, sK, sS, sX, mK, mS]; omega) | omega)) (fun j _ _ => by (first | (dsimp only [wFq, wRsn, wOq, wNar, wFil, wCan, wLst, wCar, wDr, wOb, wTl, wMq, wRx, wCr, wTab, wNew, wKi, wKn, wTn, wPt, sZ, sK, sS, sX, mK, mS]; omega) | omega))
  have nl : NL M2 := (h.2.2.2.2.fr f1 (fun j => by (first | (dsimp only [wFq, wRsn, wOq, wNar, wFil, wCan, wLst, wCar, wDr, wOb, wTl, wMq, wRx, wCr, wTab, wNew, wKi, wKn, wTn, wPt, sZ, sK, sS, sX, mK, mS]; omega) | omega)) (fun j => by (first | (dsimp only [wFq, wRsn, wOq, wNar, wFil, wCan, wLst, wCar, wDr, wOb, wTl, wMq, wRx, wCr, wTab, wNew, wKi, wKn, wTn, wPt, sZ, sK, sS, sX, mK, mS]; omega) | omega)) (by (first | (dsimp only [wFq, wRsn, wOq, wNar, wFil, wCan, wLst, wCar, wDr, wOb, wTl, wMq, wRx, wCr, wTab, wNew, wKi, wKn, wTn, wPt, sZ, sK, sS, sX, mK, mS]; omega) | omega))).fr f2 (fun j => by (first | (dsimp only [wFq, wRsn, wOq, wNar, wFil, wCan, wLst, wCar, wDr, wOb, wTl, wMq, wRx, wCr, wTab, wNew, wKi, wKn, wTn, wPt, sZ, sK, sS, sX, mK, mS]; omega) | omega)) (fun j => by (first | (dsimp only [wFq, wRsn, wOq, wNar, wFil, wCan, wLst, wCar, wDr, wOb, wTl, wMq, wRx, wCr, wTab, wNew, wKi, wKn, wTn, wPt, sZ, sK, sS, sX, mK, mS]; omega) | omega)) (by (first | (dsimp only [wFq, wRsn, wOq, wNar, wFil, wCan, wLst, wCar, wDr, wOb, wTl, wMq, wRx, wCr, wTab, wNew, wKi, wKn, wTn, wPt, sZ, sK, sS, sX, mK, mS]; omega) | omega))
  have zz : Z3 M1 := ⟨by rw [f1.ld (by (first | (dsimp only [wFq, wRsn, wOq, wNar, wFil, wCan, wLst, wCar, wDr, wOb, wTl, wMq, wRx, wCr, wTab, wNew, wKi, wKn, wTn, wPt, sZ, sK, sS, sX, mK, mS]; omega) | omega))]; exact hZ.1, z5, by rw [f1.ld (by (first | (dsimp only [wFq, wRsn, wOq, wNar, wFil, wCan, wLst, wCar, wDr, wOb, wTl, wMq, wRx, wCr, wTab, wNew, wKi, wKn, wTn, wPt, sZ, sK, sS, sX, mK, mS]; omega) | omega))]; exact hZ.2.2⟩
  have ts : TS M1 := hTS.fr f1 (by (first | (dsimp only [wFq, wRsn, wOq, wNar, wFil, wCan, wLst, wCar, wDr, wOb, wTl, wMq, wRx, wCr, wTab, wNew, wKi, wKn, wTn, wPt, sZ, sK, sS, sX, mK, mS]; omega) | omega)) (fun j => by (first | (dsimp only [wFq, wRsn, wOq, wNar, wFil, wCan, wLst, wCar, wDr, wOb, wTl, wMq, wRx, wCr, wTab, wNew, wKi, wKn, wTn, wPt, sZ, sK, sS, sX, mK, mS]; omega) | omega)) (fun j => by (first | (dsimp only [wFq, wRsn, wOq, wNar, wFil, wCan, wLst, wCar, wDr, wOb, wTl, wMq, wRx, wCr, wTab, wNew, wKi, wKn, wTn, wPt, sZ, sK, sS, sX, mK, mS]; omega) | omega))
  obtain ⟨⟨a1, a2, a3, a4, a5, a6, a7, a8, a9, a10, a11⟩, hm, hr⟩ := h
  have c1 : CS M1 := ⟨by omega, fun j q1 q2 => by rw [x2]; exact a2 j q1 q2, by rw [x1]; exact a3.cg (fun j _ _ => x2 j), by omega, by omega, fun j q1 q2 => by rw [z2 j q1 q2]; exact a2 j q1 q2, by rw [z1]; exact a3.cg (fun j q1 q2 => z2 j q1 (by omega)), by omega, by omega, zz, ts⟩
  refine ⟨by omega, ⟨⟨⟨c1.m f2 (by intro o j hw; first | (dsimp only [wFq, wRsn, wOq, wNar, wFil, wCan, wLst, wCar, wDr, wOb, wTl, wMq, wRx, wCr, wTab, wNew, wKi, wKn, wTn, wPt, sZ, sK, sS, sX, mK, mS] at *; omega) | (dsimp only at *; omega) | omega), ⟨⟨by omega, fun j q1 q2 => by rw [u2]; exact m1.1.2.1 j q1 q2, by rw [u1]; exact m1.1.2.2.1.cg (fun j _ _ => u2 j), by have := m1.1.2.2.2.1; omega, by omega, by rw [y1]; exact m1.1.2.2.1.cg (fun j q1 q2 => y2 j q1 (by have := m1.1.1; omega))⟩, m1.2.1.q f2 (fun j _ _ => by omega), m1.2.2.1.q f2 (fun j => by (first | (dsimp only [wFq, wRsn, wOq, wNar, wFil, wCan, wLst, wCar, wDr, wOb, wTl, wMq, wRx, wCr, wTab, wNew, wKi, wKn, wTn, wPt, sZ, sK, sS, sX, mK, mS]; omega) | omega)), m1.2.2.2.1.q f2 (by (first | (dsimp only [wFq, wRsn, wOq, wNar, wFil, wCan, wLst, wCar, wDr, wOb, wTl, wMq, wRx, wCr, wTab, wNew, wKi, wKn, wTn, wPt, sZ, sK, sS, sX, mK, mS]; omega) | omega)), m1.2.2.2.2.fr f2 (fun j => by (first | (dsimp only [wFq, wRsn, wOq, wNar, wFil, wCan, wLst, wCar, wDr, wOb, wTl, wMq, wRx, wCr, wTab, wNew, wKi, wKn, wTn, wPt, sZ, sK, sS, sX, mK, mS]; omega) | omega))⟩, ⟨by omega, by omega, by omega, fun j q1 q2 => by rw [u5, u2, x2, g93]; exact hR4 j q1 (by omega), fun j q1 q2 => by rw [u8, z2 j q1 (by omega), y2 j q1 (by omega), g93]; exact hR4 j q1 (by omega)⟩, nq, nl⟩, tx2⟩, (ca.fr f1 (by intro o j hw; first | (dsimp only [wFq, wRsn, wOq, wNar, wFil, wCan, wLst, wCar, wDr, wOb, wTl, wMq, wRx, wCr, wTab, wNew, wKi, wKn, wTn, wPt, sZ, sK, sS, sX, mK, mS, sC] at *; omega) | (dsimp only [sC] at *; omega) | omega)).fr f2 (by intro o j hw; first | (dsimp only [wFq, wRsn, wOq, wNar, wFil, wCan, wLst, wCar, wDr, wOb, wTl, wMq, wRx, wCr, wTab, wNew, wKi, wKn, wTn, wPt, sZ, sK, sS, sX, mK, mS, sC] at *; omega) | (dsimp only [sC] at *; omega) | omega)⟩, (fk.fr f1 (by intro o j hw; first | (dsimp only [wFq, wRsn, wOq, wNar, wFil, wCan, wLst, wCar, wDr, wOb, wTl, wMq, wRx, wCr, wTab, wNew, wKi, wKn, wTn, wPt, sZ, sK, sS, sX, mK, mS, sF] at *; omega) | (dsimp only [sF] at *; omega) | omega)).fr f2 (by intro o j hw; first | (dsimp only [wFq, wRsn, wOq, wNar, wFil, wCan, wLst, wCar, wDr, wOb, wTl, wMq, wRx, wCr, wTab, wNew, wKi, wKn, wTn, wPt, sZ, sK, sS, sX, mK, mS, sF] at *; omega) | (dsimp only [sF] at *; omega) | omega), UN.fr (M := M1) ⟨by rw [x1, show ld M1 3 = ld M 3 from funext fun j => f1.ld (by (first | (dsimp only [wFq, wRsn, wOq, wNar, wFil, wCan, wLst, wCar, wDr, wOb, wTl, wMq, wRx, wCr, wTab, wNew, wKi, wKn, wTn, wPt, sZ, sK, sS, sX, mK, mS]; omega) | omega))]; exact un.1, by rw [z1]; exact un.1.cu (fun b b1 b2 => z9 _ (by omega) (by omega))⟩ f2 (by intro o j hw; first | (dsimp only [wFq, wRsn, wOq, wNar, wFil, wCan, wLst, wCar, wDr, wOb, wTl, wMq, wRx, wCr, wTab, wNew, wKi, wKn, wTn, wPt, sZ, sK, sS, sX, mK, mS, sN] at *; omega) | (dsimp only [sN] at *; omega) | omega)⟩
theorem p_type {M : yM} {t a : Int} (H : INV4 M) (ha : yR a) : XCi 40 101 [.inr (.inr 0), .inr (.inl t), .inl a] M (fun v M1 => XCi 40 162 [.inr (.inr 92), .inr (.inl t), .inl a] M1 (fun w M2 => INV4 M2)) := by
  obtain ⟨⟨⟨h, g⟩, ca⟩, fk, un⟩ := H
  have hl := h.1.2.2.2.2.2.2.2.1
  refine XC.deep (c11_type (d := 0) h.1.2.2.2.2.2.2.2.1 ha (fun v M1 f1 q => ?_)) (by omega)
  have h77 : 0 ≤ ld M1 77 1 ∧ ld M1 77 1 ≤ 60 := by
    rcases q with q | q | q
    · rw [q.2.2]; exact hl
    · rw [q.2.2.2]; exact hl
    · omega
  have h1 : INV M1 := h.c f1 (by intro o j hw; first | (dsimp only [wFq, wRsn, wOq, wNar, wFil, wCan, wLst, wCar, wDr, wOb, wTl, wMq, wRx, wCr, wTab, wNew, wKi, wKn, wTn, wPt, sZ, sK, sS, sX, mK, mS] at *; omega) | (dsimp only at *; omega) | omega) h77 (by rw [f1.ld (by (first | (dsimp only [wFq, wRsn, wOq, wNar, wFil, wCan, wLst, wCar, wDr, wOb, wTl, wMq, wRx, wCr, wTab, wNew, wKi, wKn, wTn, wPt, sZ, sK, sS, sX, mK, mS]; omega) | omega))]; exact h.1.2.2.2.2.2.2.2.2.1) (h.1.2.2.2.2.2.2.2.2.2.1.fr f1 (by intro o j hw; first | (dsimp only [wFq, wRsn, wOq, wNar, wFil, wCan, wLst, wCar, wDr, wOb, wTl, wMq, wRx, wCr, wTab, wNew, wKi, wKn, wTn, wPt, sZ, sK, sS, sX, mK, mS] at *; omega) | (dsimp only at *; omega) | omega)) (h.1.2.2.2.2.2.2.2.2.2.2.fr f1 (by (first | (dsimp only [wFq, wRsn, wOq, wNar, wFil, wCan, wLst, wCar, wDr, wOb, wTl, wMq, wRx, wCr, wTab, wNew, wKi, wKn, wTn, wPt, sZ, sK, sS, sX, mK, mS]; omega) | omega)) (fun j => by (first | (dsimp only [wFq, wRsn, wOq, wNar, wFil, wCan, wLst, wCar, wDr, wOb, wTl, wMq, wRx, wCr, wTab, wNew, wKi, wKn, wTn, wPt, sZ, sK, sS, sX, mK, mS]; omega) | omega)) (fun j => by (first | (dsimp only [wFq, wRsn, wOq, wNar, wFil, wCan, wLst, wCar, wDr, wOb, wTl, wMq, wRx, wCr, wTab, wNew, wKi, wKn, wTn, wPt, sZ, sK, sS, sX, mK, mS]; omega) | omega)))
  refine XC.deep (c12_type (d := 0) h1.2.1.2.2.2.1 ha (fun w M2 f2 q => ?_)) (by omega)
  have hm := h1.2.1.2.2.2.1
  refine ⟨⟨⟨?_, (g.fr f1 (by intro o j hw; refine ⟨?_, ?_, ?_, ?_⟩ <;> first | (dsimp only [wFq, wRsn, wOq, wNar, wFil, wCan, wLst, wCar, wDr, wOb, wTl, wMq, wRx, wCr, wTab, wNew, wKi, wKn, wTn, wPt, sZ, sK, sS, sX, mK, mS, sT, sU] at *; omega) | (dsimp only [sT, sU] at *; omega) | omega)).fr f2 (by intro o j hw; refine ⟨?_, ?_, ?_, ?_⟩ <;> first | (dsimp only [wFq, wRsn, wOq, wNar, wFil, wCan, wLst, wCar, wDr, wOb, wTl, wMq, wRx, wCr, wTab, wNew, wKi, wKn, wTn, wPt, sZ, sK, sS, sX, mK, mS, sT, sU] at *; omega) | (dsimp only [sT, sU] at *; omega) | omega)⟩, (ca.fr f1 (by intro o j hw; first | (dsimp only [wFq, wRsn, wOq, wNar, wFil, wCan, wLst, wCar, wDr, wOb, wTl, wMq, wRx, wCr, wTab, wNew, wKi, wKn, wTn, wPt, sZ, sK, sS, sX, mK, mS, sC] at *; omega) | (dsimp only [sC] at *; omega) | omega)).fr f2 (by intro o j hw; first | (dsimp only [wFq, wRsn, wOq, wNar, wFil, wCan, wLst, wCar, wDr, wOb, wTl, wMq, wRx, wCr, wTab, wNew, wKi, wKn, wTn, wPt, sZ, sK, sS, sX, mK, mS, sC] at *; omega) | (dsimp only [sC] at *; omega) | omega)⟩, (fk.fr f1 (by intro o j hw; first | (dsimp only [wFq, wRsn, wOq, wNar, wFil, wCan, wLst, wCar, wDr, wOb, wTl, wMq, wRx, wCr, wTab, wNew, wKi, wKn, wTn, wPt, sZ, sK, sS, sX, mK, mS, sF] at *; omega) | (dsimp only [sF] at *; omega) | omega)).fr f2 (by intro o j hw; first | (dsimp only [wFq, wRsn, wOq, wNar, wFil, wCan, wLst, wCar, wDr, wOb, wTl, wMq, wRx, wCr, wTab, wNew, wKi, wKn, wTn, wPt, sZ, sK, sS, sX, mK, mS, sF] at *; omega) | (dsimp only [sF] at *; omega) | omega), (un.fr f1 (by intro o j hw; first | (dsimp only [wFq, wRsn, wOq, wNar, wFil, wCan, wLst, wCar, wDr, wOb, wTl, wMq, wRx, wCr, wTab, wNew, wKi, wKn, wTn, wPt, sZ, sK, sS, sX, mK, mS, sN] at *; omega) | (dsimp only [sN] at *; omega) | omega)).fr f2 (by intro o j hw; first | (dsimp only [wFq, wRsn, wOq, wNar, wFil, wCan, wLst, wCar, wDr, wOb, wTl, wMq, wRx, wCr, wTab, wNew, wKi, wKn, wTn, wPt, sZ, sK, sS, sX, mK, mS, sN] at *; omega) | (dsimp only [sN] at *; omega) | omega)⟩
  refine h1.m f2 (by intro o j hw; first | (dsimp only [wFq, wRsn, wOq, wNar, wFil, wCan, wLst, wCar, wDr, wOb, wTl, wMq, wRx, wCr, wTab, wNew, wKi, wKn, wTn, wPt, sZ, sK, sS, sX, mK, mS] at *; omega) | (dsimp only at *; omega) | omega) (h1.2.1.2.1.q f2 (fun j _ _ => by omega)) (h1.2.1.2.2.1.q f2 (fun j => by omega)) ?_ (h1.2.1.2.2.2.2.fr f2 (fun j => by omega)) (h1.2.2.2.1.fr f2 (fun j => by omega) (fun j _ _ => by omega))
  unfold MT at hm ⊢
  rcases q with q | q | q
  · rw [q.2.2.ld (by omega)]; exact hm
  · rw [q.2.2.2.ld (by omega)]; exact hm
  · omega
theorem p_clear {M : yM} (H : INV4 M) : XCi 40 102 [.inr (.inr 0)] M (fun v M1 => XCi 40 163 [.inr (.inr 92)] M1 (fun w M2 => INV4 M2)) := by
  obtain ⟨⟨⟨h, g⟩, ca⟩, fk, un⟩ := H
  refine XC.deep (c11_clear (d := 0) h.1.2.2.2.2.2.2.2.1 (fun v M1 f1 e1 z1 => ?_)) (by omega)
  have h1 : INV M1 := h.c f1 (by intro o j hw; first | (dsimp only [wFq, wRsn, wOq, wNar, wFil, wCan, wLst, wCar, wDr, wOb, wTl, wMq, wRx, wCr, wTab, wNew, wKi, wKn, wTn, wPt, sZ, sK, sS, sX, mK, mS] at *; omega) | (dsimp only at *; omega) | omega) (by omega) (by rw [f1.ld (by (first | (dsimp only [wFq, wRsn, wOq, wNar, wFil, wCan, wLst, wCar, wDr, wOb, wTl, wMq, wRx, wCr, wTab, wNew, wKi, wKn, wTn, wPt, sZ, sK, sS, sX, mK, mS]; omega) | omega))]; exact h.1.2.2.2.2.2.2.2.2.1) (h.1.2.2.2.2.2.2.2.2.2.1.fr f1 (by intro o j hw; first | (dsimp only [wFq, wRsn, wOq, wNar, wFil, wCan, wLst, wCar, wDr, wOb, wTl, wMq, wRx, wCr, wTab, wNew, wKi, wKn, wTn, wPt, sZ, sK, sS, sX, mK, mS] at *; omega) | (dsimp only at *; omega) | omega)) (h.1.2.2.2.2.2.2.2.2.2.2.fr f1 (by (first | (dsimp only [wFq, wRsn, wOq, wNar, wFil, wCan, wLst, wCar, wDr, wOb, wTl, wMq, wRx, wCr, wTab, wNew, wKi, wKn, wTn, wPt, sZ, sK, sS, sX, mK, mS]; omega) | omega)) (fun j => by (first | (dsimp only [wFq, wRsn, wOq, wNar, wFil, wCan, wLst, wCar, wDr, wOb, wTl, wMq, wRx, wCr, wTab, wNew, wKi, wKn, wTn, wPt, sZ, sK, sS, sX, mK, mS]; omega) | omega)) (fun j => by (first | (dsimp only [wFq, wRsn, wOq, wNar, wFil, wCan, wLst, wCar, wDr, wOb, wTl, wMq, wRx, wCr, wTab, wNew, wKi, wKn, wTn, wPt, sZ, sK, sS, sX, mK, mS]; omega) | omega)))
  refine XC.deep (c12_clear (d := 0) h1.2.1.2.2.2.1 (fun w M2 f2 e2 y1 => ?_)) (by omega)
  exact ⟨⟨⟨h1.m f2 (by intro o j hw; first | (dsimp only [wFq, wRsn, wOq, wNar, wFil, wCan, wLst, wCar, wDr, wOb, wTl, wMq, wRx, wCr, wTab, wNew, wKi, wKn, wTn, wPt, sZ, sK, sS, sX, mK, mS] at *; omega) | (dsimp only at *; omega) | omega) (h1.2.1.2.1.q f2 (fun j _ _ => by omega)) (h1.2.1.2.2.1.q f2 (fun j => by omega)) ⟨by omega, by omega⟩ (h1.2.1.2.2.2.2.fr f2 (fun j => by omega)) (h1.2.2.2.1.fr f2 (fun j => by omega) (fun j _ _ => by omega)), (g.fr f1 (by intro o j hw; refine ⟨?_, ?_, ?_, ?_⟩ <;> first | (dsimp only [wFq, wRsn, wOq, wNar, wFil, wCan, wLst, wCar, wDr, wOb, wTl, wMq, wRx, wCr, wTab, wNew, wKi, wKn, wTn, wPt, sZ, sK, sS, sX, mK, mS, sT, sU] at *; omega) | (dsimp only [sT, sU] at *; omega) | omega)).fr f2 (by intro o j hw; refine ⟨?_, ?_, ?_, ?_⟩ <;> first | (dsimp only [wFq, wRsn, wOq, wNar, wFil, wCan, wLst, wCar, wDr, wOb, wTl, wMq, wRx, wCr, wTab, wNew, wKi, wKn, wTn, wPt, sZ, sK, sS, sX, mK, mS, sT, sU] at *; omega) | (dsimp only [sT, sU] at *; omega) | omega)⟩, (ca.fr f1 (by intro o j hw; first | (dsimp only [wFq, wRsn, wOq, wNar, wFil, wCan, wLst, wCar, wDr, wOb, wTl, wMq, wRx, wCr, wTab, wNew, wKi, wKn, wTn, wPt, sZ, sK, sS, sX, mK, mS, sC] at *; omega) | (dsimp only [sC] at *; omega) | omega)).fr f2 (by intro o j hw; first | (dsimp only [wFq, wRsn, wOq, wNar, wFil, wCan, wLst, wCar, wDr, wOb, wTl, wMq, wRx, wCr, wTab, wNew, wKi, wKn, wTn, wPt, sZ, sK, sS, sX, mK, mS, sC] at *; omega) | (dsimp only [sC] at *; omega) | omega)⟩, (fk.fr f1 (by intro o j hw; first | (dsimp only [wFq, wRsn, wOq, wNar, wFil, wCan, wLst, wCar, wDr, wOb, wTl, wMq, wRx, wCr, wTab, wNew, wKi, wKn, wTn, wPt, sZ, sK, sS, sX, mK, mS, sF] at *; omega) | (dsimp only [sF] at *; omega) | omega)).fr f2 (by intro o j hw; first | (dsimp only [wFq, wRsn, wOq, wNar, wFil, wCan, wLst, wCar, wDr, wOb, wTl, wMq, wRx, wCr, wTab, wNew, wKi, wKn, wTn, wPt, sZ, sK, sS, sX, mK, mS, sF] at *; omega) | (dsimp only [sF] at *; omega) | omega), (un.fr f1 (by intro o j hw; first | (dsimp only [wFq, wRsn, wOq, wNar, wFil, wCan, wLst, wCar, wDr, wOb, wTl, wMq, wRx, wCr, wTab, wNew, wKi, wKn, wTn, wPt, sZ, sK, sS, sX, mK, mS, sN] at *; omega) | (dsimp only [sN] at *; omega) | omega)).fr f2 (by intro o j hw; first | (dsimp only [wFq, wRsn, wOq, wNar, wFil, wCan, wLst, wCar, wDr, wOb, wTl, wMq, wRx, wCr, wTab, wNew, wKi, wKn, wTn, wPt, sZ, sK, sS, sX, mK, mS, sN] at *; omega) | (dsimp only [sN] at *; omega) | omega)⟩
theorem p_trace {M : yM} (H : INV4 M) : XCl 40 108 [.inr (.inr 0)] M (fun v M1 => XCl 40 178 [.inr (.inr 92)] M1 (fun w M2 => INV4 M2)) := by
  obtain ⟨⟨⟨h, g⟩, ca⟩, fk, un⟩ := H
  refine eX11_trace ?_
  refine uX11_trace_0 ?_
  refine eX12_trace ?_
  refine uX12_trace_0 ?_
  intro M1 e
  refine uX12_trace_5 ?_
  exact ⟨⟨⟨h.m0 (fr.put fr.rf e ⟨rfl, rfl⟩), g.m0 (fr.put fr.rf e ⟨rfl, rfl⟩)⟩, ca.m0 (fr.put fr.rf e ⟨rfl, rfl⟩)⟩, fk.m0 (fr.put fr.rf e ⟨rfl, rfl⟩), un.m0 (fr.put fr.rf e ⟨rfl, rfl⟩)⟩
theorem yand_255 {a : Int} (h : 0 ≤ a ∧ a ≤ 255) : yand a 255 = a := bt_ext (rng_yand _ _) (by omega) (fun i hi => by
  have e : bt 255 i = decide (i < 8) := al_bt 8 (by omega) i hi
  rw [bt_yand, e]
  by_cases q : i < 8
  · rw [decide_eq_true q, Bool.and_true]
  · rw [bt_of_lt (n := 8) (by omega) (by omega)]
    rfl)
theorem ts_at {M : yM} (h : INV M) {a : Int} (ha : 0 ≤ a ∧ a ≤ al (ld M 1 0)) : ld M 4 (yand a 255) = tOf (ld M 2) a (ld M 1 0).toNat := by
  have h8 := al_le h.1.1
  rw [yand_255 (by omega)]
  exact h.1.2.2.2.2.2.2.2.2.2.2 a ha.1 (by omega)
theorem tOf_eq {M : yM} (h : INV M) {a : Int} : tOf (ld M 2) a (ld M 1 0).toNat = tOf (ld M 93) a (ld M 92 2).toNat := by
  rw [← h.2.2.1.1]
  exact tOf_congr _ (fun c q1 q2 => h.2.2.1.2.2.2.1 c q1 (by omega))
theorem p_turned {M : yM} {a : Int} (H : INV4 M) (ha : yR a) : XCi 40 88 [.inr (.inr 0), .inl a] M (fun v M1 => XCi 40 137 [.inr (.inr 92), .inl a] M1 (fun w M2 => v = w ∧ INV4 M2)) := by
  obtain ⟨⟨⟨h, g⟩, ca⟩, fk, un⟩ := H
  have hR1 := h.2.2.1.1
  refine XC.deep (c11_turned (d := 0) h.1.1 ha (fun v q => ?_)) (by omega)
  have ca1 := ca
  refine XC.deep (c12_turned (d := 0) h.2.1.1.1 ha (fun w M2 f2 q2 => ?_)) (by omega)
  refine ⟨?_, ⟨⟨h.m0 f2, g.m0 f2⟩, ca1.m0 f2⟩, fk.m0 f2, un.m0 f2⟩
  rw [← hR1] at q2
  rcases q with q | q <;> rcases q2 with q2 | q2
  · omega
  · exact absurd q2.2 q.2
  · exact absurd q.2 q2.2
  · rw [q.1, q2.1, ts_at h q.2, tOf_eq h, hR1]
theorem p_tell {M : yM} {a b c : Int} (H : INV4 M) (ha : yR a) (hb : yR b) (hc : yR c) : XCi 40 94 [.inr (.inr 0), .inl a, .inl b, .inl c] M (fun v M1 => XCi 40 145 [.inr (.inr 92), .inl a, .inl b, .inl c] M1 (fun w M2 => v = w ∧ INV4 M2)) := by
  obtain ⟨⟨⟨h, g⟩, ca⟩, fk, un⟩ := H
  have hR1 := h.2.2.1.1
  have hR2 := h.2.2.1.2.1
  have hK := h.1.1
  have hI := h.1.2.2.1
  have hn8 := h.1.2.2.2.1
  have h8 := al_le hK
  have hNQ := h.2.2.2.1
  have hNL := h.2.2.2.2
  refine XC.deep (c11_tell (d := 0) hK hn8 ha hb hc (fun v M1 f1 q qF => ?_)) (by omega)
  have ca1 : CA M1 := CA.of ca qF
  have fk1 : FK M1 := FK.of fk qF
  have m1 : MO M1 := h.2.1.c f1 (by intro o j hw; first | (dsimp only [wFq, wRsn, wOq, wNar, wFil, wCan, wLst, wCar, wDr, wOb, wTl, wMq, wRx, wCr, wTab, wNew, wKi, wKn, wTn, wPt, sZ, sK, sS, sX, mK, mS] at *; omega) | (dsimp only at *; omega) | omega)
  have x1 : ld M1 1 0 = ld M 1 0 := f1.ld (by (first | (dsimp only [wFq, wRsn, wOq, wNar, wFil, wCan, wLst, wCar, wDr, wOb, wTl, wMq, wRx, wCr, wTab, wNew, wKi, wKn, wTn, wPt, sZ, sK, sS, sX, mK, mS]; omega) | omega))
  have g2 : ld M1 92 2 = ld M 92 2 := f1.ld (by (first | (dsimp only [wFq, wRsn, wOq, wNar, wFil, wCan, wLst, wCar, wDr, wOb, wTl, wMq, wRx, wCr, wTab, wNew, wKi, wKn, wTn, wPt, sZ, sK, sS, sX, mK, mS]; omega) | omega))
  have g11 : ld M1 92 11 = ld M 92 11 := f1.ld (by (first | (dsimp only [wFq, wRsn, wOq, wNar, wFil, wCan, wLst, wCar, wDr, wOb, wTl, wMq, wRx, wCr, wTab, wNew, wKi, wKn, wTn, wPt, sZ, sK, sS, sX, mK, mS]; omega) | omega))
  have g93 : ld M1 93 = ld M 93 := funext fun j => f1.ld (by (first | (dsimp only [wFq, wRsn, wOq, wNar, wFil, wCan, wLst, wCar, wDr, wOb, wTl, wMq, wRx, wCr, wTab, wNew, wKi, wKn, wTn, wPt, sZ, sK, sS, sX, mK, mS]; omega) | omega))
  have g100 : ∀ j, ld M1 100 j = ld M 100 j := fun j => f1.ld (by (first | (dsimp only [wFq, wRsn, wOq, wNar, wFil, wCan, wLst, wCar, wDr, wOb, wTl, wMq, wRx, wCr, wTab, wNew, wKi, wKn, wTn, wPt, sZ, sK, sS, sX, mK, mS]; omega) | omega))
  refine XC.deep (c12_tell (d := 0) m1.1.1 m1.1.2.2.2.1 m1.1.2.1 m1.2.1.1 m1.2.1.2 ha hb hc (fun w M2 f2 q1 q2 q3 => ?_)) (by omega)
  rw [g2, g11, ← hR1, ← hR2, g93] at q3
  have u2 : ld M2 2 = ld M1 2 := funext fun j => f2.ld (by (first | (dsimp only [wFq, wRsn, wOq, wNar, wFil, wCan, wLst, wCar, wDr, wOb, wTl, wMq, wRx, wCr, wTab, wNew, wKi, wKn, wTn, wPt, sZ, sK, sS, sX, mK, mS]; omega) | omega))
  have u1 : ld M2 1 0 = ld M1 1 0 := f2.ld (by (first | (dsimp only [wFq, wRsn, wOq, wNar, wFil, wCan, wLst, wCar, wDr, wOb, wTl, wMq, wRx, wCr, wTab, wNew, wKi, wKn, wTn, wPt, sZ, sK, sS, sX, mK, mS]; omega) | omega))
  have w2 : ld M1 2 = ld M 2 := funext fun j => f1.ld (by (first | (dsimp only [wFq, wRsn, wOq, wNar, wFil, wCan, wLst, wCar, wDr, wOb, wTl, wMq, wRx, wCr, wTab, wNew, wKi, wKn, wTn, wPt, sZ, sK, sS, sX, mK, mS]; omega) | omega))
  have c1 : CS M1 := h.1.c f1 (by intro o j hw; first | (dsimp only [wFq, wRsn, wOq, wNar, wFil, wCan, wLst, wCar, wDr, wOb, wTl, wMq, wRx, wCr, wTab, wNew, wKi, wKn, wTn, wPt, sZ, sK, sS, sX, mK, mS] at *; omega) | (dsimp only at *; omega) | omega) (by rw [f1.ld (by (first | (dsimp only [wFq, wRsn, wOq, wNar, wFil, wCan, wLst, wCar, wDr, wOb, wTl, wMq, wRx, wCr, wTab, wNew, wKi, wKn, wTn, wPt, sZ, sK, sS, sX, mK, mS]; omega) | omega))]; exact h.1.2.2.2.2.2.2.2.1) (by rw [f1.ld (by (first | (dsimp only [wFq, wRsn, wOq, wNar, wFil, wCan, wLst, wCar, wDr, wOb, wTl, wMq, wRx, wCr, wTab, wNew, wKi, wKn, wTn, wPt, sZ, sK, sS, sX, mK, mS]; omega) | omega))]; exact h.1.2.2.2.2.2.2.2.2.1) (h.1.2.2.2.2.2.2.2.2.2.1.fr f1 (by intro o j hw; first | (dsimp only [wFq, wRsn, wOq, wNar, wFil, wCan, wLst, wCar, wDr, wOb, wTl, wMq, wRx, wCr, wTab, wNew, wKi, wKn, wTn, wPt, sZ, sK, sS, sX, mK, mS] at *; omega) | (dsimp only at *; omega) | omega)) (h.1.2.2.2.2.2.2.2.2.2.2.fr f1 (by (first | (dsimp only [wFq, wRsn, wOq, wNar, wFil, wCan, wLst, wCar, wDr, wOb, wTl, wMq, wRx, wCr, wTab, wNew, wKi, wKn, wTn, wPt, sZ, sK, sS, sX, mK, mS]; omega) | omega)) (fun j => by (first | (dsimp only [wFq, wRsn, wOq, wNar, wFil, wCan, wLst, wCar, wDr, wOb, wTl, wMq, wRx, wCr, wTab, wNew, wKi, wKn, wTn, wPt, sZ, sK, sS, sX, mK, mS]; omega) | omega)) (fun j => by (first | (dsimp only [wFq, wRsn, wOq, wNar, wFil, wCan, wLst, wCar, wDr, wOb, wTl, wMq, wRx, wCr, wTab, wNew, wKi, wKn, wTn, wPt, sZ, sK, sS, sX, mK, mS]; omega) | omega)))
  have o2 : MO M2 := ⟨m1.1.q f2 (by intro o j hw; first | (dsimp only [wFq, wRsn, wOq, wNar, wFil, wCan, wLst, wCar, wDr, wOb, wTl, wMq, wRx, wCr, wTab, wNew, wKi, wKn, wTn, wPt, sZ, sK, sS, sX, mK, mS] at *; omega) | (dsimp only at *; omega) | omega), ⟨q1, q2⟩, m1.2.2.1.q f2 (fun j => by omega), m1.2.2.2.1.q f2 (by omega), m1.2.2.2.2.fr f2 (fun j => by omega)⟩
  have r2 : RLl M2 := (h.2.2.1.q f1 (by intro o j hw; first | (dsimp only [wFq, wRsn, wOq, wNar, wFil, wCan, wLst, wCar, wDr, wOb, wTl, wMq, wRx, wCr, wTab, wNew, wKi, wKn, wTn, wPt, sZ, sK, sS, sX, mK, mS] at *; omega) | (dsimp only at *; omega) | omega)).q f2 (by intro o j hw; first | (dsimp only [wFq, wRsn, wOq, wNar, wFil, wCan, wLst, wCar, wDr, wOb, wTl, wMq, wRx, wCr, wTab, wNew, wKi, wKn, wTn, wPt, sZ, sK, sS, sX, mK, mS] at *; omega) | (dsimp only at *; omega) | omega)
  have u20 : ∀ j, ld M2 20 j = ld M1 20 j := fun j => f2.ld (by omega)
  rcases q with ⟨e1, n1, e0⟩ | ⟨e1, n1, q⟩
  · subst e0
    rcases q3 with ⟨e2, n2, t⟩ | ⟨e2, n2, _⟩
    · exact ⟨by omega, ⟨⟨h.m0 t, g.m0 t⟩, ca1.m0 t⟩, fk1.m0 t, un.m0 t⟩
    · exact absurd n2 n1
  · rcases q3 with ⟨e2, n2, t⟩ | ⟨e2, n2, e3⟩
    · exact absurd n1 n2
    · have vw : v = w := by rw [e1, e2, g100]; exact hNQ _ (by omega) (by omega)
      have hl := tOf_lt (s := c) hI hK (by omega)
      have htt := tOf_tOf (s := c) hI hK (by omega)
      have key : ∀ j, 0 ≤ j → j < 64 → ld M1 20 j = if j = 8 * b + a then tOf (ld M 2) c (ld M 1 0).toNat else if j = 8 * a + b then c else ld M 20 j := by
        intro j j1 j2
        rcases q with ⟨ev, e0⟩ | ⟨ev, q⟩
        · subst e0
          split
          · next qj =>
            rw [qj, (hNL a b (by omega) (by omega) (by omega) (by omega) n1.2.2.1).2, ev]
          · split
            · next qj => rw [qj]; exact ev
            · rfl
        · rw [q j, ts_at h ⟨n1.2.2.2.1, n1.2.2.2.2⟩]
      have nq : NQ M2 := fun j j1 j2 => by
        rw [u20, key j j1 j2, e3 j j1 j2, g100, tOf_eq h, ← hR1, hNQ j j1 j2]
      refine ⟨vw, ⟨⟨⟨c1.m f2 (by intro o j hw; first | (dsimp only [wFq, wRsn, wOq, wNar, wFil, wCan, wLst, wCar, wDr, wOb, wTl, wMq, wRx, wCr, wTab, wNew, wKi, wKn, wTn, wPt, sZ, sK, sS, sX, mK, mS] at *; omega) | (dsimp only at *; omega) | omega), o2, r2, nq, fun i e i1 i2 i3 i4 i5 => ?_⟩, (g.fr f1 (by intro o j hw; refine ⟨?_, ?_, ?_, ?_⟩ <;> first | (dsimp only [wFq, wRsn, wOq, wNar, wFil, wCan, wLst, wCar, wDr, wOb, wTl, wMq, wRx, wCr, wTab, wNew, wKi, wKn, wTn, wPt, sZ, sK, sS, sX, mK, mS, sT, sU] at *; omega) | (dsimp only [sT, sU] at *; omega) | omega)).fr f2 (by intro o j hw; refine ⟨?_, ?_, ?_, ?_⟩ <;> first | (dsimp only [wFq, wRsn, wOq, wNar, wFil, wCan, wLst, wCar, wDr, wOb, wTl, wMq, wRx, wCr, wTab, wNew, wKi, wKn, wTn, wPt, sZ, sK, sS, sX, mK, mS, sT, sU] at *; omega) | (dsimp only [sT, sU] at *; omega) | omega)⟩, ca1.fr f2 (by intro o j hw; first | (dsimp only [wFq, wRsn, wOq, wNar, wFil, wCan, wLst, wCar, wDr, wOb, wTl, wMq, wRx, wCr, wTab, wNew, wKi, wKn, wTn, wPt, sZ, sK, sS, sX, mK, mS, sC] at *; omega) | (dsimp only [sC] at *; omega) | omega)⟩, fk1.fr f2 (by intro o j hw; first | (dsimp only [wFq, wRsn, wOq, wNar, wFil, wCan, wLst, wCar, wDr, wOb, wTl, wMq, wRx, wCr, wTab, wNew, wKi, wKn, wTn, wPt, sZ, sK, sS, sX, mK, mS, sF] at *; omega) | (dsimp only [sF] at *; omega) | omega), (un.fr f1 (by intro o j hw; first | (dsimp only [wFq, wRsn, wOq, wNar, wFil, wCan, wLst, wCar, wDr, wOb, wTl, wMq, wRx, wCr, wTab, wNew, wKi, wKn, wTn, wPt, sZ, sK, sS, sX, mK, mS, sN] at *; omega) | (dsimp only [sN] at *; omega) | omega)).fr f2 (by intro o j hw; first | (dsimp only [wFq, wRsn, wOq, wNar, wFil, wCan, wLst, wCar, wDr, wOb, wTl, wMq, wRx, wCr, wTab, wNew, wKi, wKn, wTn, wPt, sZ, sK, sS, sX, mK, mS, sN] at *; omega) | (dsimp only [sN] at *; omega) | omega)⟩
      rw [u20, u20, u1, u2, x1, w2, key _ (by omega) (by omega), key _ (by omega) (by omega)]
      have old := hNL i e i1 i2 i3 i4 i5
      by_cases p1 : i = a ∧ e = b
      · rw [p1.1, p1.2, if_neg (by omega), if_pos rfl, if_pos rfl]
        omega
      · by_cases p2 : i = b ∧ e = a
        · rw [p2.1, p2.2, if_pos rfl, if_neg (by omega), if_pos rfl, htt]
          omega
        · rw [if_neg (by omega), if_neg (by omega), if_neg (by omega), if_neg (by omega)]
          exact old
theorem yT {M : yM} (g : TX M) (hK : 1 ≤ ld M 1 0 ∧ ld M 1 0 ≤ 8) {a b : Int} (ha : 0 ≤ a ∧ a < ld M 1 0) (hb : 0 ≤ b ∧ b < ld M 1 0) : ld M 94 (8 * a + b) = ld M 3 (8 * a + b) ∧ 0 ≤ ld M 3 (8 * a + b) ∧ ld M 3 (8 * a + b) ≤ al (ld M 1 0) :=
  ⟨(g.2.2.1 a b ha.1 ha.2 hb.1 hb.2).symm, g.1.2.1 a b ha.1 ha.2 hb.1 hb.2⟩
theorem p_triangle {M : yM} {a b c e : Int} (H : INV4 M) (ha : yR a) (hb : yR b) (hc : yR c) (he : yR e) : XCi 40 86 [.inr (.inr 0), .inl a, .inl b, .inl c, .inl e] M (fun v M1 => XCi 40 133 [.inr (.inr 92), .inl a, .inl b, .inl c, .inl e] M1 (fun w M2 => v = w ∧ INV4 M2)) := by
  obtain ⟨⟨⟨h, g⟩, ca⟩, fk, un⟩ := H
  have hRL := h.2.2.1
  have hR1 := hRL.1
  have hR4 := hRL.2.2.2.1
  have hK := h.1.1
  have h8 := al_le hK
  have hI := h.1.2.2.1
  have hZ := h.1.2.2.2.2.2.2.2.2.2.1
  refine XC.deep (c11_triangle (d := 0) hK h.1.2.1 ha hb hc he hZ.1 h.1.2.2.2.2.2.2.2.2.2.2 g.1.2.2.2.1 (fun v M1 f1 z4 zT zJ q qF => ?_)) (by omega)
  have ca1 : CA M1 := CA.of ca qF
  have fk1 : FK M1 := FK.of fk qF
  have h1 : INV M1 := h.c f1 (by intro o j hw; first | (dsimp only [wFq, wRsn, wOq, wNar, wFil, wCan, wLst, wCar, wDr, wOb, wTl, wMq, wRx, wCr, wTab, wNew, wKi, wKn, wTn, wPt, sZ, sK, sS, sX, mK, mS] at *; omega) | (dsimp only at *; omega) | omega) (by rw [f1.ld (by (first | (dsimp only [wFq, wRsn, wOq, wNar, wFil, wCan, wLst, wCar, wDr, wOb, wTl, wMq, wRx, wCr, wTab, wNew, wKi, wKn, wTn, wPt, sZ, sK, sS, sX, mK, mS]; omega) | omega))]; exact h.1.2.2.2.2.2.2.2.1) (by rw [f1.ld (by (first | (dsimp only [wFq, wRsn, wOq, wNar, wFil, wCan, wLst, wCar, wDr, wOb, wTl, wMq, wRx, wCr, wTab, wNew, wKi, wKn, wTn, wPt, sZ, sK, sS, sX, mK, mS]; omega) | omega))]; exact h.1.2.2.2.2.2.2.2.2.1) ⟨z4, by rw [f1.ld (by (first | (dsimp only [wFq, wRsn, wOq, wNar, wFil, wCan, wLst, wCar, wDr, wOb, wTl, wMq, wRx, wCr, wTab, wNew, wKi, wKn, wTn, wPt, sZ, sK, sS, sX, mK, mS]; omega) | omega))]; exact hZ.2.1, by rw [f1.ld (by (first | (dsimp only [wFq, wRsn, wOq, wNar, wFil, wCan, wLst, wCar, wDr, wOb, wTl, wMq, wRx, wCr, wTab, wNew, wKi, wKn, wTn, wPt, sZ, sK, sS, sX, mK, mS]; omega) | omega))]; exact hZ.2.2⟩ zT
  have g2 : ld M1 92 2 = ld M 92 2 := f1.ld (by (first | (dsimp only [wFq, wRsn, wOq, wNar, wFil, wCan, wLst, wCar, wDr, wOb, wTl, wMq, wRx, wCr, wTab, wNew, wKi, wKn, wTn, wPt, sZ, sK, sS, sX, mK, mS]; omega) | omega))
  have g93 : ld M1 93 = ld M 93 := funext fun j => f1.ld (by (first | (dsimp only [wFq, wRsn, wOq, wNar, wFil, wCan, wLst, wCar, wDr, wOb, wTl, wMq, wRx, wCr, wTab, wNew, wKi, wKn, wTn, wPt, sZ, sK, sS, sX, mK, mS]; omega) | omega))
  have g94 : ld M1 94 = ld M 94 := funext fun j => f1.ld (by (first | (dsimp only [wFq, wRsn, wOq, wNar, wFil, wCan, wLst, wCar, wDr, wOb, wTl, wMq, wRx, wCr, wTab, wNew, wKi, wKn, wTn, wPt, sZ, sK, sS, sX, mK, mS]; omega) | omega))
  have k1 : ld M1 1 0 = ld M 1 0 := f1.ld (by (first | (dsimp only [wFq, wRsn, wOq, wNar, wFil, wCan, wLst, wCar, wDr, wOb, wTl, wMq, wRx, wCr, wTab, wNew, wKi, wKn, wTn, wPt, sZ, sK, sS, sX, mK, mS]; omega) | omega))
  have k2 : ld M1 2 = ld M 2 := funext fun j => f1.ld (by (first | (dsimp only [wFq, wRsn, wOq, wNar, wFil, wCan, wLst, wCar, wDr, wOb, wTl, wMq, wRx, wCr, wTab, wNew, wKi, wKn, wTn, wPt, sZ, sK, sS, sX, mK, mS]; omega) | omega))
  have hz1 : HZ M1 := g.1.2.2.2.2.fr f1 (fun j q => by first | (dsimp only [wFq, wRsn, wOq, wNar, wFil, wCan, wLst, wCar, wDr, wOb, wTl, wMq, wRx, wCr, wTab, wNew, wKi, wKn, wTn, wPt, sZ, sK, sS, sX, mK, mS] at q; omega) | omega)
  refine XC.deep (c12_triangle (d := 0) h1.2.1.1.1 h1.2.1.1.2.1 ha hb hc he (fun w M2 f2 q2 => ?_)) (by omega)
  have h2 : INV M2 := h1.m f2 (by intro o j hw; dsimp only [mK, mS]; omega) (h1.2.1.2.1.q f2 (fun j _ _ => by omega)) (h1.2.1.2.2.1.q f2 (fun j => by omega)) (h1.2.1.2.2.2.1.q f2 (by omega)) (h1.2.1.2.2.2.2.fr f2 (fun j => by omega)) (h1.2.2.2.1.fr f2 (fun j => by omega) (fun j _ _ => by omega))
  have u1 : ld M2 1 0 = ld M1 1 0 := f2.ld (by omega)
  have u3 : ld M2 3 = ld M1 3 := funext fun j => f2.ld (by omega)
  have sx2 : TXs M2 := (g.2.1.fr f1 (by intro o j hw; first | (dsimp only [wFq, wRsn, wOq, wNar, wFil, wCan, wLst, wCar, wDr, wOb, wTl, wMq, wRx, wCr, wTab, wNew, wKi, wKn, wTn, wPt, sZ, sK, sS, sX, mK, mS, sT, sU] at *; omega) | (dsimp only [sT, sU] at *; omega) | omega)).fr f2 (by intro o j hw; dsimp only [sU]; omega)
  have sq2 : SQ M2 := (g.2.2.2.fr f1 (by (first | (dsimp only [wFq, wRsn, wOq, wNar, wFil, wCan, wLst, wCar, wDr, wOb, wTl, wMq, wRx, wCr, wTab, wNew, wKi, wKn, wTn, wPt, sZ, sK, sS, sX, mK, mS]; omega) | omega)) (fun j => by (first | (dsimp only [wFq, wRsn, wOq, wNar, wFil, wCan, wLst, wCar, wDr, wOb, wTl, wMq, wRx, wCr, wTab, wNew, wKi, wKn, wTn, wPt, sZ, sK, sS, sX, mK, mS]; omega) | omega)) (fun j => by (first | (dsimp only [wFq, wRsn, wOq, wNar, wFil, wCan, wLst, wCar, wDr, wOb, wTl, wMq, wRx, wCr, wTab, wNew, wKi, wKn, wTn, wPt, sZ, sK, sS, sX, mK, mS]; omega) | omega))).fr f2 (by omega) (fun _ => by omega) (fun _ => by omega)
  rw [g2, ← hR1, g93, g94] at q2
  rcases q with ⟨e1, n1, e0⟩ | ⟨n1, e1, q⟩
  · subst e0
    rcases q2 with ⟨e2, n2, t⟩ | ⟨n2, _⟩
    · exact ⟨by omega, ⟨⟨h.m0 t, g.m0 t⟩, ca1.m0 t⟩, fk1.m0 t, un.m0 t⟩
    · exact absurd n2 n1
  · rcases q2 with ⟨e2, n2, t⟩ | ⟨n2, e2, e3⟩
    · exact absurd n1 n2
    · have yt := yT g hK (a := a) (b := b) (by omega) (by omega)
      rw [yt.1] at e2
      have tbv : tb (ld M 3) a b c = decide (v = 1) := by
        have yb := ybitZ (a := ld M 3 (8 * a + b)) (x := c) (by omega) (by omega)
        unfold tb
        rw [Bool.eq_iff_iff, decide_eq_true_eq, ← yb]
        omega
      have ia : 0 ≤ a ∧ a < ld M 1 0 := by omega
      have ib : 0 ≤ b ∧ b < ld M 1 0 := by omega
      have ic : 0 ≤ c ∧ c < ld M 1 0 := by omega
      have cg := fun (p r : Int) (hp : 0 ≤ p ∧ p < ld M 1 0) (hr : 0 ≤ r ∧ r < ld M 1 0) => st6_cg (T := ld M 3) (T' := ld M 94) (f := ld M 2) (f' := ld M 93) (is := e) hK.2 hI ia ib ic (fun j => rng_ld _ _ _) (fun j => rng_ld _ _ _) (fun j j1 j2 => (hR4 j j1 j2).symm) (fun p q a1 a2 b1 b2 => (g.2.2.1 p q a1 a2 b1 b2).symm) hp hr
      have tc1 : TXc M1 ∧ ∀ p r, 0 ≤ p → p < ld M 1 0 → 0 ≤ r → r < ld M 1 0 → ld M1 3 (8 * p + r) = st6 (ld M 3) (ld M 2) a b c e (8 * p + r) := by
        rcases q with ⟨ev, e0⟩ | ⟨ev, e0⟩
        · subst e0
          refine ⟨g.1, fun p r p1 p2 r1 r2 => (st6_no g.1.2.2.1 hK.2 hI ia ib ic (by omega) (fun j => rng_ld _ _ _) ?_).symm⟩
          rw [tbv, ev]
        · refine ⟨⟨by rw [k2]; exact g.1.1, ?_, ?_, zJ, hz1⟩, fun p r p1 p2 r1 r2 => by rw [e0]⟩
          · rw [e0, k1]
            exact g.1.2.1.st6 hK hI ia ib ic (fun p q _ _ _ _ => st6_rng (fun j => rng_ld _ _ _) _)
          · rw [e0, k1, k2]
            exact g.1.2.2.1.st6 hK.2 hI ia ib ic
      have un1 : UN M1 := un_n un f1 (by (first | (dsimp only [wFq, wRsn, wOq, wNar, wFil, wCan, wLst, wCar, wDr, wOb, wTl, wMq, wRx, wCr, wTab, wNew, wKi, wKn, wTn, wPt, sZ, sK, sS, sX, mK, mS]; omega) | omega)) (fun j => by (first | (dsimp only [wFq, wRsn, wOq, wNar, wFil, wCan, wLst, wCar, wDr, wOb, wTl, wMq, wRx, wCr, wTab, wNew, wKi, wKn, wTn, wPt, sZ, sK, sS, sX, mK, mS]; omega) | omega)) (by
        rw [k1]
        exact (un.1.st6 (is := e) hK.2 hI g.1.1 (by omega) (by omega) (by omega)).cu (fun b b1 b2 => tc1.2 0 b (by omega) (by omega) b1 b2))
      refine ⟨by omega, ⟨⟨h2, tc1.1.fr f2 (by intro o j hw; dsimp only [sT]; omega), sx2, fun p r p1 p2 r1 r2 => ?_, sq2⟩, ca1.fr f2 (by intro o j hw; first | (dsimp only [wFq, wRsn, wOq, wNar, wFil, wCan, wLst, wCar, wDr, wOb, wTl, wMq, wRx, wCr, wTab, wNew, wKi, wKn, wTn, wPt, sZ, sK, sS, sX, mK, mS, sC] at *; omega) | (dsimp only [sC] at *; omega) | omega)⟩, fk1.fr f2 (by intro o j hw; dsimp only [sF]; omega), un1.fr f2 (by intro o j hw; dsimp only [sN]; omega)⟩
      rw [u1, k1] at p2 r2
      rw [u3, tc1.2 p r p1 p2 r1 r2, e3]
      exact (cg p r ⟨p1, p2⟩ ⟨r1, r2⟩).symm
theorem jj {M : yM} (h : INV M) (g : TX M) {x y : Int} (hx : 0 ≤ x ∧ x ≤ al (ld M 1 0)) (hy : 0 ≤ y ∧ y ≤ al (ld M 1 0)) : jn M x y = jO (ld M 94) x y (ld M 92 2).toNat (ld M 92 2).toNat := by
  rw [← h.2.2.1.1]
  exact jn_jO g.1.2.2.2.1 g.1.2.2.2.2 h.1.1 hx hy g.2.2.1
theorem p_join {M : yM} {a b : Int} (H : INV4 M) (ha : yR a) (hb : yR b) : XCi 40 87 [.inr (.inr 0), .inl a, .inl b] M (fun v M1 => XCi 40 135 [.inr (.inr 92), .inl a, .inl b] M1 (fun w M2 => v = w ∧ INV4 M2)) := by
  obtain ⟨⟨⟨h, g⟩, ca⟩, fk, un⟩ := H
  have hR1 := h.2.2.1.1
  refine XC.deep (c11_join (d := 0) h.1.1 ha hb (fun v q => ?_)) (by omega)
  have ca1 := ca
  refine XC.deep (c12_join (d := 0) h.2.1.1.1 ha hb (fun w M2 f2 q2 => ?_)) (by omega)
  refine ⟨?_, ⟨⟨h.m0 f2, g.m0 f2⟩, ca1.m0 f2⟩, fk.m0 f2, un.m0 f2⟩
  rw [← hR1] at q2
  rcases q with q | q <;> rcases q2 with q2 | q2
  · omega
  · exact absurd q2.2 q.2
  · exact absurd q.2 q2.2
  · rw [q.1, q2.1, jj h g q.2.1 q.2.2, hR1]
theorem bit_al {k c : Int} (hk : 1 ≤ k ∧ k ≤ 8) (hc : 0 ≤ c ∧ c < k) : 0 ≤ yshl 1 c ∧ yshl 1 c ≤ al k := al_ge (by omega) (rng_yshl _ _) (fun i q => by
  rw [bt_bit (by omega), decide_eq_true_eq] at q
  omega)
theorem p_fault {M : yM} (H : INV4 M) : XCi 40 89 [.inr (.inr 0)] M (fun v M1 => XCi 40 138 [.inr (.inr 92)] M1 (fun w M2 => v = w ∧ INV4 M2)) := by
  obtain ⟨⟨⟨h, g⟩, ca⟩, fk, un⟩ := H
  have hR1 := h.2.2.1.1
  have hK := h.1.1
  refine XC.deep (c11_fault (d := 0) h.1.1 (fun v q => ?_)) (by omega)
  have ca1 := ca
  refine XC.deep (c12_fault (d := 0) h.2.1.1.1 (fun w M2 f2 q2 => ?_)) (by omega)
  refine ⟨?_, ⟨⟨h.m0 f2, g.m0 f2⟩, ca1.m0 f2⟩, fk.m0 f2, un.m0 f2⟩
  rw [← hR1] at q2
  refine q.uq q2 (fun x y z x1 x2 y1 y2 z1 z2 => ?_)
  have t1 := yT g hK (a := x) (b := y) (by omega) (by omega)
  have t2 := yT g hK (a := y) (b := z) (by omega) (by omega)
  unfold PFa PFm
  rw [t1.1, t2.1, jj h g t1.2 (bit_al hK ⟨z1, z2⟩), jj h g (bit_al hK ⟨x1, x2⟩) t2.2]

section
variable {T T' f f' : Int → Int} {k n : Int}
theorem jI_cgA {b s i : Int} : ∀ m : Nat, (∀ j : Int, 0 ≤ j → j < m → T (8 * i + j) = T' (8 * i + j)) → jI T b i s m = jI T' b i s m
  | 0, _ => rfl
  | m + 1, h => by
    simp only [jI]
    rw [jI_cgA m (fun j a1 a2 => h j a1 (by omega)), h m (by omega) (by omega)]
theorem jO_cgA {a b : Int} {m : Nat} (h : ∀ i j : Int, 0 ≤ i → i < m → 0 ≤ j → j < m → T (8 * i + j) = T' (8 * i + j)) : ∀ n : Nat, n ≤ m → jO T a b m n = jO T' a b m n
  | 0, _ => rfl
  | n + 1, q => by
    simp only [jO]
    rw [jO_cgA h n (by omega)]
    split
    · exact jI_cgA m (fun j a1 a2 => h n j (by omega) (by omega) a1 a2)
    · rfl
theorem jP_cg (h : ∀ i j : Int, 0 ≤ i → i < k → 0 ≤ j → j < k → T (8 * i + j) = T' (8 * i + j)) (a b : Int) : jP T k a b = jP T' k a b := jO_cgA (m := k.toNat) (fun i j a1 a2 b1 b2 => h i j a1 (by omega) b1 (by omega)) k.toNat (Nat.le_refl _)
theorem tP_cg (h : ∀ i : Int, 0 ≤ i → i < k → f i = f' i) (s : Int) : tP f k s = tP f' k s := tOf_congr k.toNat (fun a a1 a2 => h a a1 (by omega))
theorem stp_cg (hT : ∀ a b, jP T k a b = jP T' k a b) (N : Int → Int) (i j c : Int) : stp T k N i j c = stp T' k N i j c := by
  unfold stp
  rw [hT]
theorem onL_cg (hT : ∀ a b, jP T k a b = jP T' k a b) (hf : ∀ s, tP f k s = tP f' k s) : ∀ (l : List (Int × Int × Int)) (N : Int → Int), onL T f k N l = onL T' f' k N l
  | [], _ => rfl
  | (i, j, c) :: r, N => by
    simp only [onL]
    rw [stp_cg hT, hf, onL_cg hT hf r N, onL_cg hT hf r (up2 N i c _ _)]
theorem onceP_cg (hT : ∀ a b, jP T k a b = jP T' k a b) (hf : ∀ s, tP f k s = tP f' k s) (N : Int → Int) : onceP T f k n N = onceP T' f' k n N := by
  unfold onceP
  rw [onL_cg hT hf]
theorem fu_cg (hT : ∀ a b, jP T k a b = jP T' k a b) (hf : ∀ s, tP f k s = tP f' k s) : ∀ (m : Nat) (N : Int → Int), fu T f k n m N = fu T' f' k n m N
  | 0, _ => rfl
  | m + 1, N => by
    show fu T f k n m (onceP T f k n N) = fu T' f' k n m (onceP T' f' k n N)
    rw [onceP_cg hT hf, fu_cg hT hf m]
theorem fullP_cg (hT : ∀ a b, jP T k a b = jP T' k a b) (hf : ∀ s, tP f k s = tP f' k s) (N : Int → Int) : fullP T f k n N = fullP T' f' k n N := fu_cg hT hf 300 N
theorem rfB_cg (hT : ∀ a b, jP T k a b = jP T' k a b) (hf : ∀ s, tP f k s = tP f' k s) (N : Int → Int) (i c a : Int) : rfB T f k n N i c a = rfB T' f' k n N i c a := by
  unfold rfB sng
  rw [fullP_cg hT hf, hf]
theorem rmv_cg (hf : ∀ s, tP f k s = tP f' k s) (N : Int → Int) (i c a : Int) : rmv f k N i c a = rmv f' k N i c a := by
  unfold rmv
  rw [hf]
theorem goX_cg (hT : ∀ a b, jP T k a b = jP T' k a b) (hf : ∀ s, tP f k s = tP f' k s) : ∀ (l : List (Int × Int × Int)) (N : Int → Int), goX T f k n N l = goX T' f' k n N l
  | [], _ => rfl
  | (i, c, a) :: r, N => by
    simp only [goX]
    rw [rfB_cg hT hf, rmv_cg hf, goX_cg hT hf r N, goX_cg hT hf r (rmv f' k N i c a)]
theorem trP_cg (hT : ∀ a b, jP T k a b = jP T' k a b) (hf : ∀ s, tP f k s = tP f' k s) : ∀ (m : Nat) (N : Int → Int), trP T f k n m N = trP T' f' k n m N
  | 0, _ => rfl
  | m + 1, N => by
    simp only [trP]
    rw [fullP_cg hT hf, goX_cg hT hf, trP_cg hT hf m]
theorem resP_cg (hT : ∀ a b, jP T k a b = jP T' k a b) (hf : ∀ s, tP f k s = tP f' k s) (w : Int) (N : Int → Int) : resP T f k n w N = resP T' f' k n w N := by
  unfold resP tryP
  rw [onceP_cg hT hf, fullP_cg hT hf, trP_cg hT hf]
end
theorem th_of {M : yM} (h : INV M) (g : TX M) : TH (ld M 94) (ld M 93) (ld M 1 0) :=
  ⟨h.1.1, by rw [h.2.2.1.1]; exact h.2.1.1.2.2.1, g.1.2.1.cg (fun p q a1 a2 b1 b2 => (g.2.2.1 p q a1 a2 b1 b2).symm), g.1.2.2.1.cg h.1.2.2.1 (fun p q a1 a2 b1 b2 => (g.2.2.1 p q a1 a2 b1 b2).symm) (fun p a1 a2 => (h.2.2.1.2.2.2.1 p a1 a2).symm)⟩
theorem ct_of {M : yM} (h : INV M) (g : TX M) : CT M (ld M 94) (ld M 93) (ld M 1 0) :=
  ⟨rfl, th_of h g, fun a b ha hb => by rw [jj h g ha hb, h.2.2.1.1], fun s hs => by rw [ts_at h hs, tOf_eq h, h.2.2.1.1]⟩
theorem mct_of {M : yM} (h : INV M) (g : TX M) : MCT M (ld M 94) (ld M 93) (ld M 1 0) (ld M 19 0) :=
  ⟨h.2.2.1.1.symm, h.2.2.1.2.1.symm, rfl, rfl, th_of h g, h.1.2.2.2.1⟩
theorem sn_of {M : yM} (h : INV M) : SN (ld M 93) (ld M 1 0) (ld M 19 0) (ld M 20) := fun i c i1 i2 c1 c2 ic => by
  have hn := h.1.2.2.2.1
  have q := h.2.2.2.2 i c i1 (by omega) c1 (by omega) ic
  refine ⟨q.1, ?_⟩
  rw [q.2, tOf_eq h, h.2.2.1.1]
theorem nq_of {M : yM} (h : INV M) : EqN (ld M 20) (nr M 0) := fun x h1 h2 => by
  unfold nr
  rw [Int.zero_add]
  exact h.2.2.2.1 x h1 h2
theorem dg_of {M : yM} (h : INV M) : DGp (ld M 19 0) (nr M 0) := fun i i1 i2 => by
  have hn := h.1.2.2.2.1
  have q := h.2.1.2.1.2 i i1 (by omega)
  unfold cel at q
  unfold nr
  rw [show 0 + (8 * i + i) = 0 + 8 * i + i by omega, q]
  decide
theorem cg_of {M : yM} (h : INV M) (g : TX M) : (∀ a b, jP (ld M 3) (ld M 1 0) a b = jP (ld M 94) (ld M 1 0) a b) ∧ ∀ s, tP (ld M 2) (ld M 1 0) s = tP (ld M 93) (ld M 1 0) s :=
  ⟨jP_cg (fun i j a1 a2 b1 b2 => g.2.2.1 i j a1 a2 b1 b2), tP_cg (fun i a1 a2 => h.2.2.1.2.2.2.1 i a1 a2)⟩
theorem CA.to {M : yM} (h : INV M) (g : TX M) (ca : CA M) : CAC M (ld M 94) (ld M 93) (ld M 1 0) (ld M 19 0) := fun w w1 w2 w3 => by
  rw [← resP_cg (cg_of h g).1 (cg_of h g).2]
  exact ca w w1 w2 w3
theorem ca_back {W : Nat → Int → Prop} {M M1 : yM} (h : INV M) (g : TX M) (f1 : fr W M M1) (e1 : ¬ W 1 0) (e2 : ∀ j, ¬ W 2 j) (e3 : ∀ j, ¬ W 3 j) (e4 : ¬ W 19 0) (c : CAC M1 (ld M 94) (ld M 93) (ld M 1 0) (ld M 19 0)) : CA M1 := by
  unfold CA
  rw [f1.ld e1, f1.ld e4, show ld M1 2 = ld M 2 from funext fun j => f1.ld (e2 j), show ld M1 3 = ld M 3 from funext fun j => f1.ld (e3 j)]
  exact fun w w1 w2 w3 => by
    rw [resP_cg (cg_of h g).1 (cg_of h g).2]
    exact c w w1 w2 w3
theorem p_narrow {M : yM} {a b c : Int} (H : INV4 M) (ha : yR a) (hb : yR b) (hc : yR c) : XCi 40 95 [.inr (.inr 0), .inl a, .inl b, .inl c] M (fun v M1 => XCi 40 152 [.inr (.inr 92), .inl a, .inl b, .inl c] M1 (fun w M2 => v = w ∧ INV4 M2)) := by
  obtain ⟨⟨⟨h, g⟩, ca⟩, fk, un⟩ := H
  have hn := h.1.2.2.2.1
  have hK := h.1.1
  refine XC.deep (n11_narrow (d := 0) rfl hn ha hb hc (ct_of h g) (sn_of h) (CA.to h g ca) (fun v M1 f1 q c1 => ?_)) (by omega)
  have ca1 : CA M1 := ca_back h g f1 (by omega) (fun _ => by omega) (fun _ => by omega) (by omega) c1
  have g1 : TX M1 := g.fr f1 (by intro o j hw; refine ⟨?_, ?_, ?_, ?_⟩ <;> first | (dsimp only [wFq, wRsn, wOq, wNar, wFil, wCan, wLst, wCar, wDr, wOb, wTl, wMq, wRx, wCr, wTab, wNew, wKi, wKn, wTn, wPt, sZ, sK, sS, sX, mK, mS, sT, sU] at *; omega) | (dsimp only [sT, sU] at *; omega) | omega)
  have h1 : INV M1 := h.c f1 (by intro o j hw; first | (dsimp only [wFq, wRsn, wOq, wNar, wFil, wCan, wLst, wCar, wDr, wOb, wTl, wMq, wRx, wCr, wTab, wNew, wKi, wKn, wTn, wPt, sZ, sK, sS, sX, mK, mS] at *; omega) | (dsimp only at *; omega) | omega) (by rw [f1.ld (by omega)]; exact h.1.2.2.2.2.2.2.2.1) (by rw [f1.ld (by omega)]; exact h.1.2.2.2.2.2.2.2.2.1) (h.1.2.2.2.2.2.2.2.2.2.1.fr f1 (by intro o j hw; first | (dsimp only [wFq, wRsn, wOq, wNar, wFil, wCan, wLst, wCar, wDr, wOb, wTl, wMq, wRx, wCr, wTab, wNew, wKi, wKn, wTn, wPt, sZ, sK, sS, sX, mK, mS] at *; omega) | (dsimp only at *; omega) | omega)) (h.1.2.2.2.2.2.2.2.2.2.2.fr f1 (by omega) (fun _ => by omega) (fun _ => by omega))
  have n1 : nr M1 0 = nr M 0 := nr_fr f1 (fun _ => by omega)
  have sm : SN (ld M 93) (ld M 1 0) (ld M 19 0) (nr M1 0) := by rw [n1]; exact (sn_of h).eq hn.2 (nq_of h)
  have dm : DGp (ld M 19 0) (nr M1 0) := by rw [n1]; exact dg_of h
  refine XC.deep (n12_narrow (d := 0) ((mct_of h g).fr f1 (by omega) (by omega) (fun _ => by omega) (fun _ => by omega)) sm dm ha hb hc (fun w M2 f2 q2 => ?_)) (by omega)
  refine ⟨?_, ⟨⟨h1.m f2 (by intro o j hw; first | (dsimp only [wFq, wRsn, wOq, wNar, wFil, wCan, wLst, wCar, wDr, wOb, wTl, wMq, wRx, wCr, wTab, wNew, wKi, wKn, wTn, wPt, sZ, sK, sS, sX, mK, mS] at *; omega) | (dsimp only at *; omega) | omega) (h1.2.1.2.1.q f2 (fun j _ _ => by (first | (dsimp only [wFq, wRsn, wOq, wNar, wFil, wCan, wLst, wCar, wDr, wOb, wTl, wMq, wRx, wCr, wTab, wNew, wKi, wKn, wTn, wPt, sZ, sK, sS, sX, mK, mS]; omega) | omega))) (h1.2.1.2.2.1.q f2 (fun j => by (first | (dsimp only [wFq, wRsn, wOq, wNar, wFil, wCan, wLst, wCar, wDr, wOb, wTl, wMq, wRx, wCr, wTab, wNew, wKi, wKn, wTn, wPt, sZ, sK, sS, sX, mK, mS]; omega) | omega))) (h1.2.1.2.2.2.1.q f2 (by (first | (dsimp only [wFq, wRsn, wOq, wNar, wFil, wCan, wLst, wCar, wDr, wOb, wTl, wMq, wRx, wCr, wTab, wNew, wKi, wKn, wTn, wPt, sZ, sK, sS, sX, mK, mS]; omega) | omega))) (h1.2.1.2.2.2.2.fr f2 (fun j => by (first | (dsimp only [wFq, wRsn, wOq, wNar, wFil, wCan, wLst, wCar, wDr, wOb, wTl, wMq, wRx, wCr, wTab, wNew, wKi, wKn, wTn, wPt, sZ, sK, sS, sX, mK, mS]; omega) | omega))) (h1.2.2.2.1.fr f2 (fun j => by (first | (dsimp only [wFq, wRsn, wOq, wNar, wFil, wCan, wLst, wCar, wDr, wOb, wTl, wMq, wRx, wCr, wTab, wNew, wKi, wKn, wTn, wPt, sZ, sK, sS, sX, mK, mS]; omega) | omega)) (fun j _ _ => by (first | (dsimp only [wFq, wRsn, wOq, wNar, wFil, wCan, wLst, wCar, wDr, wOb, wTl, wMq, wRx, wCr, wTab, wNew, wKi, wKn, wTn, wPt, sZ, sK, sS, sX, mK, mS]; omega) | omega))), g1.fr f2 (by intro o j hw; refine ⟨?_, ?_, ?_, ?_⟩ <;> first | (dsimp only [wFq, wRsn, wOq, wNar, wFil, wCan, wLst, wCar, wDr, wOb, wTl, wMq, wRx, wCr, wTab, wNew, wKi, wKn, wTn, wPt, sZ, sK, sS, sX, mK, mS, sT, sU] at *; omega) | (dsimp only [sT, sU] at *; omega) | omega)⟩, ca1.fr f2 (by intro o j hw; first | (dsimp only [wFq, wRsn, wOq, wNar, wFil, wCan, wLst, wCar, wDr, wOb, wTl, wMq, wRx, wCr, wTab, wNew, wKi, wKn, wTn, wPt, sZ, sK, sS, sX, mK, mS, sC] at *; omega) | (dsimp only [sC] at *; omega) | omega)⟩, (fk.fr f1 (by intro o j hw; first | (dsimp only [wFq, wRsn, wOq, wNar, wFil, wCan, wLst, wCar, wDr, wOb, wTl, wMq, wRx, wCr, wTab, wNew, wKi, wKn, wTn, wPt, sZ, sK, sS, sX, mK, mS, sF] at *; omega) | (dsimp only [sF] at *; omega) | omega)).fr f2 (by intro o j hw; first | (dsimp only [wFq, wRsn, wOq, wNar, wFil, wCan, wLst, wCar, wDr, wOb, wTl, wMq, wRx, wCr, wTab, wNew, wKi, wKn, wTn, wPt, sZ, sK, sS, sX, mK, mS, sF] at *; omega) | (dsimp only [sF] at *; omega) | omega), (un.fr f1 (by intro o j hw; first | (dsimp only [wFq, wRsn, wOq, wNar, wFil, wCan, wLst, wCar, wDr, wOb, wTl, wMq, wRx, wCr, wTab, wNew, wKi, wKn, wTn, wPt, sZ, sK, sS, sX, mK, mS, sN] at *; omega) | (dsimp only [sN] at *; omega) | omega)).fr f2 (by intro o j hw; first | (dsimp only [wFq, wRsn, wOq, wNar, wFil, wCan, wLst, wCar, wDr, wOb, wTl, wMq, wRx, wCr, wTab, wNew, wKi, wKn, wTn, wPt, sZ, sK, sS, sX, mK, mS, sN] at *; omega) | (dsimp only [sN] at *; omega) | omega)⟩
  rw [n1] at q2
  rcases q with q | q <;> rcases q2 with q2 | q2
  · omega
  · exfalso; omega
  · exfalso; omega
  · rw [q.1, q2.1]
    exact resP_eq (by omega) (by omega) (nq_of h) _ (by omega) (by omega)
theorem p_isVoid {M : yM} {a : Int} (H : INV4 M) (ha : yR a) : XCi 40 96 [.inr (.inr 0), .inl a] M (fun v M1 => XCi 40 153 [.inr (.inr 92), .inl a] M1 (fun w M2 => v = w ∧ INV4 M2)) := by
  obtain ⟨⟨⟨h, g⟩, ca⟩, fk, un⟩ := H
  have hn := h.1.2.2.2.1
  have hK := h.1.1
  refine XC.deep (n11_isVoid (d := 0) rfl hn ha (ct_of h g) (sn_of h) (CA.to h g ca) (fun v M1 f1 q c1 => ?_)) (by omega)
  have ca1 : CA M1 := ca_back h g f1 (by omega) (fun _ => by omega) (fun _ => by omega) (by omega) c1
  have g1 : TX M1 := g.fr f1 (by intro o j hw; refine ⟨?_, ?_, ?_, ?_⟩ <;> first | (dsimp only [wFq, wRsn, wOq, wNar, wFil, wCan, wLst, wCar, wDr, wOb, wTl, wMq, wRx, wCr, wTab, wNew, wKi, wKn, wTn, wPt, sZ, sK, sS, sX, mK, mS, sT, sU] at *; omega) | (dsimp only [sT, sU] at *; omega) | omega)
  have h1 : INV M1 := h.c f1 (by intro o j hw; first | (dsimp only [wFq, wRsn, wOq, wNar, wFil, wCan, wLst, wCar, wDr, wOb, wTl, wMq, wRx, wCr, wTab, wNew, wKi, wKn, wTn, wPt, sZ, sK, sS, sX, mK, mS] at *; omega) | (dsimp only at *; omega) | omega) (by rw [f1.ld (by omega)]; exact h.1.2.2.2.2.2.2.2.1) (by rw [f1.ld (by omega)]; exact h.1.2.2.2.2.2.2.2.2.1) (h.1.2.2.2.2.2.2.2.2.2.1.fr f1 (by intro o j hw; first | (dsimp only [wFq, wRsn, wOq, wNar, wFil, wCan, wLst, wCar, wDr, wOb, wTl, wMq, wRx, wCr, wTab, wNew, wKi, wKn, wTn, wPt, sZ, sK, sS, sX, mK, mS] at *; omega) | (dsimp only at *; omega) | omega)) (h.1.2.2.2.2.2.2.2.2.2.2.fr f1 (by omega) (fun _ => by omega) (fun _ => by omega))
  have n1 : nr M1 0 = nr M 0 := nr_fr f1 (fun _ => by omega)
  have sm : SN (ld M 93) (ld M 1 0) (ld M 19 0) (nr M1 0) := by rw [n1]; exact (sn_of h).eq hn.2 (nq_of h)
  have dm : DGp (ld M 19 0) (nr M1 0) := by rw [n1]; exact dg_of h
  refine XC.deep (n12_isVoid (d := 0) ((mct_of h g).fr f1 (by omega) (by omega) (fun _ => by omega) (fun _ => by omega)) sm dm ha (fun w M2 f2 q2 => ?_)) (by omega)
  refine ⟨?_, ⟨⟨h1.m f2 (by intro o j hw; first | (dsimp only [wFq, wRsn, wOq, wNar, wFil, wCan, wLst, wCar, wDr, wOb, wTl, wMq, wRx, wCr, wTab, wNew, wKi, wKn, wTn, wPt, sZ, sK, sS, sX, mK, mS] at *; omega) | (dsimp only at *; omega) | omega) (h1.2.1.2.1.q f2 (fun j _ _ => by (first | (dsimp only [wFq, wRsn, wOq, wNar, wFil, wCan, wLst, wCar, wDr, wOb, wTl, wMq, wRx, wCr, wTab, wNew, wKi, wKn, wTn, wPt, sZ, sK, sS, sX, mK, mS]; omega) | omega))) (h1.2.1.2.2.1.q f2 (fun j => by (first | (dsimp only [wFq, wRsn, wOq, wNar, wFil, wCan, wLst, wCar, wDr, wOb, wTl, wMq, wRx, wCr, wTab, wNew, wKi, wKn, wTn, wPt, sZ, sK, sS, sX, mK, mS]; omega) | omega))) (h1.2.1.2.2.2.1.q f2 (by (first | (dsimp only [wFq, wRsn, wOq, wNar, wFil, wCan, wLst, wCar, wDr, wOb, wTl, wMq, wRx, wCr, wTab, wNew, wKi, wKn, wTn, wPt, sZ, sK, sS, sX, mK, mS]; omega) | omega))) (h1.2.1.2.2.2.2.fr f2 (fun j => by (first | (dsimp only [wFq, wRsn, wOq, wNar, wFil, wCan, wLst, wCar, wDr, wOb, wTl, wMq, wRx, wCr, wTab, wNew, wKi, wKn, wTn, wPt, sZ, sK, sS, sX, mK, mS]; omega) | omega))) (h1.2.2.2.1.fr f2 (fun j => by (first | (dsimp only [wFq, wRsn, wOq, wNar, wFil, wCan, wLst, wCar, wDr, wOb, wTl, wMq, wRx, wCr, wTab, wNew, wKi, wKn, wTn, wPt, sZ, sK, sS, sX, mK, mS]; omega) | omega)) (fun j _ _ => by (first | (dsimp only [wFq, wRsn, wOq, wNar, wFil, wCan, wLst, wCar, wDr, wOb, wTl, wMq, wRx, wCr, wTab, wNew, wKi, wKn, wTn, wPt, sZ, sK, sS, sX, mK, mS]; omega) | omega))), g1.fr f2 (by intro o j hw; refine ⟨?_, ?_, ?_, ?_⟩ <;> first | (dsimp only [wFq, wRsn, wOq, wNar, wFil, wCan, wLst, wCar, wDr, wOb, wTl, wMq, wRx, wCr, wTab, wNew, wKi, wKn, wTn, wPt, sZ, sK, sS, sX, mK, mS, sT, sU] at *; omega) | (dsimp only [sT, sU] at *; omega) | omega)⟩, ca1.fr f2 (by intro o j hw; first | (dsimp only [wFq, wRsn, wOq, wNar, wFil, wCan, wLst, wCar, wDr, wOb, wTl, wMq, wRx, wCr, wTab, wNew, wKi, wKn, wTn, wPt, sZ, sK, sS, sX, mK, mS, sC] at *; omega) | (dsimp only [sC] at *; omega) | omega)⟩, (fk.fr f1 (by intro o j hw; first | (dsimp only [wFq, wRsn, wOq, wNar, wFil, wCan, wLst, wCar, wDr, wOb, wTl, wMq, wRx, wCr, wTab, wNew, wKi, wKn, wTn, wPt, sZ, sK, sS, sX, mK, mS, sF] at *; omega) | (dsimp only [sF] at *; omega) | omega)).fr f2 (by intro o j hw; first | (dsimp only [wFq, wRsn, wOq, wNar, wFil, wCan, wLst, wCar, wDr, wOb, wTl, wMq, wRx, wCr, wTab, wNew, wKi, wKn, wTn, wPt, sZ, sK, sS, sX, mK, mS, sF] at *; omega) | (dsimp only [sF] at *; omega) | omega), (un.fr f1 (by intro o j hw; first | (dsimp only [wFq, wRsn, wOq, wNar, wFil, wCan, wLst, wCar, wDr, wOb, wTl, wMq, wRx, wCr, wTab, wNew, wKi, wKn, wTn, wPt, sZ, sK, sS, sX, mK, mS, sN] at *; omega) | (dsimp only [sN] at *; omega) | omega)).fr f2 (by intro o j hw; first | (dsimp only [wFq, wRsn, wOq, wNar, wFil, wCan, wLst, wCar, wDr, wOb, wTl, wMq, wRx, wCr, wTab, wNew, wKi, wKn, wTn, wPt, sZ, sK, sS, sX, mK, mS, sN] at *; omega) | (dsimp only [sN] at *; omega) | omega)⟩
  have e : emB (ld M 19 0) (resP (ld M 94) (ld M 93) (ld M 1 0) (ld M 19 0) a (ld M 20)) = emB (ld M 19 0) (resP (ld M 94) (ld M 93) (ld M 1 0) (ld M 19 0) a (nr M 0)) := emB_eq (resP_eq (by omega) (by omega) (nq_of h))
  rw [n1] at q2
  rw [e] at q
  generalize emB (ld M 19 0) (resP (ld M 94) (ld M 93) (ld M 1 0) (ld M 19 0) a (nr M 0)) = bb at q q2
  cases bb
  · simp only [Bool.false_eq_true, and_false, false_or, and_true] at q q2
    omega
  · simp only [Bool.true_eq_false, and_false, or_false, and_true] at q q2
    omega

section
variable {T T' f f' X X' κ κ' : Int → Int} {k n : Int}
theorem nK_cgf (hf : ∀ i : Int, 0 ≤ i → i < k → f i = f' i) (hv : KV k n κ) (hn : n ≤ 8) {i c : Int} (hi : 0 ≤ i ∧ i < n) (hc : 0 ≤ c ∧ c < n) : nK f κ (8 * i + c) = nK f' κ (8 * i + c) := by
  rcases Int.lt_trichotomy i c with w | w | w
  · rw [nK_lt ⟨hi.1, w, by omega⟩, nK_lt ⟨hi.1, w, by omega⟩]
  · subst w
    rw [nK_dg (by omega), nK_dg (by omega)]
  · have v := hv c i hc.1 w hi.2
    rw [nK_gt ⟨hc.1, w, by omega⟩, nK_gt ⟨hc.1, w, by omega⟩, hf _ v.1 v.2]
theorem fl_cgT (hT : ∀ a b, jP T k a b = jP T' k a b) (hf : ∀ i : Int, 0 ≤ i → i < k → f i = f' i) (hn : n ≤ 8) (e : EqN X X') (hv : KV k n κ) : Fl T f k n X κ ↔ Fl T' f' k n X' κ := by
  have nk : ∀ i c : Int, 0 ≤ i → i < n → 0 ≤ c → c < n → nK f κ (8 * i + c) = nK f' κ (8 * i + c) := fun i c i1 i2 c1 c2 => nK_cgf hf hv hn ⟨i1, i2⟩ ⟨c1, c2⟩
  constructor
  · rintro ⟨s, cl⟩
    refine ⟨fun i c i1 i2 c1 c2 ic => ?_, fun i j c i1 i2 j1 j2 c1 c2 ij jc ic => ?_⟩
    · rw [← nk i c i1 i2 c1 c2, ← e _ (by omega) (by omega)]
      exact s i c i1 i2 c1 c2 ic
    · have w := cl i j c i1 i2 j1 j2 c1 c2 ij jc ic
      unfold stp at w ⊢
      rw [← nk i c i1 i2 c1 c2, ← nk i j i1 i2 j1 j2, ← nk j c j1 j2 c1 c2, ← hT]
      exact w
  · rintro ⟨s, cl⟩
    refine ⟨fun i c i1 i2 c1 c2 ic => ?_, fun i j c i1 i2 j1 j2 c1 c2 ij jc ic => ?_⟩
    · rw [nk i c i1 i2 c1 c2, e _ (by omega) (by omega)]
      exact s i c i1 i2 c1 c2 ic
    · have w := cl i j c i1 i2 j1 j2 c1 c2 ij jc ic
      unfold stp at w ⊢
      rw [nk i c i1 i2 c1 c2, nk i j i1 i2 j1 j2, nk j c j1 j2 c1 c2, hT]
      exact w
theorem lx_cgT (hT : ∀ a b, jP T k a b = jP T' k a b) (hf : ∀ i : Int, 0 ≤ i → i < k → f i = f' i) (hn : n ≤ 8) (e : EqN X X') (hv : KV k n κ) (h : LX T f k n X κ) : LX T' f' k n X' κ := ⟨(fl_cgT hT hf hn e hv).mp h.1, fun i c a b d κ' v' fl ag => h.2 i c a b d κ' v' ((fl_cgT hT hf hn e v').mpr fl) ag⟩
theorem ct_cgT (hT : ∀ a b, jP T k a b = jP T' k a b) (hf : ∀ i : Int, 0 ≤ i → i < k → f i = f' i) (hk : 1 ≤ k) (hn : n ≤ 8) (e : EqN X X') : ct (Fl T f k n X) (UV k n) = ct (Fl T' f' k n X') (UV k n) := ct_kv hk hn (fun κ v => fl_cgT hT hf hn e v)
theorem sur_cgT (hT : ∀ a b, jP T k a b = jP T' k a b) (hf : ∀ i : Int, 0 ≤ i → i < k → f i = f' i) (hn : n ≤ 8) (e : EqN X X') {p q v : Int} (hp : 0 ≤ p ∧ p < n) (hq : 0 ≤ q ∧ q < n) (h : SUR T f k n X p q v) : SUR T' f' k n X' p q v := ⟨h.1, fun b => by
  rw [h.2 b]
  constructor
  · rintro ⟨κ, v, fl, w⟩
    exact ⟨κ, v, (fl_cgT hT hf hn e v).mp fl, by rw [← nK_cgf hf v hn hp hq]; exact w⟩
  · rintro ⟨κ, v, fl, w⟩
    exact ⟨κ, v, (fl_cgT hT hf hn e v).mpr fl, by rw [nK_cgf hf v hn hp hq]; exact w⟩⟩
end
theorem ctc_of {M : yM} (h : INV M) (g : TX M) : CT M (ld M 3) (ld M 2) (ld M 1 0) :=
  ⟨rfl, ⟨h.1.1, h.1.2.2.1, g.1.2.1, g.1.2.2.1⟩, fun a b ha hb => by
    have w := cg_of h g
    rw [jj h g ha hb, w.1, h.2.2.1.1], fun s hs => ts_at h hs⟩
theorem snc_of {M : yM} (h : INV M) : SN (ld M 2) (ld M 1 0) (ld M 19 0) (ld M 20) := fun i c i1 i2 c1 c2 ic => by
  have hn := h.1.2.2.2.1
  exact h.2.2.2.2 i c i1 (by omega) c1 (by omega) ic
theorem d8_of {M : yM} (h : INV M) : D8 (ld M 20) := fun d d1 d2 => by
  have q := h.2.1.2.1.2 d d1 (by omega)
  unfold cel at q
  rw [h.2.2.2.1 _ (by omega) (by omega), show 8 * d + d = 0 + 8 * d + d by omega]
  exact q
theorem tr_of {M : yM} (h : INV M) (g : TX M) : ∀ a b : Int, 0 ≤ a → a < ld M 1 0 → 0 ≤ b → b < ld M 1 0 → 0 ≤ ld M 3 (8 * a + b) ∧ ld M 3 (8 * a + b) < 256 := fun a b a1 a2 b1 b2 => by
  have w := g.1.2.1 a b a1 a2 b1 b2
  have h8 := al_le h.1.1
  omega
theorem dm_of {M : yM} (h : INV M) : ∀ i : Int, 0 ≤ i → i < ld M 19 0 → nr M 0 (8 * i + i) = 1 := fun i i1 i2 => by
  have hn := h.1.2.2.2.1
  have q := h.2.1.2.1.2 i i1 (by omega)
  unfold cel at q
  unfold nr
  rw [show 0 + (8 * i + i) = 0 + 8 * i + i by omega]
  exact q
theorem hf_of {M : yM} (h : INV M) : ∀ i : Int, 0 ≤ i → i < ld M 1 0 → ld M 2 i = ld M 93 i := fun i a1 a2 => h.2.2.1.2.2.2.1 i a1 a2
theorem fk_back {W : Nat → Int → Prop} {M M1 : yM} (f1 : fr W M M1) (e1 : ¬ W 1 0) (e2 : ∀ j, ¬ W 2 j) (e3 : ∀ j, ¬ W 3 j) (e4 : ¬ W 19 0) (c : FCC M1 (ld M 3) (ld M 2) (ld M 1 0) (ld M 19 0)) : FK M1 := by
  unfold FK
  rw [f1.ld e1, f1.ld e4, show ld M1 2 = ld M 2 from funext fun j => f1.ld (e2 j), show ld M1 3 = ld M 3 from funext fun j => f1.ld (e3 j)]
  exact c
theorem p_fillings {M : yM} {a : Int} (H : INV4 M) (ha : yR a) : XCi 40 97 [.inr (.inr 0), .inl a] M (fun v M1 => XCi 40 156 [.inr (.inr 92), .inl a] M1 (fun w M2 => v = w ∧ INV4 M2)) := by
  obtain ⟨⟨⟨h, g⟩, ca⟩, fk, un⟩ := H
  have hn := h.1.2.2.2.1
  have hK := h.1.1
  have hT := (cg_of h g).1
  have hf := hf_of h
  have nq := nq_of h
  refine XC.deep (n11_fillings (d := 0) rfl hn (ctc_of h g) (snc_of h) (d8_of h) rfl (tr_of h g) un.1 fk h.1.2.2.2.2.2.2.2.2.1 ha (fun v M1 f1 q fc => ?_)) (by omega)
  have ca1 : CA M1 := ca.fr f1 (by intro o j hw; first | (dsimp only [wFq, wRsn, wOq, wNar, wFil, wCan, wLst, wCar, wDr, wOb, wTl, wMq, wRx, wCr, wTab, wNew, wKi, wKn, wTn, wPt, sZ, sK, sS, sX, mK, mS, sC] at *; omega) | (dsimp only [sC] at *; omega) | omega)
  have fk1 : FK M1 := fk_back f1 (by dsimp only [wFq]; omega) (fun _ => by dsimp only [wFq]; omega) (fun _ => by dsimp only [wFq]; omega) (by dsimp only [wFq]; omega) fc.1
  have un1 : UN M1 := un.fr f1 (by intro o j hw; first | (dsimp only [wFq, wRsn, wOq, wNar, wFil, wCan, wLst, wCar, wDr, wOb, wTl, wMq, wRx, wCr, wTab, wNew, wKi, wKn, wTn, wPt, sZ, sK, sS, sX, mK, mS, sN] at *; omega) | (dsimp only [sN] at *; omega) | omega)
  have g1 : TX M1 := g.fr f1 (by intro o j hw; refine ⟨?_, ?_, ?_, ?_⟩ <;> first | (dsimp only [wFq, wRsn, wOq, wNar, wFil, wCan, wLst, wCar, wDr, wOb, wTl, wMq, wRx, wCr, wTab, wNew, wKi, wKn, wTn, wPt, sZ, sK, sS, sX, mK, mS, sT, sU] at *; omega) | (dsimp only [sT, sU] at *; omega) | omega)
  have h1 : INV M1 := h.c f1 (by intro o j hw; first | (dsimp only [wFq, wRsn, wOq, wNar, wFil, wCan, wLst, wCar, wDr, wOb, wTl, wMq, wRx, wCr, wTab, wNew, wKi, wKn, wTn, wPt, sZ, sK, sS, sX, mK, mS] at *; omega) | (dsimp only at *; omega) | omega) (by rw [f1.ld (by dsimp only [wFq]; omega)]; exact h.1.2.2.2.2.2.2.2.1) fc.2 (h.1.2.2.2.2.2.2.2.2.2.1.fr f1 (by intro o j hw; first | (dsimp only [wFq, wRsn, wOq, wNar, wFil, wCan, wLst, wCar, wDr, wOb, wTl, wMq, wRx, wCr, wTab, wNew, wKi, wKn, wTn, wPt, sZ, sK, sS, sX, mK, mS] at *; omega) | (dsimp only at *; omega) | omega)) (h.1.2.2.2.2.2.2.2.2.2.2.fr f1 (by dsimp only [wFq]; omega) (fun _ => by dsimp only [wFq]; omega) (fun _ => by dsimp only [wFq]; omega))
  have n1 : nr M1 0 = nr M 0 := nr_fr f1 (fun _ => by dsimp only [wFq]; omega)
  have sm : SN (ld M 93) (ld M 1 0) (ld M 19 0) (nr M1 0) := by rw [n1]; exact (sn_of h).eq hn.2 nq
  have dm : ∀ i : Int, 0 ≤ i → i < ld M 19 0 → nr M1 0 (8 * i + i) = 1 := by rw [n1]; exact dm_of h
  refine XC.deep (n12_fillings (d := 0) ((mct_of h g).fr f1 (by dsimp only [wFq]; omega) (by dsimp only [wFq]; omega) (fun _ => by dsimp only [wFq]; omega) (fun _ => by dsimp only [wFq]; omega)) sm dm ha (fun w M2 f2 q2 => ?_)) (by omega)
  refine ⟨?_, ⟨⟨h1.m f2 (by intro o j hw; first | (dsimp only [wFq, wRsn, wOq, wNar, wFil, wCan, wLst, wCar, wDr, wOb, wTl, wMq, wRx, wCr, wTab, wNew, wKi, wKn, wTn, wPt, sZ, sK, sS, sX, mK, mS] at *; omega) | (dsimp only at *; omega) | omega) (h1.2.1.2.1.q f2 (fun j _ _ => by (first | (dsimp only [wFq, wRsn, wOq, wNar, wFil, wCan, wLst, wCar, wDr, wOb, wTl, wMq, wRx, wCr, wTab, wNew, wKi, wKn, wTn, wPt, sZ, sK, sS, sX, mK, mS]; omega) | omega))) (h1.2.1.2.2.1.q f2 (fun j => by (first | (dsimp only [wFq, wRsn, wOq, wNar, wFil, wCan, wLst, wCar, wDr, wOb, wTl, wMq, wRx, wCr, wTab, wNew, wKi, wKn, wTn, wPt, sZ, sK, sS, sX, mK, mS]; omega) | omega))) (h1.2.1.2.2.2.1.q f2 (by (first | (dsimp only [wFq, wRsn, wOq, wNar, wFil, wCan, wLst, wCar, wDr, wOb, wTl, wMq, wRx, wCr, wTab, wNew, wKi, wKn, wTn, wPt, sZ, sK, sS, sX, mK, mS]; omega) | omega))) (h1.2.1.2.2.2.2.fr f2 (fun j => by (first | (dsimp only [wFq, wRsn, wOq, wNar, wFil, wCan, wLst, wCar, wDr, wOb, wTl, wMq, wRx, wCr, wTab, wNew, wKi, wKn, wTn, wPt, sZ, sK, sS, sX, mK, mS]; omega) | omega))) (h1.2.2.2.1.fr f2 (fun j => by (first | (dsimp only [wFq, wRsn, wOq, wNar, wFil, wCan, wLst, wCar, wDr, wOb, wTl, wMq, wRx, wCr, wTab, wNew, wKi, wKn, wTn, wPt, sZ, sK, sS, sX, mK, mS]; omega) | omega)) (fun j _ _ => by (first | (dsimp only [wFq, wRsn, wOq, wNar, wFil, wCan, wLst, wCar, wDr, wOb, wTl, wMq, wRx, wCr, wTab, wNew, wKi, wKn, wTn, wPt, sZ, sK, sS, sX, mK, mS]; omega) | omega))), g1.fr f2 (by intro o j hw; refine ⟨?_, ?_, ?_, ?_⟩ <;> first | (dsimp only [wFq, wRsn, wOq, wNar, wFil, wCan, wLst, wCar, wDr, wOb, wTl, wMq, wRx, wCr, wTab, wNew, wKi, wKn, wTn, wPt, sZ, sK, sS, sX, mK, mS, sT, sU] at *; omega) | (dsimp only [sT, sU] at *; omega) | omega)⟩, ca1.fr f2 (by intro o j hw; first | (dsimp only [wFq, wRsn, wOq, wNar, wFil, wCan, wLst, wCar, wDr, wOb, wTl, wMq, wRx, wCr, wTab, wNew, wKi, wKn, wTn, wPt, sZ, sK, sS, sX, mK, mS, sC] at *; omega) | (dsimp only [sC] at *; omega) | omega)⟩, fk1.fr f2 (by intro o j hw; first | (dsimp only [wFq, wRsn, wOq, wNar, wFil, wCan, wLst, wCar, wDr, wOb, wTl, wMq, wRx, wCr, wTab, wNew, wKi, wKn, wTn, wPt, sZ, sK, sS, sX, mK, mS, sF] at *; omega) | (dsimp only [sF] at *; omega) | omega), un1.fr f2 (by intro o j hw; first | (dsimp only [wFq, wRsn, wOq, wNar, wFil, wCan, wLst, wCar, wDr, wOb, wTl, wMq, wRx, wCr, wTab, wNew, wKi, wKn, wTn, wPt, sZ, sK, sS, sX, mK, mS, sN] at *; omega) | (dsimp only [sN] at *; omega) | omega)⟩
  rw [n1] at q2
  have ce := ct_cgT (X := ld M 20) (X' := nr M 0) hT hf hK.1 hn.2 nq
  rw [ce] at q
  omega
theorem p_first {M : yM} {a b : Int} (H : INV4 M) (ha : yR a) (hb : yR b) : XCi 40 98 [.inr (.inr 0), .inl a, .inl b] M (fun v M1 => XCi 40 157 [.inr (.inr 92), .inl a, .inl b] M1 (fun w M2 => v = w ∧ INV4 M2)) := by
  obtain ⟨⟨⟨h, g⟩, ca⟩, fk, un⟩ := H
  have hn := h.1.2.2.2.1
  have hK := h.1.1
  have hT := (cg_of h g).1
  have hf := hf_of h
  have nq := nq_of h
  refine XC.deep (n11_first (d := 0) rfl hn (ctc_of h g) (snc_of h) (d8_of h) rfl (tr_of h g) un.1 fk h.1.2.2.2.2.2.2.2.2.1 ha hb (fun v M1 f1 q fc => ?_)) (by omega)
  have ca1 : CA M1 := ca.fr f1 (by intro o j hw; first | (dsimp only [wFq, wRsn, wOq, wNar, wFil, wCan, wLst, wCar, wDr, wOb, wTl, wMq, wRx, wCr, wTab, wNew, wKi, wKn, wTn, wPt, sZ, sK, sS, sX, mK, mS, sC] at *; omega) | (dsimp only [sC] at *; omega) | omega)
  have fk1 : FK M1 := fk_back f1 (by dsimp only [wFq]; omega) (fun _ => by dsimp only [wFq]; omega) (fun _ => by dsimp only [wFq]; omega) (by dsimp only [wFq]; omega) fc.1
  have un1 : UN M1 := un.fr f1 (by intro o j hw; first | (dsimp only [wFq, wRsn, wOq, wNar, wFil, wCan, wLst, wCar, wDr, wOb, wTl, wMq, wRx, wCr, wTab, wNew, wKi, wKn, wTn, wPt, sZ, sK, sS, sX, mK, mS, sN] at *; omega) | (dsimp only [sN] at *; omega) | omega)
  have g1 : TX M1 := g.fr f1 (by intro o j hw; refine ⟨?_, ?_, ?_, ?_⟩ <;> first | (dsimp only [wFq, wRsn, wOq, wNar, wFil, wCan, wLst, wCar, wDr, wOb, wTl, wMq, wRx, wCr, wTab, wNew, wKi, wKn, wTn, wPt, sZ, sK, sS, sX, mK, mS, sT, sU] at *; omega) | (dsimp only [sT, sU] at *; omega) | omega)
  have h1 : INV M1 := h.c f1 (by intro o j hw; first | (dsimp only [wFq, wRsn, wOq, wNar, wFil, wCan, wLst, wCar, wDr, wOb, wTl, wMq, wRx, wCr, wTab, wNew, wKi, wKn, wTn, wPt, sZ, sK, sS, sX, mK, mS] at *; omega) | (dsimp only at *; omega) | omega) (by rw [f1.ld (by dsimp only [wFq]; omega)]; exact h.1.2.2.2.2.2.2.2.1) fc.2 (h.1.2.2.2.2.2.2.2.2.2.1.fr f1 (by intro o j hw; first | (dsimp only [wFq, wRsn, wOq, wNar, wFil, wCan, wLst, wCar, wDr, wOb, wTl, wMq, wRx, wCr, wTab, wNew, wKi, wKn, wTn, wPt, sZ, sK, sS, sX, mK, mS] at *; omega) | (dsimp only at *; omega) | omega)) (h.1.2.2.2.2.2.2.2.2.2.2.fr f1 (by dsimp only [wFq]; omega) (fun _ => by dsimp only [wFq]; omega) (fun _ => by dsimp only [wFq]; omega))
  have n1 : nr M1 0 = nr M 0 := nr_fr f1 (fun _ => by dsimp only [wFq]; omega)
  have sm : SN (ld M 93) (ld M 1 0) (ld M 19 0) (nr M1 0) := by rw [n1]; exact (sn_of h).eq hn.2 nq
  have dm : ∀ i : Int, 0 ≤ i → i < ld M 19 0 → nr M1 0 (8 * i + i) = 1 := by rw [n1]; exact dm_of h
  refine XC.deep (n12_first (d := 0) ((mct_of h g).fr f1 (by dsimp only [wFq]; omega) (by dsimp only [wFq]; omega) (fun _ => by dsimp only [wFq]; omega) (fun _ => by dsimp only [wFq]; omega)) sm dm ha hb (fun w M2 f2 q2 => ?_)) (by omega)
  refine ⟨?_, ⟨⟨h1.m f2 (by intro o j hw; first | (dsimp only [wFq, wRsn, wOq, wNar, wFil, wCan, wLst, wCar, wDr, wOb, wTl, wMq, wRx, wCr, wTab, wNew, wKi, wKn, wTn, wPt, sZ, sK, sS, sX, mK, mS] at *; omega) | (dsimp only at *; omega) | omega) (h1.2.1.2.1.q f2 (fun j _ _ => by (first | (dsimp only [wFq, wRsn, wOq, wNar, wFil, wCan, wLst, wCar, wDr, wOb, wTl, wMq, wRx, wCr, wTab, wNew, wKi, wKn, wTn, wPt, sZ, sK, sS, sX, mK, mS]; omega) | omega))) (h1.2.1.2.2.1.q f2 (fun j => by (first | (dsimp only [wFq, wRsn, wOq, wNar, wFil, wCan, wLst, wCar, wDr, wOb, wTl, wMq, wRx, wCr, wTab, wNew, wKi, wKn, wTn, wPt, sZ, sK, sS, sX, mK, mS]; omega) | omega))) (h1.2.1.2.2.2.1.q f2 (by (first | (dsimp only [wFq, wRsn, wOq, wNar, wFil, wCan, wLst, wCar, wDr, wOb, wTl, wMq, wRx, wCr, wTab, wNew, wKi, wKn, wTn, wPt, sZ, sK, sS, sX, mK, mS]; omega) | omega))) (h1.2.1.2.2.2.2.fr f2 (fun j => by (first | (dsimp only [wFq, wRsn, wOq, wNar, wFil, wCan, wLst, wCar, wDr, wOb, wTl, wMq, wRx, wCr, wTab, wNew, wKi, wKn, wTn, wPt, sZ, sK, sS, sX, mK, mS]; omega) | omega))) (h1.2.2.2.1.fr f2 (fun j => by (first | (dsimp only [wFq, wRsn, wOq, wNar, wFil, wCan, wLst, wCar, wDr, wOb, wTl, wMq, wRx, wCr, wTab, wNew, wKi, wKn, wTn, wPt, sZ, sK, sS, sX, mK, mS]; omega) | omega)) (fun j _ _ => by (first | (dsimp only [wFq, wRsn, wOq, wNar, wFil, wCan, wLst, wCar, wDr, wOb, wTl, wMq, wRx, wCr, wTab, wNew, wKi, wKn, wTn, wPt, sZ, sK, sS, sX, mK, mS]; omega) | omega))), g1.fr f2 (by intro o j hw; refine ⟨?_, ?_, ?_, ?_⟩ <;> first | (dsimp only [wFq, wRsn, wOq, wNar, wFil, wCan, wLst, wCar, wDr, wOb, wTl, wMq, wRx, wCr, wTab, wNew, wKi, wKn, wTn, wPt, sZ, sK, sS, sX, mK, mS, sT, sU] at *; omega) | (dsimp only [sT, sU] at *; omega) | omega)⟩, ca1.fr f2 (by intro o j hw; first | (dsimp only [wFq, wRsn, wOq, wNar, wFil, wCan, wLst, wCar, wDr, wOb, wTl, wMq, wRx, wCr, wTab, wNew, wKi, wKn, wTn, wPt, sZ, sK, sS, sX, mK, mS, sC] at *; omega) | (dsimp only [sC] at *; omega) | omega)⟩, fk1.fr f2 (by intro o j hw; first | (dsimp only [wFq, wRsn, wOq, wNar, wFil, wCan, wLst, wCar, wDr, wOb, wTl, wMq, wRx, wCr, wTab, wNew, wKi, wKn, wTn, wPt, sZ, sK, sS, sX, mK, mS, sF] at *; omega) | (dsimp only [sF] at *; omega) | omega), un1.fr f2 (by intro o j hw; first | (dsimp only [wFq, wRsn, wOq, wNar, wFil, wCan, wLst, wCar, wDr, wOb, wTl, wMq, wRx, wCr, wTab, wNew, wKi, wKn, wTn, wPt, sZ, sK, sS, sX, mK, mS, sN] at *; omega) | (dsimp only [sN] at *; omega) | omega)⟩
  rw [n1] at q2
  have ce := ct_cgT (X := ld M 20) (X' := nr M 0) hT hf hK.1 hn.2 nq
  rcases q with q | ⟨ok, q⟩ <;> rcases q2 with q2 | ⟨ok2, q2⟩
  · omega
  · exact absurd ok2 q.2
  · exact absurd ok q2.2
  · rw [ce] at q
    rcases q with q | ⟨κ, kv, lx, e⟩ <;> rcases q2 with q2 | ⟨κ2, kv2, lx2, e2⟩
    · omega
    · exact absurd lx2.1 ((ct_no' hK.1 hn.2).mp q.2 κ2 kv2)
    · exact absurd (lx_cgT hT hf hn.2 nq kv lx).1 ((ct_no' hK.1 hn.2).mp q2.2 κ kv)
    · have u := LX.un hn.2 kv kv2 (lx_cgT hT hf hn.2 nq kv lx) lx2
      rw [e, e2, nK_cgf hf kv hn.2 ok.1 ok.2, nK_cg hn.2 u ok.1 ok.2]
theorem p_sure {M : yM} {a b : Int} (H : INV4 M) (ha : yR a) (hb : yR b) : XCi 40 99 [.inr (.inr 0), .inl a, .inl b] M (fun v M1 => XCi 40 158 [.inr (.inr 92), .inl a, .inl b] M1 (fun w M2 => v = w ∧ INV4 M2)) := by
  obtain ⟨⟨⟨h, g⟩, ca⟩, fk, un⟩ := H
  have hn := h.1.2.2.2.1
  have hK := h.1.1
  have hT := (cg_of h g).1
  have hf := hf_of h
  have nq := nq_of h
  refine XC.deep (n11_sure (d := 0) rfl hn (ctc_of h g) (snc_of h) (d8_of h) rfl (tr_of h g) un.1 fk h.1.2.2.2.2.2.2.2.2.1 ha hb (fun v M1 f1 q fc => ?_)) (by omega)
  have ca1 : CA M1 := ca.fr f1 (by intro o j hw; first | (dsimp only [wFq, wRsn, wOq, wNar, wFil, wCan, wLst, wCar, wDr, wOb, wTl, wMq, wRx, wCr, wTab, wNew, wKi, wKn, wTn, wPt, sZ, sK, sS, sX, mK, mS, sC] at *; omega) | (dsimp only [sC] at *; omega) | omega)
  have fk1 : FK M1 := fk_back f1 (by dsimp only [wFq]; omega) (fun _ => by dsimp only [wFq]; omega) (fun _ => by dsimp only [wFq]; omega) (by dsimp only [wFq]; omega) fc.1
  have un1 : UN M1 := un.fr f1 (by intro o j hw; first | (dsimp only [wFq, wRsn, wOq, wNar, wFil, wCan, wLst, wCar, wDr, wOb, wTl, wMq, wRx, wCr, wTab, wNew, wKi, wKn, wTn, wPt, sZ, sK, sS, sX, mK, mS, sN] at *; omega) | (dsimp only [sN] at *; omega) | omega)
  have g1 : TX M1 := g.fr f1 (by intro o j hw; refine ⟨?_, ?_, ?_, ?_⟩ <;> first | (dsimp only [wFq, wRsn, wOq, wNar, wFil, wCan, wLst, wCar, wDr, wOb, wTl, wMq, wRx, wCr, wTab, wNew, wKi, wKn, wTn, wPt, sZ, sK, sS, sX, mK, mS, sT, sU] at *; omega) | (dsimp only [sT, sU] at *; omega) | omega)
  have h1 : INV M1 := h.c f1 (by intro o j hw; first | (dsimp only [wFq, wRsn, wOq, wNar, wFil, wCan, wLst, wCar, wDr, wOb, wTl, wMq, wRx, wCr, wTab, wNew, wKi, wKn, wTn, wPt, sZ, sK, sS, sX, mK, mS] at *; omega) | (dsimp only at *; omega) | omega) (by rw [f1.ld (by dsimp only [wFq]; omega)]; exact h.1.2.2.2.2.2.2.2.1) fc.2 (h.1.2.2.2.2.2.2.2.2.2.1.fr f1 (by intro o j hw; first | (dsimp only [wFq, wRsn, wOq, wNar, wFil, wCan, wLst, wCar, wDr, wOb, wTl, wMq, wRx, wCr, wTab, wNew, wKi, wKn, wTn, wPt, sZ, sK, sS, sX, mK, mS] at *; omega) | (dsimp only at *; omega) | omega)) (h.1.2.2.2.2.2.2.2.2.2.2.fr f1 (by dsimp only [wFq]; omega) (fun _ => by dsimp only [wFq]; omega) (fun _ => by dsimp only [wFq]; omega))
  have n1 : nr M1 0 = nr M 0 := nr_fr f1 (fun _ => by dsimp only [wFq]; omega)
  have sm : SN (ld M 93) (ld M 1 0) (ld M 19 0) (nr M1 0) := by rw [n1]; exact (sn_of h).eq hn.2 nq
  have dm : ∀ i : Int, 0 ≤ i → i < ld M 19 0 → nr M1 0 (8 * i + i) = 1 := by rw [n1]; exact dm_of h
  refine XC.deep (n12_sure (d := 0) ((mct_of h g).fr f1 (by dsimp only [wFq]; omega) (by dsimp only [wFq]; omega) (fun _ => by dsimp only [wFq]; omega) (fun _ => by dsimp only [wFq]; omega)) sm dm ha hb (fun w M2 f2 q2 => ?_)) (by omega)
  refine ⟨?_, ⟨⟨h1.m f2 (by intro o j hw; first | (dsimp only [wFq, wRsn, wOq, wNar, wFil, wCan, wLst, wCar, wDr, wOb, wTl, wMq, wRx, wCr, wTab, wNew, wKi, wKn, wTn, wPt, sZ, sK, sS, sX, mK, mS] at *; omega) | (dsimp only at *; omega) | omega) (h1.2.1.2.1.q f2 (fun j _ _ => by (first | (dsimp only [wFq, wRsn, wOq, wNar, wFil, wCan, wLst, wCar, wDr, wOb, wTl, wMq, wRx, wCr, wTab, wNew, wKi, wKn, wTn, wPt, sZ, sK, sS, sX, mK, mS]; omega) | omega))) (h1.2.1.2.2.1.q f2 (fun j => by (first | (dsimp only [wFq, wRsn, wOq, wNar, wFil, wCan, wLst, wCar, wDr, wOb, wTl, wMq, wRx, wCr, wTab, wNew, wKi, wKn, wTn, wPt, sZ, sK, sS, sX, mK, mS]; omega) | omega))) (h1.2.1.2.2.2.1.q f2 (by (first | (dsimp only [wFq, wRsn, wOq, wNar, wFil, wCan, wLst, wCar, wDr, wOb, wTl, wMq, wRx, wCr, wTab, wNew, wKi, wKn, wTn, wPt, sZ, sK, sS, sX, mK, mS]; omega) | omega))) (h1.2.1.2.2.2.2.fr f2 (fun j => by (first | (dsimp only [wFq, wRsn, wOq, wNar, wFil, wCan, wLst, wCar, wDr, wOb, wTl, wMq, wRx, wCr, wTab, wNew, wKi, wKn, wTn, wPt, sZ, sK, sS, sX, mK, mS]; omega) | omega))) (h1.2.2.2.1.fr f2 (fun j => by (first | (dsimp only [wFq, wRsn, wOq, wNar, wFil, wCan, wLst, wCar, wDr, wOb, wTl, wMq, wRx, wCr, wTab, wNew, wKi, wKn, wTn, wPt, sZ, sK, sS, sX, mK, mS]; omega) | omega)) (fun j _ _ => by (first | (dsimp only [wFq, wRsn, wOq, wNar, wFil, wCan, wLst, wCar, wDr, wOb, wTl, wMq, wRx, wCr, wTab, wNew, wKi, wKn, wTn, wPt, sZ, sK, sS, sX, mK, mS]; omega) | omega))), g1.fr f2 (by intro o j hw; refine ⟨?_, ?_, ?_, ?_⟩ <;> first | (dsimp only [wFq, wRsn, wOq, wNar, wFil, wCan, wLst, wCar, wDr, wOb, wTl, wMq, wRx, wCr, wTab, wNew, wKi, wKn, wTn, wPt, sZ, sK, sS, sX, mK, mS, sT, sU] at *; omega) | (dsimp only [sT, sU] at *; omega) | omega)⟩, ca1.fr f2 (by intro o j hw; first | (dsimp only [wFq, wRsn, wOq, wNar, wFil, wCan, wLst, wCar, wDr, wOb, wTl, wMq, wRx, wCr, wTab, wNew, wKi, wKn, wTn, wPt, sZ, sK, sS, sX, mK, mS, sC] at *; omega) | (dsimp only [sC] at *; omega) | omega)⟩, fk1.fr f2 (by intro o j hw; first | (dsimp only [wFq, wRsn, wOq, wNar, wFil, wCan, wLst, wCar, wDr, wOb, wTl, wMq, wRx, wCr, wTab, wNew, wKi, wKn, wTn, wPt, sZ, sK, sS, sX, mK, mS, sF] at *; omega) | (dsimp only [sF] at *; omega) | omega), un1.fr f2 (by intro o j hw; first | (dsimp only [wFq, wRsn, wOq, wNar, wFil, wCan, wLst, wCar, wDr, wOb, wTl, wMq, wRx, wCr, wTab, wNew, wKi, wKn, wTn, wPt, sZ, sK, sS, sX, mK, mS, sN] at *; omega) | (dsimp only [sN] at *; omega) | omega)⟩
  rw [n1] at q2
  have ce := ct_cgT (X := ld M 20) (X' := nr M 0) hT hf hK.1 hn.2 nq
  rcases q with q | ⟨ok, q⟩ <;> rcases q2 with q2 | ⟨ok2, q2⟩
  · omega
  · exact absurd ok2 q.2
  · exact absurd ok q2.2
  · rw [ce] at q
    rcases q with q | ⟨q, sq⟩ <;> rcases q2 with q2 | ⟨q2, sq2⟩
    · omega
    · omega
    · omega
    · exact (sur_cgT hT hf hn.2 nq ok.1 ok.2 sq).un sq2
