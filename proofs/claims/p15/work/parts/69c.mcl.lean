/-! MODEL: WHAT A SEARCH LEAVES -/
def FRES (T f : Int → Int) (k n lim : Int) (X : Int → Int) (M' : yM) : Prop := (0 ≤ ld M' 92 17 ∧ ld M' 92 17 ≤ lim) ∧ ((ld M' 92 17 = ct (Fl T f k n X) (UV k n) ∧ BQ f k n (Fl T f k n X) (fun _ => 0) (ld M' 105)) ∨ (ld M' 92 17 = lim ∧ lim ≤ ct (Fl T f k n X) (UV k n))) ∧ (ld M' 92 17 = 0 → ∀ p q : Int, 0 ≤ p → p < n → 0 ≤ q → q < n → ld M' 104 (8 * p + q) = -9) ∧ (ld M' 92 17 ≠ 0 → ∃ κ, KV k n κ ∧ LX T f k n X κ ∧ LF n f κ (ld M' 104))
section
variable {T f : Int → Int} {k n lim : Int} {X Y : Int → Int} {M M' : yM}
theorem lx_cg {κ : Int → Int} (e : ∀ κ, KV k n κ → (Fl T f k n Y κ ↔ Fl T f k n X κ)) (hv : KV k n κ) (h : LX T f k n Y κ) : LX T f k n X κ := ⟨(e κ hv).mp h.1, fun i c a b d κ' v' fl ag => h.2 i c a b d κ' v' ((e κ' v').mpr fl) ag⟩
theorem FRES.eq (hk : 1 ≤ k) (hn : n ≤ 8) (e : EqN Y X) (h : FRES T f k n lim Y M') : FRES T f k n lim X M' := by
  have ek : ∀ κ, KV k n κ → (Fl T f k n Y κ ↔ Fl T f k n X κ) := fun κ _ => fl_eq hn e
  have ce := ct_kv (P := Fl T f k n Y) (P' := Fl T f k n X) hk hn ek
  obtain ⟨h1, h2, h3, h4⟩ := h
  rw [ce] at h2
  refine ⟨h1, h2.imp (fun q => ⟨q.1, q.2.cg ek⟩) (fun q => q), h3, fun q => ?_⟩
  obtain ⟨κ, v, lx, lf⟩ := h4 q
  exact ⟨κ, v, lx_cg ek v lx, lf⟩
theorem fres_no (hk : 1 ≤ k) (hn : n ≤ 8) (hl : 1 ≤ lim) (h : ∀ κ, KV k n κ → ¬ Fl T f k n X κ) (t : ld M' 92 17 = 0) (z5 : EqN (fun _ => 0) (ld M' 105)) (z4 : ∀ j : Int, 0 ≤ j → j < 64 → ld M' 104 j = -9) : FRES T f k n lim X M' := ⟨by omega, Or.inl ⟨by rw [t, ct_no hk hn h], (BQ.no h).rp hn (fun _ _ _ => rfl) z5⟩, fun _ p q _ _ _ _ => z4 _ (by omega) (by omega), fun q => absurd t q⟩
theorem fres_q (hk : 1 ≤ k) (hn : n ≤ 8) (e : ∀ κ, KV k n κ → (Fl T f k n Y κ ↔ Fl T f k n X κ)) (t : ld M 92 17 = 0) (z5 : EqN (ld M 105) (fun _ => 0)) (z4 : ∀ j : Int, 0 ≤ j → j < 64 → ld M 104 j = -9) (hl : ld M' 92 17 ≤ lim) (h : FLQ T f k n (Fl T f k n Y) Y M M') : FRES T f k n lim X M' := by
  have ce := ct_kv (P := Fl T f k n Y) (P' := Fl T f k n X) hk hn e
  have nn := ct_nn (p := Fl T f k n X) (UV k n)
  obtain ⟨h1, h2, h3, h4⟩ := h
  rw [ce] at h1 h3 h4
  refine ⟨by omega, Or.inl ⟨by omega, (h2.rp hn z5 (fun _ _ _ => rfl)).cg e⟩, fun q p r p1 p2 r1 r2 => ?_, fun q => ?_⟩
  · rw [h3 (Or.inr (by omega)) p r p1 p2 r1 r2]
    exact z4 _ (by omega) (by omega)
  · obtain ⟨κ, v, lx, lf⟩ := h4 t (by omega)
    exact ⟨κ, v, lx_cg e v lx, lf⟩
theorem fres_e (hk : 1 ≤ k) (hn : n ≤ 8) (hl : 1 ≤ lim) (e : ∀ κ, KV k n κ → (Fl T f k n Y κ ↔ Fl T f k n X κ)) (t : ld M 92 17 = 0) (h : FLE T f k n lim Y M M') : FRES T f k n lim X M' := by
  have ce := ct_kv (P := Fl T f k n Y) (P' := Fl T f k n X) hk hn e
  obtain ⟨h1, h2, h3, h4⟩ := h
  rw [ce] at h2
  refine ⟨by omega, Or.inr ⟨h1, by omega⟩, fun q => by omega, fun q => ?_⟩
  obtain ⟨κ, v, lx, lf⟩ := h4 t
  exact ⟨κ, v, lx_cg e v lx, lf⟩
theorem fiv1 (h : FRES T f k n 1 X M') : ld M' 92 17 = 1 ∧ 0 < ct (Fl T f k n X) (UV k n) ∨ ld M' 92 17 = 0 ∧ ct (Fl T f k n X) (UV k n) = 0 := by
  obtain ⟨h1, h2, _⟩ := h
  omega
theorem fiv0 (h : FRES T f k n 20001 X M') : (ld M' 92 17 ≤ 20000 → ld M' 92 17 = ct (Fl T f k n X) (UV k n) ∧ ct (Fl T f k n X) (UV k n) ≤ 20000 ∧ BQ f k n (Fl T f k n X) (fun _ => 0) (ld M' 105)) ∧ (20000 < ld M' 92 17 → 20000 < ct (Fl T f k n X) (UV k n)) := by
  obtain ⟨h1, h2, _⟩ := h
  refine ⟨fun q => ?_, fun q => by omega⟩
  rcases h2 with ⟨a, b⟩ | ⟨a, b⟩
  · exact ⟨a, by omega, b⟩
  · omega
end
/-- the answer to sure -/
def SUR (T f : Int → Int) (k n : Int) (X : Int → Int) (p q v : Int) : Prop := yR v ∧ ∀ b : Nat, (bt v b = true ↔ ∃ κ, KV k n κ ∧ Fl T f k n X κ ∧ bt (nK f κ (8 * p + q)) b = true)
theorem sur_bq {T f : Int → Int} {k n : Int} {X S : Int → Int} {p q : Int} (h : BQ f k n (Fl T f k n X) (fun _ => 0) S) (hp : 0 ≤ p ∧ p < n) (hq : 0 ≤ q ∧ q < n) (hy : yR (S (8 * p + q))) : SUR T f k n X p q (S (8 * p + q)) := ⟨hy, fun b => by
  rw [h p q hp.1 hp.2 hq.1 hq.2 b, bt_0]
  exact ⟨fun w => w.elim (fun w => by cases w) (fun w => w), Or.inr⟩⟩
theorem SUR.un {T f : Int → Int} {k n : Int} {X : Int → Int} {p q v v' : Int} (h : SUR T f k n X p q v) (h' : SUR T f k n X p q v') : v = v' := bt_ext h.1 h'.1 (fun b _ => Bool.eq_iff_iff.mpr ((h.2 b).trans (h'.2 b).symm))
theorem n12_fills {d : Nat} {Q : yM → Prop} {M : yM} {x1 : Int} {T f : Int → Int} {k n : Int} (hM : MCT M T f k n) (p1 : 1 ≤ x1 ∧ x1 ≤ 20001) (hSN : SN f k n (nr M 64)) (hdg : ∀ i : Int, 0 ≤ i → i < n → nr M 64 (8 * i + i) = 1) (kont : ∀ (M' : yM), fr (wFl) M M' → (FRES T f k n x1 (nr M 64) M') → Q M') : XCv (d + 4) 154 [.inr (.inr 92), .inl x1] M Q := by
  refine eX12_fills ?_
  have fM : fr (wFl) M M := fr.rf
  have hk8 := hM.2.2.2.2.1.1
  have hf := hM.2.2.2.2.1.2.1
  have hn8 := hM.2.2.2.2.2
  have m2 := hM.1
  have m11 := hM.2.1
  have al8 := al_le hk8
  have hT := hM.2.2.2.2.1
  have hpt := pcn_top (n := n) (by omega)
  have hn2 := hn8.2
  have hk1 := hk8.1
  have go : ∀ N : Nat, (∀ (x2 : Int) (wx3 : Option yV) (M9 : yM), fr (wFl) M M9 → (0 ≤ x2 ∧ x2 ≤ n) → (ld M9 92 15 = pcn n x2.toNat) → (PRf M9 (ld M9 92 15) n) → (PRc M9 (ld M9 92 15) (fun i j => 0 ≤ i ∧ i < j ∧ j < n ∧ i < x2)) → (fr (fun o j => o = 101 ∨ o = 102 ∨ (o = 92 ∧ j = 15)) M M9) → (PRm M9 (ld M9 92 15) (8 * x2)) → ((8 - x2) * 40 + 120 < (N : Int)) → XW kX12_fills (d + 4) none (wQv Q) 7 [some (.inr (.inr 92)), some (.inl x1), some (.inl x2), wx3, none, none] [] M9) ∧ (∀ (x2 : Int) (x3 : Int) (M9 : yM), fr (wFl) M M9 → (0 ≤ x2 ∧ x2 < n) → (x2 < x3 ∧ x3 ≤ n) → (ld M9 92 15 = pcn n x2.toNat + (x3 - x2 - 1)) → (PRf M9 (ld M9 92 15) n) → (PRc M9 (ld M9 92 15) (fun i j => 0 ≤ i ∧ i < j ∧ j < n ∧ (i < x2 ∨ i = x2 ∧ j < x3))) → (fr (fun o j => o = 101 ∨ o = 102 ∨ (o = 92 ∧ j = 15)) M M9) → (PRm M9 (ld M9 92 15) (8 * x2 + x3)) → ((8 - x2) * 40 + 108 - x3 < (N : Int)) → XW kX12_fills (d + 4) none (wQv Q) 19 [some (.inr (.inr 92)), some (.inl x1), some (.inl x2), some (.inl x3), none, none] [] M9) ∧ (∀ (x2 : Int) (wx3 : Option yV) (M9 : yM), fr (wFl) M M9 → (0 ≤ x2 ∧ x2 ≤ 64) → (0 ≤ ld M9 92 15 ∧ ld M9 92 15 ≤ 28) → (PRf M9 (ld M9 92 15) n) → (PRc M9 (ld M9 92 15) (fun i j => 0 ≤ i ∧ i < j ∧ j < n)) → (fr (fun o j => o = 101 ∨ o = 102 ∨ o = 104 ∨ o = 105 ∨ (o = 92 ∧ (j = 15 ∨ j = 17))) M M9) → (∃ b : Int, PRm M9 (ld M9 92 15) b) → (ld M9 92 17 = 0) → (∀ j : Int, 0 ≤ j → j < x2 → ld M9 105 j = 0 ∧ ld M9 104 j = -9) → (64 - x2 < (N : Int)) → XW kX12_fills (d + 4) none (wQv Q) 76 [some (.inr (.inr 92)), some (.inl x1), some (.inl x2), wx3, none, none] [] M9) := by
    intro N
    induction N with
    | zero => refine ⟨?_, ?_, ?_⟩ <;> (intros; exfalso; omega)
    | succ N ih =>
      obtain ⟨ih0, ih1, ih2⟩ := ih
      refine ⟨?_, ?_, ?_⟩
      · skip
        clear fM
        intro x2 wx3 M1 fM i0 i1 i2 i3 i4 i5 hm
        have k92_2 := fM.ld (o := 92) (j := 2) (by intro hw; first | omega | (dsimp only [wSub, wRun, wNar, wFil, wCan, wLst, wCar, wDr, wFl, wMq, wRd, wRx, wCr, wTab, wTr, wNew, wKi, wKn, wTn, wOb, wPt, wTl, wOq] at hw; omega) | (simp [wSub, wRun, wNar, wFil, wCan, wLst, wCar, wDr, wFl, wMq, wRd, wRx, wCr, wTab, wTr, wNew, wKi, wKn, wTn, wOb, wPt, wTl, wOq] at hw; done) | (simp [wSub, wRun, wNar, wFil, wCan, wLst, wCar, wDr, wFl, wMq, wRd, wRx, wCr, wTab, wTr, wNew, wKi, wKn, wTn, wOb, wPt, wTl, wOq] at hw; omega))
        have k92_11 := fM.ld (o := 92) (j := 11) (by intro hw; first | omega | (dsimp only [wSub, wRun, wNar, wFil, wCan, wLst, wCar, wDr, wFl, wMq, wRd, wRx, wCr, wTab, wTr, wNew, wKi, wKn, wTn, wOb, wPt, wTl, wOq] at hw; omega) | (simp [wSub, wRun, wNar, wFil, wCan, wLst, wCar, wDr, wFl, wMq, wRd, wRx, wCr, wTab, wTr, wNew, wKi, wKn, wTn, wOb, wPt, wTl, wOq] at hw; done) | (simp [wSub, wRun, wNar, wFil, wCan, wLst, wCar, wDr, wFl, wMq, wRd, wRx, wCr, wTab, wTr, wNew, wKi, wKn, wTn, wOb, wPt, wTl, wOq] at hw; omega))
        refine uX12_fills_7 (by first | omega | assumption | with_reducible exact rng_ld _ _ _ | with_reducible exact rng_yand _ _ | with_reducible exact rng_yor _ _ | with_reducible exact rng_zcmp _ _ | with_reducible exact yand7 _ | with_reducible exact rng_toInt _ | with_reducible exact yarr23 (by omega) | with_reducible exact yarr57 (by omega) | with_reducible exact Or.inl rfl | with_reducible exact Or.inr rfl) (fun hc => ?_) (fun hc => ?_)
        · skip
          refine uX12_fills_69 ?_
          intro M2 hM2
          replace fM := fr.put fM hM2 (by first | omega | (dsimp only [wSub, wRun, wNar, wFil, wCan, wLst, wCar, wDr, wFl, wMq, wRd, wRx, wCr, wTab, wTr, wNew, wKi, wKn, wTn, wOb, wPt, wTl, wOq]; done) | (dsimp only [wSub, wRun, wNar, wFil, wCan, wLst, wCar, wDr, wFl, wMq, wRd, wRx, wCr, wTab, wTr, wNew, wKi, wKn, wTn, wOb, wPt, wTl, wOq]; omega) | (simp [wSub, wRun, wNar, wFil, wCan, wLst, wCar, wDr, wFl, wMq, wRd, wRx, wCr, wTab, wTr, wNew, wKi, wKn, wTn, wOb, wPt, wTl, wOq]; done) | (simp [wSub, wRun, wNar, wFil, wCan, wLst, wCar, wDr, wFl, wMq, wRd, wRx, wCr, wTab, wTr, wNew, wKi, wKn, wTn, wOb, wPt, wTl, wOq]; omega))
          have k92_2 := fM.ld (o := 92) (j := 2) (by intro hw; first | omega | (dsimp only [wSub, wRun, wNar, wFil, wCan, wLst, wCar, wDr, wFl, wMq, wRd, wRx, wCr, wTab, wTr, wNew, wKi, wKn, wTn, wOb, wPt, wTl, wOq] at hw; omega) | (simp [wSub, wRun, wNar, wFil, wCan, wLst, wCar, wDr, wFl, wMq, wRd, wRx, wCr, wTab, wTr, wNew, wKi, wKn, wTn, wOb, wPt, wTl, wOq] at hw; done) | (simp [wSub, wRun, wNar, wFil, wCan, wLst, wCar, wDr, wFl, wMq, wRd, wRx, wCr, wTab, wTr, wNew, wKi, wKn, wTn, wOb, wPt, wTl, wOq] at hw; omega))
          have k92_11 := fM.ld (o := 92) (j := 11) (by intro hw; first | omega | (dsimp only [wSub, wRun, wNar, wFil, wCan, wLst, wCar, wDr, wFl, wMq, wRd, wRx, wCr, wTab, wTr, wNew, wKi, wKn, wTn, wOb, wPt, wTl, wOq] at hw; omega) | (simp [wSub, wRun, wNar, wFil, wCan, wLst, wCar, wDr, wFl, wMq, wRd, wRx, wCr, wTab, wTr, wNew, wKi, wKn, wTn, wOb, wPt, wTl, wOq] at hw; done) | (simp [wSub, wRun, wNar, wFil, wCan, wLst, wCar, wDr, wFl, wMq, wRd, wRx, wCr, wTab, wTr, wNew, wKi, wKn, wTn, wOb, wPt, wTl, wOq] at hw; omega))
          have k15d : ld M2 92 15 = ld M1 92 15 := by rw [hM2, ld_putne (by omega)]
          have fs : fr (fun o j => o = 101 ∨ o = 102 ∨ o = 104 ∨ o = 105 ∨ (o = 92 ∧ (j = 15 ∨ j = 17))) M M2 := fr.put (i4.up (fun o j hw => by omega)) hM2 (by omega)
          have pf := i2.pt hM2 (by omega)
          have pc2 := (PRc.mono (P' := fun i j => 0 ≤ i ∧ i < j ∧ j < n) i3 (fun i j q => by omega)).pt hM2 (by omega)
          rw [← k15d] at pf pc2
          have hx2 : x2 = n := by omega
          rw [hx2] at i1
          have pm : ∃ b : Int, PRm M2 (ld M2 92 15) b := ⟨_, by rw [k15d]; exact i5.fr (fr.put (W := fun o _ => o = 92) fr.rf hM2 rfl) (fun j => by omega)⟩
          have t17 : ld M2 92 17 = 0 := by rw [hM2, ld_same (by omega)]
          refine uX12_fills_74 ?_
          exact ih2 _ _ M2 fM (by first | omega | assumption | with_reducible exact rng_ld _ _ _ | with_reducible exact rng_yand _ _ | with_reducible exact rng_yor _ _ | with_reducible exact rng_zcmp _ _ | with_reducible exact yand7 _ | with_reducible exact rng_toInt _ | with_reducible exact yarr23 (by omega) | with_reducible exact yarr57 (by omega) | with_reducible exact Or.inl rfl | with_reducible exact Or.inr rfl) (by omega) pf pc2 fs pm t17 (by first | exact a89 | exact (fun j a1 a2 => absurd a2 (by omega))) (by omega)
        · skip
          refine uX12_fills_15 ?_
          exact ih1 _ _ M1 fM (by first | omega | assumption | with_reducible exact rng_ld _ _ _ | with_reducible exact rng_yand _ _ | with_reducible exact rng_yor _ _ | with_reducible exact rng_zcmp _ _ | with_reducible exact yand7 _ | with_reducible exact rng_toInt _ | with_reducible exact yarr23 (by omega) | with_reducible exact yarr57 (by omega) | with_reducible exact Or.inl rfl | with_reducible exact Or.inr rfl) (by first | omega | assumption | with_reducible exact rng_ld _ _ _ | with_reducible exact rng_yand _ _ | with_reducible exact rng_yor _ _ | with_reducible exact rng_zcmp _ _ | with_reducible exact yand7 _ | with_reducible exact rng_toInt _ | with_reducible exact yarr23 (by omega) | with_reducible exact yarr57 (by omega) | with_reducible exact Or.inl rfl | with_reducible exact Or.inr rfl) (by omega) (by first | exact pf | assumption) (by first | exact PRc.mono pc2 (fun i j q => by omega) | exact PRc.mono (by assumption) (fun i j q => by omega)) (by first | exact fs3 | assumption) (by first | exact pm.up (by omega) | exact i5.up (by omega)) (by omega)
      · skip
        clear fM
        intro x2 x3 M3 fM i0 i1 i2 i3 i4 i5 i6 hm
        have k92_2 := fM.ld (o := 92) (j := 2) (by intro hw; first | omega | (dsimp only [wSub, wRun, wNar, wFil, wCan, wLst, wCar, wDr, wFl, wMq, wRd, wRx, wCr, wTab, wTr, wNew, wKi, wKn, wTn, wOb, wPt, wTl, wOq] at hw; omega) | (simp [wSub, wRun, wNar, wFil, wCan, wLst, wCar, wDr, wFl, wMq, wRd, wRx, wCr, wTab, wTr, wNew, wKi, wKn, wTn, wOb, wPt, wTl, wOq] at hw; done) | (simp [wSub, wRun, wNar, wFil, wCan, wLst, wCar, wDr, wFl, wMq, wRd, wRx, wCr, wTab, wTr, wNew, wKi, wKn, wTn, wOb, wPt, wTl, wOq] at hw; omega))
        have k92_11 := fM.ld (o := 92) (j := 11) (by intro hw; first | omega | (dsimp only [wSub, wRun, wNar, wFil, wCan, wLst, wCar, wDr, wFl, wMq, wRd, wRx, wCr, wTab, wTr, wNew, wKi, wKn, wTn, wOb, wPt, wTl, wOq] at hw; omega) | (simp [wSub, wRun, wNar, wFil, wCan, wLst, wCar, wDr, wFl, wMq, wRd, wRx, wCr, wTab, wTr, wNew, wKi, wKn, wTn, wOb, wPt, wTl, wOq] at hw; done) | (simp [wSub, wRun, wNar, wFil, wCan, wLst, wCar, wDr, wFl, wMq, wRd, wRx, wCr, wTab, wTr, wNew, wKi, wKn, wTn, wOb, wPt, wTl, wOq] at hw; omega))
        refine uX12_fills_19 (by first | omega | assumption | with_reducible exact rng_ld _ _ _ | with_reducible exact rng_yand _ _ | with_reducible exact rng_yor _ _ | with_reducible exact rng_zcmp _ _ | with_reducible exact yand7 _ | with_reducible exact rng_toInt _ | with_reducible exact yarr23 (by omega) | with_reducible exact yarr57 (by omega) | with_reducible exact Or.inl rfl | with_reducible exact Or.inr rfl) (fun hc => ?_) (fun hc => ?_)
        · skip
          refine uX12_fills_63 ?_
          exact ih0 _ _ M3 fM (by first | omega | assumption | with_reducible exact rng_ld _ _ _ | with_reducible exact rng_yand _ _ | with_reducible exact rng_yor _ _ | with_reducible exact rng_zcmp _ _ | with_reducible exact yand7 _ | with_reducible exact rng_toInt _ | with_reducible exact yarr23 (by omega) | with_reducible exact yarr57 (by omega) | with_reducible exact Or.inl rfl | with_reducible exact Or.inr rfl) (by first | (rw [pcn_s (by omega)]; omega) | exact t0) (by first | assumption | exact p0) (by first | exact PRc.mono (by assumption) (fun i j q => by omega) | exact q0) (by first | assumption | exact f0) (by first | exact m0 | exact i6.up (by omega)) (by omega)
        · skip
          have hpl := pcn_le (n := n) (x := x2) (by omega) (by omega)
          have f0 := i5
          have pf0 := i3
          have pc0 := i4
          have pm0 := i6
          obtain ⟨c0, hc0⟩ : ∃ c0, ld M3 92 15 = c0 := ⟨_, rfl⟩
          rw [hc0] at pf0 pc0 pm0
          refine uX12_fills_27 (by first | omega | assumption | with_reducible exact rng_ld _ _ _ | with_reducible exact rng_yand _ _ | with_reducible exact rng_yor _ _ | with_reducible exact rng_zcmp _ _ | with_reducible exact yand7 _ | with_reducible exact rng_toInt _ | with_reducible exact yarr23 (by omega) | with_reducible exact yarr57 (by omega) | with_reducible exact Or.inl rfl | with_reducible exact Or.inr rfl) ?_
          intro M4 hM4
          replace fM := fr.put fM hM4 (by first | omega | (dsimp only [wSub, wRun, wNar, wFil, wCan, wLst, wCar, wDr, wFl, wMq, wRd, wRx, wCr, wTab, wTr, wNew, wKi, wKn, wTn, wOb, wPt, wTl, wOq]; done) | (dsimp only [wSub, wRun, wNar, wFil, wCan, wLst, wCar, wDr, wFl, wMq, wRd, wRx, wCr, wTab, wTr, wNew, wKi, wKn, wTn, wOb, wPt, wTl, wOq]; omega) | (simp [wSub, wRun, wNar, wFil, wCan, wLst, wCar, wDr, wFl, wMq, wRd, wRx, wCr, wTab, wTr, wNew, wKi, wKn, wTn, wOb, wPt, wTl, wOq]; done) | (simp [wSub, wRun, wNar, wFil, wCan, wLst, wCar, wDr, wFl, wMq, wRd, wRx, wCr, wTab, wTr, wNew, wKi, wKn, wTn, wOb, wPt, wTl, wOq]; omega))
          have k92_2 := fM.ld (o := 92) (j := 2) (by intro hw; first | omega | (dsimp only [wSub, wRun, wNar, wFil, wCan, wLst, wCar, wDr, wFl, wMq, wRd, wRx, wCr, wTab, wTr, wNew, wKi, wKn, wTn, wOb, wPt, wTl, wOq] at hw; omega) | (simp [wSub, wRun, wNar, wFil, wCan, wLst, wCar, wDr, wFl, wMq, wRd, wRx, wCr, wTab, wTr, wNew, wKi, wKn, wTn, wOb, wPt, wTl, wOq] at hw; done) | (simp [wSub, wRun, wNar, wFil, wCan, wLst, wCar, wDr, wFl, wMq, wRd, wRx, wCr, wTab, wTr, wNew, wKi, wKn, wTn, wOb, wPt, wTl, wOq] at hw; omega))
          have k92_11 := fM.ld (o := 92) (j := 11) (by intro hw; first | omega | (dsimp only [wSub, wRun, wNar, wFil, wCan, wLst, wCar, wDr, wFl, wMq, wRd, wRx, wCr, wTab, wTr, wNew, wKi, wKn, wTn, wOb, wPt, wTl, wOq] at hw; omega) | (simp [wSub, wRun, wNar, wFil, wCan, wLst, wCar, wDr, wFl, wMq, wRd, wRx, wCr, wTab, wTr, wNew, wKi, wKn, wTn, wOb, wPt, wTl, wOq] at hw; done) | (simp [wSub, wRun, wNar, wFil, wCan, wLst, wCar, wDr, wFl, wMq, wRd, wRx, wCr, wTab, wTr, wNew, wKi, wKn, wTn, wOb, wPt, wTl, wOq] at hw; omega))
          have k15a : ld M4 92 15 = ld M3 92 15 := by rw [hM4, ld_putne (by omega)]
          have fs := fr.put f0 hM4 (by omega)
          have e1 := hM4
          rw [hc0] at e1
          refine uX12_fills_37 (by first | omega | assumption | with_reducible exact rng_ld _ _ _ | with_reducible exact rng_yand _ _ | with_reducible exact rng_yor _ _ | with_reducible exact rng_zcmp _ _ | with_reducible exact yand7 _ | with_reducible exact rng_toInt _ | with_reducible exact yarr23 (by omega) | with_reducible exact yarr57 (by omega) | with_reducible exact Or.inl rfl | with_reducible exact Or.inr rfl) ?_
          intro M5 hM5
          replace fM := fr.put fM hM5 (by first | omega | (dsimp only [wSub, wRun, wNar, wFil, wCan, wLst, wCar, wDr, wFl, wMq, wRd, wRx, wCr, wTab, wTr, wNew, wKi, wKn, wTn, wOb, wPt, wTl, wOq]; done) | (dsimp only [wSub, wRun, wNar, wFil, wCan, wLst, wCar, wDr, wFl, wMq, wRd, wRx, wCr, wTab, wTr, wNew, wKi, wKn, wTn, wOb, wPt, wTl, wOq]; omega) | (simp [wSub, wRun, wNar, wFil, wCan, wLst, wCar, wDr, wFl, wMq, wRd, wRx, wCr, wTab, wTr, wNew, wKi, wKn, wTn, wOb, wPt, wTl, wOq]; done) | (simp [wSub, wRun, wNar, wFil, wCan, wLst, wCar, wDr, wFl, wMq, wRd, wRx, wCr, wTab, wTr, wNew, wKi, wKn, wTn, wOb, wPt, wTl, wOq]; omega))
          have k92_2 := fM.ld (o := 92) (j := 2) (by intro hw; first | omega | (dsimp only [wSub, wRun, wNar, wFil, wCan, wLst, wCar, wDr, wFl, wMq, wRd, wRx, wCr, wTab, wTr, wNew, wKi, wKn, wTn, wOb, wPt, wTl, wOq] at hw; omega) | (simp [wSub, wRun, wNar, wFil, wCan, wLst, wCar, wDr, wFl, wMq, wRd, wRx, wCr, wTab, wTr, wNew, wKi, wKn, wTn, wOb, wPt, wTl, wOq] at hw; done) | (simp [wSub, wRun, wNar, wFil, wCan, wLst, wCar, wDr, wFl, wMq, wRd, wRx, wCr, wTab, wTr, wNew, wKi, wKn, wTn, wOb, wPt, wTl, wOq] at hw; omega))
          have k92_11 := fM.ld (o := 92) (j := 11) (by intro hw; first | omega | (dsimp only [wSub, wRun, wNar, wFil, wCan, wLst, wCar, wDr, wFl, wMq, wRd, wRx, wCr, wTab, wTr, wNew, wKi, wKn, wTn, wOb, wPt, wTl, wOq] at hw; omega) | (simp [wSub, wRun, wNar, wFil, wCan, wLst, wCar, wDr, wFl, wMq, wRd, wRx, wCr, wTab, wTr, wNew, wKi, wKn, wTn, wOb, wPt, wTl, wOq] at hw; done) | (simp [wSub, wRun, wNar, wFil, wCan, wLst, wCar, wDr, wFl, wMq, wRd, wRx, wCr, wTab, wTr, wNew, wKi, wKn, wTn, wOb, wPt, wTl, wOq] at hw; omega))
          have k15b : ld M5 92 15 = ld M4 92 15 := by rw [hM5, ld_putne (by omega)]
          have fs2 := fr.put fs hM5 (by omega)
          have e2 := hM5
          rw [k15a, hc0] at e2
          obtain ⟨pf1, pc1⟩ := PR_step e1 e2 (by omega) (by omega) (by omega) pf0 pc0
          have pm1 := PRm.st pm0 e1 e2 (by unfold yR; omega) (by unfold yR; omega) (by omega)
          refine uX12_fills_47 ?_
          intro M6 hM6
          replace fM := fr.put fM hM6 (by first | omega | (dsimp only [wSub, wRun, wNar, wFil, wCan, wLst, wCar, wDr, wFl, wMq, wRd, wRx, wCr, wTab, wTr, wNew, wKi, wKn, wTn, wOb, wPt, wTl, wOq]; done) | (dsimp only [wSub, wRun, wNar, wFil, wCan, wLst, wCar, wDr, wFl, wMq, wRd, wRx, wCr, wTab, wTr, wNew, wKi, wKn, wTn, wOb, wPt, wTl, wOq]; omega) | (simp [wSub, wRun, wNar, wFil, wCan, wLst, wCar, wDr, wFl, wMq, wRd, wRx, wCr, wTab, wTr, wNew, wKi, wKn, wTn, wOb, wPt, wTl, wOq]; done) | (simp [wSub, wRun, wNar, wFil, wCan, wLst, wCar, wDr, wFl, wMq, wRd, wRx, wCr, wTab, wTr, wNew, wKi, wKn, wTn, wOb, wPt, wTl, wOq]; omega))
          have k92_2 := fM.ld (o := 92) (j := 2) (by intro hw; first | omega | (dsimp only [wSub, wRun, wNar, wFil, wCan, wLst, wCar, wDr, wFl, wMq, wRd, wRx, wCr, wTab, wTr, wNew, wKi, wKn, wTn, wOb, wPt, wTl, wOq] at hw; omega) | (simp [wSub, wRun, wNar, wFil, wCan, wLst, wCar, wDr, wFl, wMq, wRd, wRx, wCr, wTab, wTr, wNew, wKi, wKn, wTn, wOb, wPt, wTl, wOq] at hw; done) | (simp [wSub, wRun, wNar, wFil, wCan, wLst, wCar, wDr, wFl, wMq, wRd, wRx, wCr, wTab, wTr, wNew, wKi, wKn, wTn, wOb, wPt, wTl, wOq] at hw; omega))
          have k92_11 := fM.ld (o := 92) (j := 11) (by intro hw; first | omega | (dsimp only [wSub, wRun, wNar, wFil, wCan, wLst, wCar, wDr, wFl, wMq, wRd, wRx, wCr, wTab, wTr, wNew, wKi, wKn, wTn, wOb, wPt, wTl, wOq] at hw; omega) | (simp [wSub, wRun, wNar, wFil, wCan, wLst, wCar, wDr, wFl, wMq, wRd, wRx, wCr, wTab, wTr, wNew, wKi, wKn, wTn, wOb, wPt, wTl, wOq] at hw; done) | (simp [wSub, wRun, wNar, wFil, wCan, wLst, wCar, wDr, wFl, wMq, wRd, wRx, wCr, wTab, wTr, wNew, wKi, wKn, wTn, wOb, wPt, wTl, wOq] at hw; omega))
          have k15c : ld M6 92 15 = ld M5 92 15 + 1 := by rw [hM6]; exact ld_same (by omega)
          have fs3 := fr.put fs2 hM6 (by omega)
          have pf := pf1.pt hM6 (by omega)
          have pc2 := pc1.pt hM6 (by omega)
          have pm := pm1.fr (fr.put (W := fun o _ => o = 92) fr.rf hM6 rfl) (fun j => by omega)
          rw [show c0 + 1 = ld M6 92 15 by omega] at pf pc2 pm
          refine uX12_fills_57 ?_
          exact ih1 _ _ M6 fM (by first | omega | assumption | with_reducible exact rng_ld _ _ _ | with_reducible exact rng_yand _ _ | with_reducible exact rng_yor _ _ | with_reducible exact rng_zcmp _ _ | with_reducible exact yand7 _ | with_reducible exact rng_toInt _ | with_reducible exact yarr23 (by omega) | with_reducible exact yarr57 (by omega) | with_reducible exact Or.inl rfl | with_reducible exact Or.inr rfl) (by first | omega | assumption | with_reducible exact rng_ld _ _ _ | with_reducible exact rng_yand _ _ | with_reducible exact rng_yor _ _ | with_reducible exact rng_zcmp _ _ | with_reducible exact yand7 _ | with_reducible exact rng_toInt _ | with_reducible exact yarr23 (by omega) | with_reducible exact yarr57 (by omega) | with_reducible exact Or.inl rfl | with_reducible exact Or.inr rfl) (by omega) (by first | exact pf | assumption) (by first | exact PRc.mono pc2 (fun i j q => by omega) | exact PRc.mono (by assumption) (fun i j q => by omega)) (by first | exact fs3 | assumption) (by first | exact pm.up (by omega) | exact i5.up (by omega)) (by omega)
      · skip
        clear fM
        intro x2 wx3 M7 fM i0 i1 i2 i3 i4 i5 i6 i7 hm
        have k92_2 := fM.ld (o := 92) (j := 2) (by intro hw; first | omega | (dsimp only [wSub, wRun, wNar, wFil, wCan, wLst, wCar, wDr, wFl, wMq, wRd, wRx, wCr, wTab, wTr, wNew, wKi, wKn, wTn, wOb, wPt, wTl, wOq] at hw; omega) | (simp [wSub, wRun, wNar, wFil, wCan, wLst, wCar, wDr, wFl, wMq, wRd, wRx, wCr, wTab, wTr, wNew, wKi, wKn, wTn, wOb, wPt, wTl, wOq] at hw; done) | (simp [wSub, wRun, wNar, wFil, wCan, wLst, wCar, wDr, wFl, wMq, wRd, wRx, wCr, wTab, wTr, wNew, wKi, wKn, wTn, wOb, wPt, wTl, wOq] at hw; omega))
        have k92_11 := fM.ld (o := 92) (j := 11) (by intro hw; first | omega | (dsimp only [wSub, wRun, wNar, wFil, wCan, wLst, wCar, wDr, wFl, wMq, wRd, wRx, wCr, wTab, wTr, wNew, wKi, wKn, wTn, wOb, wPt, wTl, wOq] at hw; omega) | (simp [wSub, wRun, wNar, wFil, wCan, wLst, wCar, wDr, wFl, wMq, wRd, wRx, wCr, wTab, wTr, wNew, wKi, wKn, wTn, wOb, wPt, wTl, wOq] at hw; done) | (simp [wSub, wRun, wNar, wFil, wCan, wLst, wCar, wDr, wFl, wMq, wRd, wRx, wCr, wTab, wTr, wNew, wKi, wKn, wTn, wOb, wPt, wTl, wOq] at hw; omega))
        refine uX12_fills_76 (by first | omega | assumption | with_reducible exact rng_ld _ _ _ | with_reducible exact rng_yand _ _ | with_reducible exact rng_yor _ _ | with_reducible exact rng_zcmp _ _ | with_reducible exact yand7 _ | with_reducible exact rng_toInt _ | with_reducible exact yarr23 (by omega) | with_reducible exact yarr57 (by omega) | with_reducible exact Or.inl rfl | with_reducible exact Or.inr rfl) (fun hc => ?_) (fun hc => ?_)
        · skip
          have n103 : nr M7 64 = nr M 64 := nr_fr i4 (fun _ => by omega)
          refine uX12_fills_103 ?_
          refine XC.deep (n12_fully  (d := 0) (hM.fr fM (by dsimp only [wFl]; omega) (by dsimp only [wFl]; omega) (fun _ => by dsimp only [wFl]; omega) (fun _ => by dsimp only [wFl]; omega)) (by omega) (by rw [n103]; exact hSN) (by rw [n103]; exact fun d a b => by rw [hdg d a b]; decide) (fun v8 M8 fM8 p8a p8b p8c => ?_)) (by omega)
          replace fM := fM.tr fM8 (by intro o j hw; first | omega | exact hw | (dsimp only [wSub, wRun, wNar, wFil, wCan, wLst, wCar, wDr, wFl, wMq, wRd, wRx, wCr, wTab, wTr, wNew, wKi, wKn, wTn, wOb, wPt, wTl, wOq] at hw; dsimp only [wSub, wRun, wNar, wFil, wCan, wLst, wCar, wDr, wFl, wMq, wRd, wRx, wCr, wTab, wTr, wNew, wKi, wKn, wTn, wOb, wPt, wTl, wOq]; omega) | (dsimp only [wSub, wRun, wNar, wFil, wCan, wLst, wCar, wDr, wFl, wMq, wRd, wRx, wCr, wTab, wTr, wNew, wKi, wKn, wTn, wOb, wPt, wTl, wOq]; omega) | (dsimp only [wSub, wRun, wNar, wFil, wCan, wLst, wCar, wDr, wFl, wMq, wRd, wRx, wCr, wTab, wTr, wNew, wKi, wKn, wTn, wOb, wPt, wTl, wOq] at hw; omega) | (simp [wSub, wRun, wNar, wFil, wCan, wLst, wCar, wDr, wFl, wMq, wRd, wRx, wCr, wTab, wTr, wNew, wKi, wKn, wTn, wOb, wPt, wTl, wOq] at hw; simp [wSub, wRun, wNar, wFil, wCan, wLst, wCar, wDr, wFl, wMq, wRd, wRx, wCr, wTab, wTr, wNew, wKi, wKn, wTn, wOb, wPt, wTl, wOq]; omega))
          have k92_2 := fM.ld (o := 92) (j := 2) (by intro hw; first | omega | (dsimp only [wSub, wRun, wNar, wFil, wCan, wLst, wCar, wDr, wFl, wMq, wRd, wRx, wCr, wTab, wTr, wNew, wKi, wKn, wTn, wOb, wPt, wTl, wOq] at hw; omega) | (simp [wSub, wRun, wNar, wFil, wCan, wLst, wCar, wDr, wFl, wMq, wRd, wRx, wCr, wTab, wTr, wNew, wKi, wKn, wTn, wOb, wPt, wTl, wOq] at hw; done) | (simp [wSub, wRun, wNar, wFil, wCan, wLst, wCar, wDr, wFl, wMq, wRd, wRx, wCr, wTab, wTr, wNew, wKi, wKn, wTn, wOb, wPt, wTl, wOq] at hw; omega))
          have k92_11 := fM.ld (o := 92) (j := 11) (by intro hw; first | omega | (dsimp only [wSub, wRun, wNar, wFil, wCan, wLst, wCar, wDr, wFl, wMq, wRd, wRx, wCr, wTab, wTr, wNew, wKi, wKn, wTn, wOb, wPt, wTl, wOq] at hw; omega) | (simp [wSub, wRun, wNar, wFil, wCan, wLst, wCar, wDr, wFl, wMq, wRd, wRx, wCr, wTab, wTr, wNew, wKi, wKn, wTn, wOb, wPt, wTl, wOq] at hw; done) | (simp [wSub, wRun, wNar, wFil, wCan, wLst, wCar, wDr, wFl, wMq, wRd, wRx, wCr, wTab, wTr, wNew, wKi, wKn, wTn, wOb, wPt, wTl, wOq] at hw; omega))
          have e103 : nr M8 64 = fullP T f k n (nr M7 64) := p8a
          have s103 : SN f k n (nr M8 64) := p8b
          have d103 : DGp n (nr M8 64) := p8c
          rw [n103] at e103
          have pf5 := i2.fr fM8 (fun j => by omega)
          have pc5 := i3.fr fM8 (fun j => by omega)
          have k15e : ld M8 92 15 = ld M7 92 15 := fM8.ld (by omega)
          rw [← k15e] at pf5 pc5
          have pm5 : ∃ b : Int, PRm M8 (ld M8 92 15) b := ⟨i5.choose, by rw [k15e]; exact i5.choose_spec.fr fM8 (fun j => by omega)⟩
          have t103 : ld M8 92 17 = 0 := by rw [fM8.ld (by omega)]; exact i6
          have a5 : EqN (fun _ => 0) (ld M8 105) := fun j a1 a2 => by rw [fM8.ld (by omega)]; exact (i7 j a1 (by omega)).1.symm
          have a4 : ∀ j : Int, 0 ≤ j → j < 64 → ld M8 104 j = -9 := fun j a1 a2 => by rw [fM8.ld (by omega)]; exact (i7 j a1 (by omega)).2
          have fg := full_good hT (by omega : 0 ≤ n ∧ n ≤ 8) hSN
          have ek : ∀ κ, KV k n κ → (Fl T f k n (nr M8 64) κ ↔ Fl T f k n (nr M 64) κ) := fun κ v => by
            have bY := fu_sb hT (by omega : 0 ≤ n ∧ n ≤ 8) 300 (nr M 64) hSN
            have snk := nK_sn hk8 hf hn2 v
            rw [e103]
            exact ⟨fun q => ⟨Sb.tr hk8 snk q.1 bY.1, q.2⟩, fun q => ⟨bY.2 _ snk q.2 q.1, q.2⟩⟩
          refine uX12_fills_109 ?_
          refine n12_isEmpty  (hM.fr fM (by dsimp only [wFl]; omega) (by dsimp only [wFl]; omega) (fun _ => by dsimp only [wFl]; omega) (fun _ => by dsimp only [wFl]; omega)) (by omega) s103 d103 (fun v109 p9a => ?_)
          have q109 := p9a
          rw [e103] at q109
          refine uX12_fills_116 (by first | omega | assumption | with_reducible exact rng_ld _ _ _ | with_reducible exact rng_yand _ _ | with_reducible exact rng_yor _ _ | with_reducible exact rng_zcmp _ _ | with_reducible exact yand7 _ | with_reducible exact rng_toInt _ | with_reducible exact yarr23 (by omega) | with_reducible exact yarr57 (by omega) | with_reducible exact Or.inl rfl | with_reducible exact Or.inr rfl) (fun hc => ?_) (fun hc => ?_)
          · skip
            have he : emB n (fullP T f k n (nr M 64)) = false := q109.elim (fun q => absurd q.1 (by omega)) (fun q => q.2)
            rw [← e103] at he
            have cl120 : Cl T k n (nr M8 64) := fx_cl hT (by omega) s103 (by rw [e103]; exact fullP_fix hk8 hf (by omega) hSN) he
            have ne120 := (emB_ne hk8 hf hn2 s103).mp he
            have dg120 : ∀ d : Int, 0 ≤ d → d < n → nr M8 64 (8 * d + d) = 1 := fun d a b => by rw [e103, fullP_dg (by omega) (by omega)]; exact hdg d a b
            refine uX12_fills_120 ?_
            intro M10 hM10
            replace fM := fr.put fM hM10 (by first | omega | (dsimp only [wSub, wRun, wNar, wFil, wCan, wLst, wCar, wDr, wFl, wMq, wRd, wRx, wCr, wTab, wTr, wNew, wKi, wKn, wTn, wOb, wPt, wTl, wOq]; done) | (dsimp only [wSub, wRun, wNar, wFil, wCan, wLst, wCar, wDr, wFl, wMq, wRd, wRx, wCr, wTab, wTr, wNew, wKi, wKn, wTn, wOb, wPt, wTl, wOq]; omega) | (simp [wSub, wRun, wNar, wFil, wCan, wLst, wCar, wDr, wFl, wMq, wRd, wRx, wCr, wTab, wTr, wNew, wKi, wKn, wTn, wOb, wPt, wTl, wOq]; done) | (simp [wSub, wRun, wNar, wFil, wCan, wLst, wCar, wDr, wFl, wMq, wRd, wRx, wCr, wTab, wTr, wNew, wKi, wKn, wTn, wOb, wPt, wTl, wOq]; omega))
            have k92_2 := fM.ld (o := 92) (j := 2) (by intro hw; first | omega | (dsimp only [wSub, wRun, wNar, wFil, wCan, wLst, wCar, wDr, wFl, wMq, wRd, wRx, wCr, wTab, wTr, wNew, wKi, wKn, wTn, wOb, wPt, wTl, wOq] at hw; omega) | (simp [wSub, wRun, wNar, wFil, wCan, wLst, wCar, wDr, wFl, wMq, wRd, wRx, wCr, wTab, wTr, wNew, wKi, wKn, wTn, wOb, wPt, wTl, wOq] at hw; done) | (simp [wSub, wRun, wNar, wFil, wCan, wLst, wCar, wDr, wFl, wMq, wRd, wRx, wCr, wTab, wTr, wNew, wKi, wKn, wTn, wOb, wPt, wTl, wOq] at hw; omega))
            have k92_11 := fM.ld (o := 92) (j := 11) (by intro hw; first | omega | (dsimp only [wSub, wRun, wNar, wFil, wCan, wLst, wCar, wDr, wFl, wMq, wRd, wRx, wCr, wTab, wTr, wNew, wKi, wKn, wTn, wOb, wPt, wTl, wOq] at hw; omega) | (simp [wSub, wRun, wNar, wFil, wCan, wLst, wCar, wDr, wFl, wMq, wRd, wRx, wCr, wTab, wTr, wNew, wKi, wKn, wTn, wOb, wPt, wTl, wOq] at hw; done) | (simp [wSub, wRun, wNar, wFil, wCan, wLst, wCar, wDr, wFl, wMq, wRd, wRx, wCr, wTab, wTr, wNew, wKi, wKn, wTn, wOb, wPt, wTl, wOq] at hw; omega))
            have h120 := hM10
            have pf6 := pf5.pt hM10 (by omega)
            have pc6 := pc5.pt hM10 (by omega)
            have k15f : ld M10 92 15 = ld M8 92 15 := by rw [hM10, ld_putne (by omega)]
            rw [← k15f] at pf6 pc6
            have f120 : fr (fun o j => o = 103) M8 M10 := fr.put fr.rf hM10 rfl
            have pm6 : ∃ b : Int, PRm M10 (ld M10 92 15) b := ⟨pm5.choose, by rw [k15f]; exact pm5.choose_spec.fr f120 (fun j => by omega)⟩
            have t120 : ld M10 92 17 = 0 := by rw [f120.ld (by omega)]; exact t103
            have b5 : EqN (ld M10 105) (fun _ => 0) := fun j a1 a2 => by rw [f120.ld (by omega)]; exact (a5 j a1 a2).symm
            have b4 : ∀ j : Int, 0 ≤ j → j < 64 → ld M10 104 j = -9 := fun j a1 a2 => by rw [f120.ld (by omega)]; exact a4 j a1 a2
            have x120 : tn M10 (64 * (0 + 1)) = tn M8 64 := tn_eq (nr_fe f120 (fun j a1 a2 => by omega))
            have y120 := tn_e (M := M8) (o := 64)
            have hM6 : MCT M10 T f k n := (hM.fr fM (by dsimp only [wFl]; omega) (by dsimp only [wFl]; omega) (fun _ => by dsimp only [wFl]; omega) (fun _ => by dsimp only [wFl]; omega))
            have hL6 : LVM T f k n M10 0 (tn M10 (64 * (0 + 1))) := by
              rw [x120]
              exact ⟨SN.eq hn2 s103 y120.sy, fun i j c i1 i2 j1 j2 c1 c2 ij jc ic => (by
                have w := cl120 i j c i1 i2 j1 j2 c1 c2 ij jc ic
                unfold stp at w ⊢
                rw [y120 _ (by omega) (by omega), y120 (8 * i + j) (by omega) (by omega), y120 (8 * j + c) (by omega) (by omega)]
                exact w), Ne.eq hn2 ne120 y120.sy, fun d a b => (by rw [y120 _ (by omega) (by omega)]; exact dg120 d a b), fun p a b => by omega⟩
            have e6 : ∀ κ, KV k n κ → (Fl T f k n (tn M10 (64 * (0 + 1))) κ ↔ Fl T f k n (nr M 64) κ) := fun κ v => by
              rw [x120]
              exact (fl_eq hn2 y120).trans (ek κ v)
            refine n_flm (c := ld M10 92 15) p1 hT hn8 (by omega) (ld M10 92 15).toNat 0 M10 (by omega) (by omega) ⟨pf6, pc6, pm6⟩ hM6 rfl hL6 (fun _ => by rw [h120, ld_same (by omega)]) (by omega) (fun M8 w3 w4 w5 h8 hq8 hl8 => ?_) (fun M8 h8 he8 => ?_) _ _ _
            · refine uX12_fills_129 (by omega) (fun _ => ?_) (fun _ => by omega)
              refine uX12_fills_324 ?_
              exact kont _ (fM.tr h8 (by intro o j hw; dsimp only [wDp, wFl] at hw ⊢; omega)) (fres_q hk1 hn2 e6 t120 b5 b4 hl8 hq8)
            · exact kont _ (fM.tr h8 (by intro o j hw; dsimp only [wDp, wFl] at hw ⊢; omega)) (fres_e hk1 hn2 p1.1 e6 t120 he8)
          · skip
            refine uX12_fills_119 ?_
            exact kont _ fM (fres_no hk1 hn2 p1.1 (fun κ v q => fl_no hT hn2 (fun g => by
              have w := fg.mpr g
              rw [q109.elim (fun z => z.2) (fun z => absurd z.1 (by assumption))] at w
              cases w) v q) t103 a5 a4)
        · skip
          refine uX12_fills_82 (by first | omega | assumption | with_reducible exact rng_ld _ _ _ | with_reducible exact rng_yand _ _ | with_reducible exact rng_yor _ _ | with_reducible exact rng_zcmp _ _ | with_reducible exact yand7 _ | with_reducible exact rng_toInt _ | with_reducible exact yarr23 (by omega) | with_reducible exact yarr57 (by omega) | with_reducible exact Or.inl rfl | with_reducible exact Or.inr rfl) ?_
          intro M11 hM11
          replace fM := fr.put fM hM11 (by first | omega | (dsimp only [wSub, wRun, wNar, wFil, wCan, wLst, wCar, wDr, wFl, wMq, wRd, wRx, wCr, wTab, wTr, wNew, wKi, wKn, wTn, wOb, wPt, wTl, wOq]; done) | (dsimp only [wSub, wRun, wNar, wFil, wCan, wLst, wCar, wDr, wFl, wMq, wRd, wRx, wCr, wTab, wTr, wNew, wKi, wKn, wTn, wOb, wPt, wTl, wOq]; omega) | (simp [wSub, wRun, wNar, wFil, wCan, wLst, wCar, wDr, wFl, wMq, wRd, wRx, wCr, wTab, wTr, wNew, wKi, wKn, wTn, wOb, wPt, wTl, wOq]; done) | (simp [wSub, wRun, wNar, wFil, wCan, wLst, wCar, wDr, wFl, wMq, wRd, wRx, wCr, wTab, wTr, wNew, wKi, wKn, wTn, wOb, wPt, wTl, wOq]; omega))
          have k92_2 := fM.ld (o := 92) (j := 2) (by intro hw; first | omega | (dsimp only [wSub, wRun, wNar, wFil, wCan, wLst, wCar, wDr, wFl, wMq, wRd, wRx, wCr, wTab, wTr, wNew, wKi, wKn, wTn, wOb, wPt, wTl, wOq] at hw; omega) | (simp [wSub, wRun, wNar, wFil, wCan, wLst, wCar, wDr, wFl, wMq, wRd, wRx, wCr, wTab, wTr, wNew, wKi, wKn, wTn, wOb, wPt, wTl, wOq] at hw; done) | (simp [wSub, wRun, wNar, wFil, wCan, wLst, wCar, wDr, wFl, wMq, wRd, wRx, wCr, wTab, wTr, wNew, wKi, wKn, wTn, wOb, wPt, wTl, wOq] at hw; omega))
          have k92_11 := fM.ld (o := 92) (j := 11) (by intro hw; first | omega | (dsimp only [wSub, wRun, wNar, wFil, wCan, wLst, wCar, wDr, wFl, wMq, wRd, wRx, wCr, wTab, wTr, wNew, wKi, wKn, wTn, wOb, wPt, wTl, wOq] at hw; omega) | (simp [wSub, wRun, wNar, wFil, wCan, wLst, wCar, wDr, wFl, wMq, wRd, wRx, wCr, wTab, wTr, wNew, wKi, wKn, wTn, wOb, wPt, wTl, wOq] at hw; done) | (simp [wSub, wRun, wNar, wFil, wCan, wLst, wCar, wDr, wFl, wMq, wRd, wRx, wCr, wTab, wTr, wNew, wKi, wKn, wTn, wOb, wPt, wTl, wOq] at hw; omega))
          have pf := i2
          have pc2 := i3
          have fs := i4
          have pm := i5
          have t17 := i6
          have k15q : ld M11 92 15 = ld M7 92 15 := by rw [hM11, ld_putne (by omega)]
          replace fs := fr.put fs hM11 (by omega)
          replace pf := pf.pt hM11 (by omega)
          replace pc2 := pc2.pt hM11 (by omega)
          rw [← k15q] at pf pc2
          replace pm : ∃ b : Int, PRm M11 (ld M11 92 15) b := ⟨pm.choose, by rw [k15q]; exact pm.choose_spec.fr (fr.put (W := fun o _ => o = 104 ∨ o = 105) fr.rf hM11 (by omega)) (fun j => by omega)⟩
          replace t17 : ld M11 92 17 = 0 := by rw [hM11, ld_putne (by omega)]; exact t17
          have e82 := hM11
          refine uX12_fills_89 (by first | omega | assumption | with_reducible exact rng_ld _ _ _ | with_reducible exact rng_yand _ _ | with_reducible exact rng_yor _ _ | with_reducible exact rng_zcmp _ _ | with_reducible exact yand7 _ | with_reducible exact rng_toInt _ | with_reducible exact yarr23 (by omega) | with_reducible exact yarr57 (by omega) | with_reducible exact Or.inl rfl | with_reducible exact Or.inr rfl) ?_
          intro M12 hM12
          replace fM := fr.put fM hM12 (by first | omega | (dsimp only [wSub, wRun, wNar, wFil, wCan, wLst, wCar, wDr, wFl, wMq, wRd, wRx, wCr, wTab, wTr, wNew, wKi, wKn, wTn, wOb, wPt, wTl, wOq]; done) | (dsimp only [wSub, wRun, wNar, wFil, wCan, wLst, wCar, wDr, wFl, wMq, wRd, wRx, wCr, wTab, wTr, wNew, wKi, wKn, wTn, wOb, wPt, wTl, wOq]; omega) | (simp [wSub, wRun, wNar, wFil, wCan, wLst, wCar, wDr, wFl, wMq, wRd, wRx, wCr, wTab, wTr, wNew, wKi, wKn, wTn, wOb, wPt, wTl, wOq]; done) | (simp [wSub, wRun, wNar, wFil, wCan, wLst, wCar, wDr, wFl, wMq, wRd, wRx, wCr, wTab, wTr, wNew, wKi, wKn, wTn, wOb, wPt, wTl, wOq]; omega))
          have k92_2 := fM.ld (o := 92) (j := 2) (by intro hw; first | omega | (dsimp only [wSub, wRun, wNar, wFil, wCan, wLst, wCar, wDr, wFl, wMq, wRd, wRx, wCr, wTab, wTr, wNew, wKi, wKn, wTn, wOb, wPt, wTl, wOq] at hw; omega) | (simp [wSub, wRun, wNar, wFil, wCan, wLst, wCar, wDr, wFl, wMq, wRd, wRx, wCr, wTab, wTr, wNew, wKi, wKn, wTn, wOb, wPt, wTl, wOq] at hw; done) | (simp [wSub, wRun, wNar, wFil, wCan, wLst, wCar, wDr, wFl, wMq, wRd, wRx, wCr, wTab, wTr, wNew, wKi, wKn, wTn, wOb, wPt, wTl, wOq] at hw; omega))
          have k92_11 := fM.ld (o := 92) (j := 11) (by intro hw; first | omega | (dsimp only [wSub, wRun, wNar, wFil, wCan, wLst, wCar, wDr, wFl, wMq, wRd, wRx, wCr, wTab, wTr, wNew, wKi, wKn, wTn, wOb, wPt, wTl, wOq] at hw; omega) | (simp [wSub, wRun, wNar, wFil, wCan, wLst, wCar, wDr, wFl, wMq, wRd, wRx, wCr, wTab, wTr, wNew, wKi, wKn, wTn, wOb, wPt, wTl, wOq] at hw; done) | (simp [wSub, wRun, wNar, wFil, wCan, wLst, wCar, wDr, wFl, wMq, wRd, wRx, wCr, wTab, wTr, wNew, wKi, wKn, wTn, wOb, wPt, wTl, wOq] at hw; omega))
          have k15q : ld M12 92 15 = ld M11 92 15 := by rw [hM12, ld_putne (by omega)]
          replace fs := fr.put fs hM12 (by omega)
          replace pf := pf.pt hM12 (by omega)
          replace pc2 := pc2.pt hM12 (by omega)
          rw [← k15q] at pf pc2
          replace pm : ∃ b : Int, PRm M12 (ld M12 92 15) b := ⟨pm.choose, by rw [k15q]; exact pm.choose_spec.fr (fr.put (W := fun o _ => o = 104 ∨ o = 105) fr.rf hM12 (by omega)) (fun j => by omega)⟩
          replace t17 : ld M12 92 17 = 0 := by rw [hM12, ld_putne (by omega)]; exact t17
          have a89 : ∀ j : Int, 0 ≤ j → j < x2 + 1 → ld M12 105 j = 0 ∧ ld M12 104 j = -9 := fun j a1 a2 => by
            rw [hM12, ld_putne (o := 104) (o' := 105) (by omega), ld_put (o := 104) (o' := 104) (by omega), e82, ld_put (by omega), ld_putne (by omega)]
            by_cases w : j = x2
            · rw [if_pos ⟨rfl, w⟩, if_pos ⟨rfl, w⟩]
              exact ⟨rfl, rfl⟩
            · rw [if_neg (fun q => w q.2), if_neg (fun q => w q.2)]
              exact i7 j a1 (by omega)
          refine uX12_fills_97 ?_
          exact ih2 _ _ M12 fM (by first | omega | assumption | with_reducible exact rng_ld _ _ _ | with_reducible exact rng_yand _ _ | with_reducible exact rng_yor _ _ | with_reducible exact rng_zcmp _ _ | with_reducible exact yand7 _ | with_reducible exact rng_toInt _ | with_reducible exact yarr23 (by omega) | with_reducible exact yarr57 (by omega) | with_reducible exact Or.inl rfl | with_reducible exact Or.inr rfl) (by omega) pf pc2 fs pm t17 (by first | exact a89 | exact (fun j a1 a2 => absurd a2 (by omega))) (by omega)
  refine uX12_fills_0 ?_
  intro M13 hM13
  replace fM := fr.put fM hM13 (by first | omega | (dsimp only [wSub, wRun, wNar, wFil, wCan, wLst, wCar, wDr, wFl, wMq, wRd, wRx, wCr, wTab, wTr, wNew, wKi, wKn, wTn, wOb, wPt, wTl, wOq]; done) | (dsimp only [wSub, wRun, wNar, wFil, wCan, wLst, wCar, wDr, wFl, wMq, wRd, wRx, wCr, wTab, wTr, wNew, wKi, wKn, wTn, wOb, wPt, wTl, wOq]; omega) | (simp [wSub, wRun, wNar, wFil, wCan, wLst, wCar, wDr, wFl, wMq, wRd, wRx, wCr, wTab, wTr, wNew, wKi, wKn, wTn, wOb, wPt, wTl, wOq]; done) | (simp [wSub, wRun, wNar, wFil, wCan, wLst, wCar, wDr, wFl, wMq, wRd, wRx, wCr, wTab, wTr, wNew, wKi, wKn, wTn, wOb, wPt, wTl, wOq]; omega))
  have k92_2 := fM.ld (o := 92) (j := 2) (by intro hw; first | omega | (dsimp only [wSub, wRun, wNar, wFil, wCan, wLst, wCar, wDr, wFl, wMq, wRd, wRx, wCr, wTab, wTr, wNew, wKi, wKn, wTn, wOb, wPt, wTl, wOq] at hw; omega) | (simp [wSub, wRun, wNar, wFil, wCan, wLst, wCar, wDr, wFl, wMq, wRd, wRx, wCr, wTab, wTr, wNew, wKi, wKn, wTn, wOb, wPt, wTl, wOq] at hw; done) | (simp [wSub, wRun, wNar, wFil, wCan, wLst, wCar, wDr, wFl, wMq, wRd, wRx, wCr, wTab, wTr, wNew, wKi, wKn, wTn, wOb, wPt, wTl, wOq] at hw; omega))
  have k92_11 := fM.ld (o := 92) (j := 11) (by intro hw; first | omega | (dsimp only [wSub, wRun, wNar, wFil, wCan, wLst, wCar, wDr, wFl, wMq, wRd, wRx, wCr, wTab, wTr, wNew, wKi, wKn, wTn, wOb, wPt, wTl, wOq] at hw; omega) | (simp [wSub, wRun, wNar, wFil, wCan, wLst, wCar, wDr, wFl, wMq, wRd, wRx, wCr, wTab, wTr, wNew, wKi, wKn, wTn, wOb, wPt, wTl, wOq] at hw; done) | (simp [wSub, wRun, wNar, wFil, wCan, wLst, wCar, wDr, wFl, wMq, wRd, wRx, wCr, wTab, wTr, wNew, wKi, wKn, wTn, wOb, wPt, wTl, wOq] at hw; omega))
  have f0 : fr (fun o j => o = 101 ∨ o = 102 ∨ (o = 92 ∧ j = 15)) M M13 := fr.put fr.rf hM13 (by omega)
  have t0 : ld M13 92 15 = pcn n (0 : Int).toNat := by rw [hM13, ld_same (by omega)]; rfl
  have t00 : ld M13 92 15 = 0 := t0
  have p0 : PRf M13 (ld M13 92 15) n := fun p h1 h2 => by omega
  have q0 : PRc M13 (ld M13 92 15) (fun i j => 0 ≤ i ∧ i < j ∧ j < n ∧ i < 0) := fun i j q => by omega
  have m0 : PRm M13 (ld M13 92 15) (8 * 0) := ⟨fun p q _ _ _ => by omega, fun p _ _ => by omega⟩
  refine uX12_fills_5 ?_
  exact (go 1000000).1 _ _ M13 fM (by first | omega | assumption | with_reducible exact rng_ld _ _ _ | with_reducible exact rng_yand _ _ | with_reducible exact rng_yor _ _ | with_reducible exact rng_zcmp _ _ | with_reducible exact yand7 _ | with_reducible exact rng_toInt _ | with_reducible exact yarr23 (by omega) | with_reducible exact yarr57 (by omega) | with_reducible exact Or.inl rfl | with_reducible exact Or.inr rfl) (by first | (rw [pcn_s (by omega)]; omega) | exact t0) (by first | assumption | exact p0) (by first | exact PRc.mono (by assumption) (fun i j q => by omega) | exact q0) (by first | assumption | exact f0) (by first | exact m0 | exact i6.up (by omega)) (by omega)
theorem n12_fillings {d : Nat} {Q : Int → yM → Prop} {M : yM} {x1 : Int} {T f : Int → Int} {k n : Int} (hM : MCT M T f k n) (hSN : SN f k n (nr M 0)) (hdg : ∀ i : Int, 0 ≤ i → i < n → nr M 0 (8 * i + i) = 1) (p1 : -2147483648 ≤ x1 ∧ x1 < 2147483648) (kont : ∀ (v : Int) (M' : yM), fr (wMq) M M' → (v = -1 ∧ ¬ (x1 = 0 ∨ x1 = 1) ∨ x1 = 1 ∧ (v = 1 ∧ 0 < ct (Fl T f k n (nr M 0)) (UV k n) ∨ v = 0 ∧ ct (Fl T f k n (nr M 0)) (UV k n) = 0) ∨ x1 = 0 ∧ (v = ct (Fl T f k n (nr M 0)) (UV k n) ∧ ct (Fl T f k n (nr M 0)) (UV k n) ≤ 20000 ∨ v = -5 ∧ 20000 < ct (Fl T f k n (nr M 0)) (UV k n))) → Q v M') : XCi (d + 5) 156 [.inr (.inr 92), .inl x1] M Q := by
  refine eX12_fillings ?_
  have fM : fr (wMq) M M := fr.rf
  have hk8 := hM.2.2.2.2.1.1
  have hf := hM.2.2.2.2.1.2.1
  have hn8 := hM.2.2.2.2.2
  have m2 := hM.1
  have m11 := hM.2.1
  have al8 := al_le hk8
  refine uX12_fillings_0 ?_
  intro M1 hM1
  replace fM := fr.put fM hM1 (by first | omega | (dsimp only [wSub, wRun, wNar, wFil, wCan, wLst, wCar, wDr, wFl, wMq, wRd, wRx, wCr, wTab, wTr, wNew, wKi, wKn, wTn, wOb, wPt, wTl, wOq]; done) | (dsimp only [wSub, wRun, wNar, wFil, wCan, wLst, wCar, wDr, wFl, wMq, wRd, wRx, wCr, wTab, wTr, wNew, wKi, wKn, wTn, wOb, wPt, wTl, wOq]; omega) | (simp [wSub, wRun, wNar, wFil, wCan, wLst, wCar, wDr, wFl, wMq, wRd, wRx, wCr, wTab, wTr, wNew, wKi, wKn, wTn, wOb, wPt, wTl, wOq]; done) | (simp [wSub, wRun, wNar, wFil, wCan, wLst, wCar, wDr, wFl, wMq, wRd, wRx, wCr, wTab, wTr, wNew, wKi, wKn, wTn, wOb, wPt, wTl, wOq]; omega))
  have k92_2 := fM.ld (o := 92) (j := 2) (by intro hw; first | omega | (dsimp only [wSub, wRun, wNar, wFil, wCan, wLst, wCar, wDr, wFl, wMq, wRd, wRx, wCr, wTab, wTr, wNew, wKi, wKn, wTn, wOb, wPt, wTl, wOq] at hw; omega) | (simp [wSub, wRun, wNar, wFil, wCan, wLst, wCar, wDr, wFl, wMq, wRd, wRx, wCr, wTab, wTr, wNew, wKi, wKn, wTn, wOb, wPt, wTl, wOq] at hw; done) | (simp [wSub, wRun, wNar, wFil, wCan, wLst, wCar, wDr, wFl, wMq, wRd, wRx, wCr, wTab, wTr, wNew, wKi, wKn, wTn, wOb, wPt, wTl, wOq] at hw; omega))
  have k92_11 := fM.ld (o := 92) (j := 11) (by intro hw; first | omega | (dsimp only [wSub, wRun, wNar, wFil, wCan, wLst, wCar, wDr, wFl, wMq, wRd, wRx, wCr, wTab, wTr, wNew, wKi, wKn, wTn, wOb, wPt, wTl, wOq] at hw; omega) | (simp [wSub, wRun, wNar, wFil, wCan, wLst, wCar, wDr, wFl, wMq, wRd, wRx, wCr, wTab, wTr, wNew, wKi, wKn, wTn, wOb, wPt, wTl, wOq] at hw; done) | (simp [wSub, wRun, wNar, wFil, wCan, wLst, wCar, wDr, wFl, wMq, wRd, wRx, wCr, wTab, wTr, wNew, wKi, wKn, wTn, wOb, wPt, wTl, wOq] at hw; omega))
  have n0 : nr M1 0 = nr M 0 := funext fun x => by unfold nr; rw [hM1, ld_putne (by omega)]
  have s0 : SN f k n (nr M1 0) := by rw [n0]; exact hSN
  have g0 : ∀ i : Int, 0 ≤ i → i < n → nr M1 0 (8 * i + i) = 1 := fun i a b => by rw [n0]; exact hdg i a b
  refine uX12_fillings_5 ?_
  refine c12_in  (by first | omega | assumption | with_reducible exact rng_ld _ _ _ | with_reducible exact rng_yand _ _ | with_reducible exact rng_yor _ _ | with_reducible exact rng_zcmp _ _ | with_reducible exact yand7 _ | with_reducible exact rng_toInt _ | with_reducible exact yarr23 (by omega) | with_reducible exact yarr57 (by omega) | with_reducible exact Or.inl rfl | with_reducible exact Or.inr rfl) (by first | omega | assumption | with_reducible exact rng_ld _ _ _ | with_reducible exact rng_yand _ _ | with_reducible exact rng_yor _ _ | with_reducible exact rng_zcmp _ _ | with_reducible exact yand7 _ | with_reducible exact rng_toInt _ | with_reducible exact yarr23 (by omega) | with_reducible exact yarr57 (by omega) | with_reducible exact Or.inl rfl | with_reducible exact Or.inr rfl) (by first | omega | assumption | with_reducible exact rng_ld _ _ _ | with_reducible exact rng_yand _ _ | with_reducible exact rng_yor _ _ | with_reducible exact rng_zcmp _ _ | with_reducible exact yand7 _ | with_reducible exact rng_toInt _ | with_reducible exact yarr23 (by omega) | with_reducible exact yarr57 (by omega) | with_reducible exact Or.inl rfl | with_reducible exact Or.inr rfl) (fun v2 p2a => ?_)
  refine uX12_fillings_11 (by first | omega | assumption | with_reducible exact rng_ld _ _ _ | with_reducible exact rng_yand _ _ | with_reducible exact rng_yor _ _ | with_reducible exact rng_zcmp _ _ | with_reducible exact yand7 _ | with_reducible exact rng_toInt _ | with_reducible exact yarr23 (by omega) | with_reducible exact yarr57 (by omega) | with_reducible exact Or.inl rfl | with_reducible exact Or.inr rfl) (fun hc => ?_) (fun hc => ?_)
  · skip
    refine uX12_fillings_16 ?_
    refine c12_copies  (by first | omega | assumption | with_reducible exact rng_ld _ _ _ | with_reducible exact rng_yand _ _ | with_reducible exact rng_yor _ _ | with_reducible exact rng_zcmp _ _ | with_reducible exact yand7 _ | with_reducible exact rng_toInt _ | with_reducible exact yarr23 (by omega) | with_reducible exact yarr57 (by omega) | with_reducible exact Or.inl rfl | with_reducible exact Or.inr rfl) (fun M3 fM3 p3a => ?_)
    replace fM := fM.tr fM3 (by intro o j hw; first | omega | exact hw | (dsimp only [wSub, wRun, wNar, wFil, wCan, wLst, wCar, wDr, wFl, wMq, wRd, wRx, wCr, wTab, wTr, wNew, wKi, wKn, wTn, wOb, wPt, wTl, wOq] at hw; dsimp only [wSub, wRun, wNar, wFil, wCan, wLst, wCar, wDr, wFl, wMq, wRd, wRx, wCr, wTab, wTr, wNew, wKi, wKn, wTn, wOb, wPt, wTl, wOq]; omega) | (dsimp only [wSub, wRun, wNar, wFil, wCan, wLst, wCar, wDr, wFl, wMq, wRd, wRx, wCr, wTab, wTr, wNew, wKi, wKn, wTn, wOb, wPt, wTl, wOq]; omega) | (dsimp only [wSub, wRun, wNar, wFil, wCan, wLst, wCar, wDr, wFl, wMq, wRd, wRx, wCr, wTab, wTr, wNew, wKi, wKn, wTn, wOb, wPt, wTl, wOq] at hw; omega) | (simp [wSub, wRun, wNar, wFil, wCan, wLst, wCar, wDr, wFl, wMq, wRd, wRx, wCr, wTab, wTr, wNew, wKi, wKn, wTn, wOb, wPt, wTl, wOq] at hw; simp [wSub, wRun, wNar, wFil, wCan, wLst, wCar, wDr, wFl, wMq, wRd, wRx, wCr, wTab, wTr, wNew, wKi, wKn, wTn, wOb, wPt, wTl, wOq]; omega))
    have k92_2 := fM.ld (o := 92) (j := 2) (by intro hw; first | omega | (dsimp only [wSub, wRun, wNar, wFil, wCan, wLst, wCar, wDr, wFl, wMq, wRd, wRx, wCr, wTab, wTr, wNew, wKi, wKn, wTn, wOb, wPt, wTl, wOq] at hw; omega) | (simp [wSub, wRun, wNar, wFil, wCan, wLst, wCar, wDr, wFl, wMq, wRd, wRx, wCr, wTab, wTr, wNew, wKi, wKn, wTn, wOb, wPt, wTl, wOq] at hw; done) | (simp [wSub, wRun, wNar, wFil, wCan, wLst, wCar, wDr, wFl, wMq, wRd, wRx, wCr, wTab, wTr, wNew, wKi, wKn, wTn, wOb, wPt, wTl, wOq] at hw; omega))
    have k92_11 := fM.ld (o := 92) (j := 11) (by intro hw; first | omega | (dsimp only [wSub, wRun, wNar, wFil, wCan, wLst, wCar, wDr, wFl, wMq, wRd, wRx, wCr, wTab, wTr, wNew, wKi, wKn, wTn, wOb, wPt, wTl, wOq] at hw; omega) | (simp [wSub, wRun, wNar, wFil, wCan, wLst, wCar, wDr, wFl, wMq, wRd, wRx, wCr, wTab, wTr, wNew, wKi, wKn, wTn, wOb, wPt, wTl, wOq] at hw; done) | (simp [wSub, wRun, wNar, wFil, wCan, wLst, wCar, wDr, wFl, wMq, wRd, wRx, wCr, wTab, wTr, wNew, wKi, wKn, wTn, wOb, wPt, wTl, wOq] at hw; omega))
    have c64 : EqN (nr M3 64) (nr M1 0) := nr_cp p3a
    have s64 := SN.eq hn8.2 s0 c64.sy
    have g64 : ∀ i : Int, 0 ≤ i → i < n → nr M3 64 (8 * i + i) = 1 := fun i a b => by rw [c64 _ (by omega) (by omega)]; exact g0 i a b
    rw [n0] at c64
    refine uX12_fillings_23 (by first | omega | assumption | with_reducible exact rng_ld _ _ _ | with_reducible exact rng_yand _ _ | with_reducible exact rng_yor _ _ | with_reducible exact rng_zcmp _ _ | with_reducible exact yand7 _ | with_reducible exact rng_toInt _ | with_reducible exact yarr23 (by omega) | with_reducible exact yarr57 (by omega) | with_reducible exact Or.inl rfl | with_reducible exact Or.inr rfl) (fun hc => ?_) (fun hc => ?_)
    · skip
      refine uX12_fillings_33 ?_
      refine uX12_fillings_36 ?_
      refine XC.deep (n12_fills  (d := 0) (hM.fr fM (by dsimp only [wMq]; omega) (by dsimp only [wMq]; omega) (fun _ => by dsimp only [wMq]; omega) (fun _ => by dsimp only [wMq]; omega)) (by omega) s64 g64 (fun M4 fM4 p4a => ?_)) (by omega)
      replace fM := fM.tr fM4 (by intro o j hw; first | omega | exact hw | (dsimp only [wSub, wRun, wNar, wFil, wCan, wLst, wCar, wDr, wFl, wMq, wRd, wRx, wCr, wTab, wTr, wNew, wKi, wKn, wTn, wOb, wPt, wTl, wOq] at hw; dsimp only [wSub, wRun, wNar, wFil, wCan, wLst, wCar, wDr, wFl, wMq, wRd, wRx, wCr, wTab, wTr, wNew, wKi, wKn, wTn, wOb, wPt, wTl, wOq]; omega) | (dsimp only [wSub, wRun, wNar, wFil, wCan, wLst, wCar, wDr, wFl, wMq, wRd, wRx, wCr, wTab, wTr, wNew, wKi, wKn, wTn, wOb, wPt, wTl, wOq]; omega) | (dsimp only [wSub, wRun, wNar, wFil, wCan, wLst, wCar, wDr, wFl, wMq, wRd, wRx, wCr, wTab, wTr, wNew, wKi, wKn, wTn, wOb, wPt, wTl, wOq] at hw; omega) | (simp [wSub, wRun, wNar, wFil, wCan, wLst, wCar, wDr, wFl, wMq, wRd, wRx, wCr, wTab, wTr, wNew, wKi, wKn, wTn, wOb, wPt, wTl, wOq] at hw; simp [wSub, wRun, wNar, wFil, wCan, wLst, wCar, wDr, wFl, wMq, wRd, wRx, wCr, wTab, wTr, wNew, wKi, wKn, wTn, wOb, wPt, wTl, wOq]; omega))
      have k92_2 := fM.ld (o := 92) (j := 2) (by intro hw; first | omega | (dsimp only [wSub, wRun, wNar, wFil, wCan, wLst, wCar, wDr, wFl, wMq, wRd, wRx, wCr, wTab, wTr, wNew, wKi, wKn, wTn, wOb, wPt, wTl, wOq] at hw; omega) | (simp [wSub, wRun, wNar, wFil, wCan, wLst, wCar, wDr, wFl, wMq, wRd, wRx, wCr, wTab, wTr, wNew, wKi, wKn, wTn, wOb, wPt, wTl, wOq] at hw; done) | (simp [wSub, wRun, wNar, wFil, wCan, wLst, wCar, wDr, wFl, wMq, wRd, wRx, wCr, wTab, wTr, wNew, wKi, wKn, wTn, wOb, wPt, wTl, wOq] at hw; omega))
      have k92_11 := fM.ld (o := 92) (j := 11) (by intro hw; first | omega | (dsimp only [wSub, wRun, wNar, wFil, wCan, wLst, wCar, wDr, wFl, wMq, wRd, wRx, wCr, wTab, wTr, wNew, wKi, wKn, wTn, wOb, wPt, wTl, wOq] at hw; omega) | (simp [wSub, wRun, wNar, wFil, wCan, wLst, wCar, wDr, wFl, wMq, wRd, wRx, wCr, wTab, wTr, wNew, wKi, wKn, wTn, wOb, wPt, wTl, wOq] at hw; done) | (simp [wSub, wRun, wNar, wFil, wCan, wLst, wCar, wDr, wFl, wMq, wRd, wRx, wCr, wTab, wTr, wNew, wKi, wKn, wTn, wOb, wPt, wTl, wOq] at hw; omega))
      have rF := FRES.eq hk8.1 hn8.2 c64 p4a
      refine uX12_fillings_39 (by first | omega | assumption | with_reducible exact rng_ld _ _ _ | with_reducible exact rng_yand _ _ | with_reducible exact rng_yor _ _ | with_reducible exact rng_zcmp _ _ | with_reducible exact yand7 _ | with_reducible exact rng_toInt _ | with_reducible exact yarr23 (by omega) | with_reducible exact yarr57 (by omega) | with_reducible exact Or.inl rfl | with_reducible exact Or.inr rfl) (fun hc => ?_) (fun hc => ?_)
      · skip
        refine uX12_fillings_51 (fun hc => ?_) (fun hc => ?_)
        · skip
          refine uX12_fillings_66 ?_
          refine uX12_fillings_70 ?_
          exact kont _ _ fM (by first | exact Or.inr (Or.inl ⟨by assumption, fiv1 rF⟩) | exact Or.inr (Or.inr ⟨by omega, Or.inl ⟨((fiv0 rF).1 (by assumption)).1, ((fiv0 rF).1 (by assumption)).2.1⟩⟩) | exact Or.inr (Or.inr ⟨by omega, Or.inr ⟨rfl, (fiv0 rF).2 (by assumption)⟩⟩) | (exfalso; omega))
        · skip
          refine uX12_fillings_61 ?_
          refine uX12_fillings_70 ?_
          exact kont _ _ fM (by first | exact Or.inr (Or.inl ⟨by assumption, fiv1 rF⟩) | exact Or.inr (Or.inr ⟨by omega, Or.inl ⟨((fiv0 rF).1 (by assumption)).1, ((fiv0 rF).1 (by assumption)).2.1⟩⟩) | exact Or.inr (Or.inr ⟨by omega, Or.inr ⟨rfl, (fiv0 rF).2 (by assumption)⟩⟩) | (exfalso; omega))
      · skip
        refine uX12_fillings_44 ?_
        refine uX12_fillings_70 ?_
        exact kont _ _ fM (by first | exact Or.inr (Or.inl ⟨by assumption, fiv1 rF⟩) | exact Or.inr (Or.inr ⟨by omega, Or.inl ⟨((fiv0 rF).1 (by assumption)).1, ((fiv0 rF).1 (by assumption)).2.1⟩⟩) | exact Or.inr (Or.inr ⟨by omega, Or.inr ⟨rfl, (fiv0 rF).2 (by assumption)⟩⟩) | (exfalso; omega))
    · skip
      refine uX12_fillings_29 ?_
      refine uX12_fillings_36 ?_
      refine XC.deep (n12_fills  (d := 0) (hM.fr fM (by dsimp only [wMq]; omega) (by dsimp only [wMq]; omega) (fun _ => by dsimp only [wMq]; omega) (fun _ => by dsimp only [wMq]; omega)) (by omega) s64 g64 (fun M5 fM5 p5a => ?_)) (by omega)
      replace fM := fM.tr fM5 (by intro o j hw; first | omega | exact hw | (dsimp only [wSub, wRun, wNar, wFil, wCan, wLst, wCar, wDr, wFl, wMq, wRd, wRx, wCr, wTab, wTr, wNew, wKi, wKn, wTn, wOb, wPt, wTl, wOq] at hw; dsimp only [wSub, wRun, wNar, wFil, wCan, wLst, wCar, wDr, wFl, wMq, wRd, wRx, wCr, wTab, wTr, wNew, wKi, wKn, wTn, wOb, wPt, wTl, wOq]; omega) | (dsimp only [wSub, wRun, wNar, wFil, wCan, wLst, wCar, wDr, wFl, wMq, wRd, wRx, wCr, wTab, wTr, wNew, wKi, wKn, wTn, wOb, wPt, wTl, wOq]; omega) | (dsimp only [wSub, wRun, wNar, wFil, wCan, wLst, wCar, wDr, wFl, wMq, wRd, wRx, wCr, wTab, wTr, wNew, wKi, wKn, wTn, wOb, wPt, wTl, wOq] at hw; omega) | (simp [wSub, wRun, wNar, wFil, wCan, wLst, wCar, wDr, wFl, wMq, wRd, wRx, wCr, wTab, wTr, wNew, wKi, wKn, wTn, wOb, wPt, wTl, wOq] at hw; simp [wSub, wRun, wNar, wFil, wCan, wLst, wCar, wDr, wFl, wMq, wRd, wRx, wCr, wTab, wTr, wNew, wKi, wKn, wTn, wOb, wPt, wTl, wOq]; omega))
      have k92_2 := fM.ld (o := 92) (j := 2) (by intro hw; first | omega | (dsimp only [wSub, wRun, wNar, wFil, wCan, wLst, wCar, wDr, wFl, wMq, wRd, wRx, wCr, wTab, wTr, wNew, wKi, wKn, wTn, wOb, wPt, wTl, wOq] at hw; omega) | (simp [wSub, wRun, wNar, wFil, wCan, wLst, wCar, wDr, wFl, wMq, wRd, wRx, wCr, wTab, wTr, wNew, wKi, wKn, wTn, wOb, wPt, wTl, wOq] at hw; done) | (simp [wSub, wRun, wNar, wFil, wCan, wLst, wCar, wDr, wFl, wMq, wRd, wRx, wCr, wTab, wTr, wNew, wKi, wKn, wTn, wOb, wPt, wTl, wOq] at hw; omega))
      have k92_11 := fM.ld (o := 92) (j := 11) (by intro hw; first | omega | (dsimp only [wSub, wRun, wNar, wFil, wCan, wLst, wCar, wDr, wFl, wMq, wRd, wRx, wCr, wTab, wTr, wNew, wKi, wKn, wTn, wOb, wPt, wTl, wOq] at hw; omega) | (simp [wSub, wRun, wNar, wFil, wCan, wLst, wCar, wDr, wFl, wMq, wRd, wRx, wCr, wTab, wTr, wNew, wKi, wKn, wTn, wOb, wPt, wTl, wOq] at hw; done) | (simp [wSub, wRun, wNar, wFil, wCan, wLst, wCar, wDr, wFl, wMq, wRd, wRx, wCr, wTab, wTr, wNew, wKi, wKn, wTn, wOb, wPt, wTl, wOq] at hw; omega))
      have rF := FRES.eq hk8.1 hn8.2 c64 p5a
      refine uX12_fillings_39 (by first | omega | assumption | with_reducible exact rng_ld _ _ _ | with_reducible exact rng_yand _ _ | with_reducible exact rng_yor _ _ | with_reducible exact rng_zcmp _ _ | with_reducible exact yand7 _ | with_reducible exact rng_toInt _ | with_reducible exact yarr23 (by omega) | with_reducible exact yarr57 (by omega) | with_reducible exact Or.inl rfl | with_reducible exact Or.inr rfl) (fun hc => ?_) (fun hc => ?_)
      · skip
        refine uX12_fillings_51 (fun hc => ?_) (fun hc => ?_)
        · skip
          refine uX12_fillings_66 ?_
          refine uX12_fillings_70 ?_
          exact kont _ _ fM (by first | exact Or.inr (Or.inl ⟨by assumption, fiv1 rF⟩) | exact Or.inr (Or.inr ⟨by omega, Or.inl ⟨((fiv0 rF).1 (by assumption)).1, ((fiv0 rF).1 (by assumption)).2.1⟩⟩) | exact Or.inr (Or.inr ⟨by omega, Or.inr ⟨rfl, (fiv0 rF).2 (by assumption)⟩⟩) | (exfalso; omega))
        · skip
          refine uX12_fillings_61 ?_
          refine uX12_fillings_70 ?_
          exact kont _ _ fM (by first | exact Or.inr (Or.inl ⟨by assumption, fiv1 rF⟩) | exact Or.inr (Or.inr ⟨by omega, Or.inl ⟨((fiv0 rF).1 (by assumption)).1, ((fiv0 rF).1 (by assumption)).2.1⟩⟩) | exact Or.inr (Or.inr ⟨by omega, Or.inr ⟨rfl, (fiv0 rF).2 (by assumption)⟩⟩) | (exfalso; omega))
      · skip
        refine uX12_fillings_44 ?_
        refine uX12_fillings_70 ?_
        exact kont _ _ fM (by first | exact Or.inr (Or.inl ⟨by assumption, fiv1 rF⟩) | exact Or.inr (Or.inr ⟨by omega, Or.inl ⟨((fiv0 rF).1 (by assumption)).1, ((fiv0 rF).1 (by assumption)).2.1⟩⟩) | exact Or.inr (Or.inr ⟨by omega, Or.inr ⟨rfl, (fiv0 rF).2 (by assumption)⟩⟩) | (exfalso; omega))
  · skip
    refine uX12_fillings_14 ?_
    exact kont _ _ fM (Or.inl ⟨rfl, by omega⟩)
theorem n12_first {d : Nat} {Q : Int → yM → Prop} {M : yM} {x1 : Int} {x2 : Int} {T f : Int → Int} {k n : Int} (hM : MCT M T f k n) (hSN : SN f k n (nr M 0)) (hdg : ∀ i : Int, 0 ≤ i → i < n → nr M 0 (8 * i + i) = 1) (p1 : -2147483648 ≤ x1 ∧ x1 < 2147483648) (p2 : -2147483648 ≤ x2 ∧ x2 < 2147483648) (kont : ∀ (v : Int) (M' : yM), fr (wMq) M M' → (v = -1 ∧ ¬ ((0 ≤ x1 ∧ x1 < n) ∧ 0 ≤ x2 ∧ x2 < n) ∨ ((0 ≤ x1 ∧ x1 < n) ∧ 0 ≤ x2 ∧ x2 < n) ∧ (v = -9 ∧ ct (Fl T f k n (nr M 0)) (UV k n) = 0 ∨ ∃ κ, KV k n κ ∧ LX T f k n (nr M 0) κ ∧ v = low (nK f κ (8 * x1 + x2)))) → Q v M') : XCi (d + 5) 157 [.inr (.inr 92), .inl x1, .inl x2] M Q := by
  refine eX12_first ?_
  have fM : fr (wMq) M M := fr.rf
  have hk8 := hM.2.2.2.2.1.1
  have hf := hM.2.2.2.2.1.2.1
  have hn8 := hM.2.2.2.2.2
  have m2 := hM.1
  have m11 := hM.2.1
  have al8 := al_le hk8
  refine uX12_first_0 ?_
  intro M1 hM1
  replace fM := fr.put fM hM1 (by first | omega | (dsimp only [wSub, wRun, wNar, wFil, wCan, wLst, wCar, wDr, wFl, wMq, wRd, wRx, wCr, wTab, wTr, wNew, wKi, wKn, wTn, wOb, wPt, wTl, wOq]; done) | (dsimp only [wSub, wRun, wNar, wFil, wCan, wLst, wCar, wDr, wFl, wMq, wRd, wRx, wCr, wTab, wTr, wNew, wKi, wKn, wTn, wOb, wPt, wTl, wOq]; omega) | (simp [wSub, wRun, wNar, wFil, wCan, wLst, wCar, wDr, wFl, wMq, wRd, wRx, wCr, wTab, wTr, wNew, wKi, wKn, wTn, wOb, wPt, wTl, wOq]; done) | (simp [wSub, wRun, wNar, wFil, wCan, wLst, wCar, wDr, wFl, wMq, wRd, wRx, wCr, wTab, wTr, wNew, wKi, wKn, wTn, wOb, wPt, wTl, wOq]; omega))
  have k92_2 := fM.ld (o := 92) (j := 2) (by intro hw; first | omega | (dsimp only [wSub, wRun, wNar, wFil, wCan, wLst, wCar, wDr, wFl, wMq, wRd, wRx, wCr, wTab, wTr, wNew, wKi, wKn, wTn, wOb, wPt, wTl, wOq] at hw; omega) | (simp [wSub, wRun, wNar, wFil, wCan, wLst, wCar, wDr, wFl, wMq, wRd, wRx, wCr, wTab, wTr, wNew, wKi, wKn, wTn, wOb, wPt, wTl, wOq] at hw; done) | (simp [wSub, wRun, wNar, wFil, wCan, wLst, wCar, wDr, wFl, wMq, wRd, wRx, wCr, wTab, wTr, wNew, wKi, wKn, wTn, wOb, wPt, wTl, wOq] at hw; omega))
  have k92_11 := fM.ld (o := 92) (j := 11) (by intro hw; first | omega | (dsimp only [wSub, wRun, wNar, wFil, wCan, wLst, wCar, wDr, wFl, wMq, wRd, wRx, wCr, wTab, wTr, wNew, wKi, wKn, wTn, wOb, wPt, wTl, wOq] at hw; omega) | (simp [wSub, wRun, wNar, wFil, wCan, wLst, wCar, wDr, wFl, wMq, wRd, wRx, wCr, wTab, wTr, wNew, wKi, wKn, wTn, wOb, wPt, wTl, wOq] at hw; done) | (simp [wSub, wRun, wNar, wFil, wCan, wLst, wCar, wDr, wFl, wMq, wRd, wRx, wCr, wTab, wTr, wNew, wKi, wKn, wTn, wOb, wPt, wTl, wOq] at hw; omega))
  have n0 : nr M1 0 = nr M 0 := funext fun x => by unfold nr; rw [hM1, ld_putne (by omega)]
  have s0 : SN f k n (nr M1 0) := by rw [n0]; exact hSN
  have g0 : ∀ i : Int, 0 ≤ i → i < n → nr M1 0 (8 * i + i) = 1 := fun i a b => by rw [n0]; exact hdg i a b
  refine uX12_first_5 ?_
  refine XC.deep (c12_isPoint  (d := 0) (by first | omega | assumption | with_reducible exact rng_ld _ _ _ | with_reducible exact rng_yand _ _ | with_reducible exact rng_yor _ _ | with_reducible exact rng_zcmp _ _ | with_reducible exact yand7 _ | with_reducible exact rng_toInt _ | with_reducible exact yarr23 (by omega) | with_reducible exact yarr57 (by omega) | with_reducible exact Or.inl rfl | with_reducible exact Or.inr rfl) (by first | omega | assumption | with_reducible exact rng_ld _ _ _ | with_reducible exact rng_yand _ _ | with_reducible exact rng_yor _ _ | with_reducible exact rng_zcmp _ _ | with_reducible exact yand7 _ | with_reducible exact rng_toInt _ | with_reducible exact yarr23 (by omega) | with_reducible exact yarr57 (by omega) | with_reducible exact Or.inl rfl | with_reducible exact Or.inr rfl) (fun v2 p2a => ?_)) (by omega)
  refine uX12_first_10 (by first | omega | assumption | with_reducible exact rng_ld _ _ _ | with_reducible exact rng_yand _ _ | with_reducible exact rng_yor _ _ | with_reducible exact rng_zcmp _ _ | with_reducible exact yand7 _ | with_reducible exact rng_toInt _ | with_reducible exact yarr23 (by omega) | with_reducible exact yarr57 (by omega) | with_reducible exact Or.inl rfl | with_reducible exact Or.inr rfl) (fun hc => ?_) (fun hc => ?_)
  · skip
    refine uX12_first_21 ?_
    exact kont _ _ fM (Or.inl ⟨rfl, by omega⟩)
  · skip
    refine uX12_first_13 ?_
    refine XC.deep (c12_isPoint  (d := 0) (by first | omega | assumption | with_reducible exact rng_ld _ _ _ | with_reducible exact rng_yand _ _ | with_reducible exact rng_yor _ _ | with_reducible exact rng_zcmp _ _ | with_reducible exact yand7 _ | with_reducible exact rng_toInt _ | with_reducible exact yarr23 (by omega) | with_reducible exact yarr57 (by omega) | with_reducible exact Or.inl rfl | with_reducible exact Or.inr rfl) (by first | omega | assumption | with_reducible exact rng_ld _ _ _ | with_reducible exact rng_yand _ _ | with_reducible exact rng_yor _ _ | with_reducible exact rng_zcmp _ _ | with_reducible exact yand7 _ | with_reducible exact rng_toInt _ | with_reducible exact yarr23 (by omega) | with_reducible exact yarr57 (by omega) | with_reducible exact Or.inl rfl | with_reducible exact Or.inr rfl) (fun v3 p3a => ?_)) (by omega)
    refine uX12_first_18 (by first | omega | assumption | with_reducible exact rng_ld _ _ _ | with_reducible exact rng_yand _ _ | with_reducible exact rng_yor _ _ | with_reducible exact rng_zcmp _ _ | with_reducible exact yand7 _ | with_reducible exact rng_toInt _ | with_reducible exact yarr23 (by omega) | with_reducible exact yarr57 (by omega) | with_reducible exact Or.inl rfl | with_reducible exact Or.inr rfl) (fun hc => ?_) (fun hc => ?_)
    · skip
      refine uX12_first_23 ?_
      refine c12_copies  (by first | omega | assumption | with_reducible exact rng_ld _ _ _ | with_reducible exact rng_yand _ _ | with_reducible exact rng_yor _ _ | with_reducible exact rng_zcmp _ _ | with_reducible exact yand7 _ | with_reducible exact rng_toInt _ | with_reducible exact yarr23 (by omega) | with_reducible exact yarr57 (by omega) | with_reducible exact Or.inl rfl | with_reducible exact Or.inr rfl) (fun M4 fM4 p4a => ?_)
      replace fM := fM.tr fM4 (by intro o j hw; first | omega | exact hw | (dsimp only [wSub, wRun, wNar, wFil, wCan, wLst, wCar, wDr, wFl, wMq, wRd, wRx, wCr, wTab, wTr, wNew, wKi, wKn, wTn, wOb, wPt, wTl, wOq] at hw; dsimp only [wSub, wRun, wNar, wFil, wCan, wLst, wCar, wDr, wFl, wMq, wRd, wRx, wCr, wTab, wTr, wNew, wKi, wKn, wTn, wOb, wPt, wTl, wOq]; omega) | (dsimp only [wSub, wRun, wNar, wFil, wCan, wLst, wCar, wDr, wFl, wMq, wRd, wRx, wCr, wTab, wTr, wNew, wKi, wKn, wTn, wOb, wPt, wTl, wOq]; omega) | (dsimp only [wSub, wRun, wNar, wFil, wCan, wLst, wCar, wDr, wFl, wMq, wRd, wRx, wCr, wTab, wTr, wNew, wKi, wKn, wTn, wOb, wPt, wTl, wOq] at hw; omega) | (simp [wSub, wRun, wNar, wFil, wCan, wLst, wCar, wDr, wFl, wMq, wRd, wRx, wCr, wTab, wTr, wNew, wKi, wKn, wTn, wOb, wPt, wTl, wOq] at hw; simp [wSub, wRun, wNar, wFil, wCan, wLst, wCar, wDr, wFl, wMq, wRd, wRx, wCr, wTab, wTr, wNew, wKi, wKn, wTn, wOb, wPt, wTl, wOq]; omega))
      have k92_2 := fM.ld (o := 92) (j := 2) (by intro hw; first | omega | (dsimp only [wSub, wRun, wNar, wFil, wCan, wLst, wCar, wDr, wFl, wMq, wRd, wRx, wCr, wTab, wTr, wNew, wKi, wKn, wTn, wOb, wPt, wTl, wOq] at hw; omega) | (simp [wSub, wRun, wNar, wFil, wCan, wLst, wCar, wDr, wFl, wMq, wRd, wRx, wCr, wTab, wTr, wNew, wKi, wKn, wTn, wOb, wPt, wTl, wOq] at hw; done) | (simp [wSub, wRun, wNar, wFil, wCan, wLst, wCar, wDr, wFl, wMq, wRd, wRx, wCr, wTab, wTr, wNew, wKi, wKn, wTn, wOb, wPt, wTl, wOq] at hw; omega))
      have k92_11 := fM.ld (o := 92) (j := 11) (by intro hw; first | omega | (dsimp only [wSub, wRun, wNar, wFil, wCan, wLst, wCar, wDr, wFl, wMq, wRd, wRx, wCr, wTab, wTr, wNew, wKi, wKn, wTn, wOb, wPt, wTl, wOq] at hw; omega) | (simp [wSub, wRun, wNar, wFil, wCan, wLst, wCar, wDr, wFl, wMq, wRd, wRx, wCr, wTab, wTr, wNew, wKi, wKn, wTn, wOb, wPt, wTl, wOq] at hw; done) | (simp [wSub, wRun, wNar, wFil, wCan, wLst, wCar, wDr, wFl, wMq, wRd, wRx, wCr, wTab, wTr, wNew, wKi, wKn, wTn, wOb, wPt, wTl, wOq] at hw; omega))
      have c64 : EqN (nr M4 64) (nr M1 0) := nr_cp p4a
      have s64 := SN.eq hn8.2 s0 c64.sy
      have g64 : ∀ i : Int, 0 ≤ i → i < n → nr M4 64 (8 * i + i) = 1 := fun i a b => by rw [c64 _ (by omega) (by omega)]; exact g0 i a b
      rw [n0] at c64
      refine uX12_first_30 ?_
      refine XC.deep (n12_fills  (d := 0) (hM.fr fM (by dsimp only [wMq]; omega) (by dsimp only [wMq]; omega) (fun _ => by dsimp only [wMq]; omega) (fun _ => by dsimp only [wMq]; omega)) (by omega) s64 g64 (fun M5 fM5 p5a => ?_)) (by omega)
      replace fM := fM.tr fM5 (by intro o j hw; first | omega | exact hw | (dsimp only [wSub, wRun, wNar, wFil, wCan, wLst, wCar, wDr, wFl, wMq, wRd, wRx, wCr, wTab, wTr, wNew, wKi, wKn, wTn, wOb, wPt, wTl, wOq] at hw; dsimp only [wSub, wRun, wNar, wFil, wCan, wLst, wCar, wDr, wFl, wMq, wRd, wRx, wCr, wTab, wTr, wNew, wKi, wKn, wTn, wOb, wPt, wTl, wOq]; omega) | (dsimp only [wSub, wRun, wNar, wFil, wCan, wLst, wCar, wDr, wFl, wMq, wRd, wRx, wCr, wTab, wTr, wNew, wKi, wKn, wTn, wOb, wPt, wTl, wOq]; omega) | (dsimp only [wSub, wRun, wNar, wFil, wCan, wLst, wCar, wDr, wFl, wMq, wRd, wRx, wCr, wTab, wTr, wNew, wKi, wKn, wTn, wOb, wPt, wTl, wOq] at hw; omega) | (simp [wSub, wRun, wNar, wFil, wCan, wLst, wCar, wDr, wFl, wMq, wRd, wRx, wCr, wTab, wTr, wNew, wKi, wKn, wTn, wOb, wPt, wTl, wOq] at hw; simp [wSub, wRun, wNar, wFil, wCan, wLst, wCar, wDr, wFl, wMq, wRd, wRx, wCr, wTab, wTr, wNew, wKi, wKn, wTn, wOb, wPt, wTl, wOq]; omega))
      have k92_2 := fM.ld (o := 92) (j := 2) (by intro hw; first | omega | (dsimp only [wSub, wRun, wNar, wFil, wCan, wLst, wCar, wDr, wFl, wMq, wRd, wRx, wCr, wTab, wTr, wNew, wKi, wKn, wTn, wOb, wPt, wTl, wOq] at hw; omega) | (simp [wSub, wRun, wNar, wFil, wCan, wLst, wCar, wDr, wFl, wMq, wRd, wRx, wCr, wTab, wTr, wNew, wKi, wKn, wTn, wOb, wPt, wTl, wOq] at hw; done) | (simp [wSub, wRun, wNar, wFil, wCan, wLst, wCar, wDr, wFl, wMq, wRd, wRx, wCr, wTab, wTr, wNew, wKi, wKn, wTn, wOb, wPt, wTl, wOq] at hw; omega))
      have k92_11 := fM.ld (o := 92) (j := 11) (by intro hw; first | omega | (dsimp only [wSub, wRun, wNar, wFil, wCan, wLst, wCar, wDr, wFl, wMq, wRd, wRx, wCr, wTab, wTr, wNew, wKi, wKn, wTn, wOb, wPt, wTl, wOq] at hw; omega) | (simp [wSub, wRun, wNar, wFil, wCan, wLst, wCar, wDr, wFl, wMq, wRd, wRx, wCr, wTab, wTr, wNew, wKi, wKn, wTn, wOb, wPt, wTl, wOq] at hw; done) | (simp [wSub, wRun, wNar, wFil, wCan, wLst, wCar, wDr, wFl, wMq, wRd, wRx, wCr, wTab, wTr, wNew, wKi, wKn, wTn, wOb, wPt, wTl, wOq] at hw; omega))
      have rF := FRES.eq hk8.1 hn8.2 c64 p5a
      refine uX12_first_35 (by first | omega | assumption | with_reducible exact rng_ld _ _ _ | with_reducible exact rng_yand _ _ | with_reducible exact rng_yor _ _ | with_reducible exact rng_zcmp _ _ | with_reducible exact yand7 _ | with_reducible exact rng_toInt _ | with_reducible exact yarr23 (by omega) | with_reducible exact yarr57 (by omega) | with_reducible exact Or.inl rfl | with_reducible exact Or.inr rfl) ?_
      exact kont _ _ fM (by
        refine Or.inr ⟨by omega, ?_⟩
        rcases fiv1 rF with w | w
        · obtain ⟨κ, v, lx, lf⟩ := rF.2.2.2 (by omega)
          exact Or.inr ⟨κ, v, lx, lf x1 x2 (by omega) (by omega) (by omega) (by omega)⟩
        · exact Or.inl ⟨rF.2.2.1 w.1 x1 x2 (by omega) (by omega) (by omega) (by omega), w.2⟩)
    · skip
      refine uX12_first_21 ?_
      exact kont _ _ fM (Or.inl ⟨rfl, by omega⟩)
theorem n12_sure {d : Nat} {Q : Int → yM → Prop} {M : yM} {x1 : Int} {x2 : Int} {T f : Int → Int} {k n : Int} (hM : MCT M T f k n) (hSN : SN f k n (nr M 0)) (hdg : ∀ i : Int, 0 ≤ i → i < n → nr M 0 (8 * i + i) = 1) (p1 : -2147483648 ≤ x1 ∧ x1 < 2147483648) (p2 : -2147483648 ≤ x2 ∧ x2 < 2147483648) (kont : ∀ (v : Int) (M' : yM), fr (wMq) M M' → (v = -1 ∧ ¬ ((0 ≤ x1 ∧ x1 < n) ∧ 0 ≤ x2 ∧ x2 < n) ∨ ((0 ≤ x1 ∧ x1 < n) ∧ 0 ≤ x2 ∧ x2 < n) ∧ (v = -5 ∧ 20000 < ct (Fl T f k n (nr M 0)) (UV k n) ∨ ct (Fl T f k n (nr M 0)) (UV k n) ≤ 20000 ∧ SUR T f k n (nr M 0) x1 x2 v)) → Q v M') : XCi (d + 5) 158 [.inr (.inr 92), .inl x1, .inl x2] M Q := by
  refine eX12_sure ?_
  have fM : fr (wMq) M M := fr.rf
  have hk8 := hM.2.2.2.2.1.1
  have hf := hM.2.2.2.2.1.2.1
  have hn8 := hM.2.2.2.2.2
  have m2 := hM.1
  have m11 := hM.2.1
  have al8 := al_le hk8
  refine uX12_sure_0 ?_
  intro M1 hM1
  replace fM := fr.put fM hM1 (by first | omega | (dsimp only [wSub, wRun, wNar, wFil, wCan, wLst, wCar, wDr, wFl, wMq, wRd, wRx, wCr, wTab, wTr, wNew, wKi, wKn, wTn, wOb, wPt, wTl, wOq]; done) | (dsimp only [wSub, wRun, wNar, wFil, wCan, wLst, wCar, wDr, wFl, wMq, wRd, wRx, wCr, wTab, wTr, wNew, wKi, wKn, wTn, wOb, wPt, wTl, wOq]; omega) | (simp [wSub, wRun, wNar, wFil, wCan, wLst, wCar, wDr, wFl, wMq, wRd, wRx, wCr, wTab, wTr, wNew, wKi, wKn, wTn, wOb, wPt, wTl, wOq]; done) | (simp [wSub, wRun, wNar, wFil, wCan, wLst, wCar, wDr, wFl, wMq, wRd, wRx, wCr, wTab, wTr, wNew, wKi, wKn, wTn, wOb, wPt, wTl, wOq]; omega))
  have k92_2 := fM.ld (o := 92) (j := 2) (by intro hw; first | omega | (dsimp only [wSub, wRun, wNar, wFil, wCan, wLst, wCar, wDr, wFl, wMq, wRd, wRx, wCr, wTab, wTr, wNew, wKi, wKn, wTn, wOb, wPt, wTl, wOq] at hw; omega) | (simp [wSub, wRun, wNar, wFil, wCan, wLst, wCar, wDr, wFl, wMq, wRd, wRx, wCr, wTab, wTr, wNew, wKi, wKn, wTn, wOb, wPt, wTl, wOq] at hw; done) | (simp [wSub, wRun, wNar, wFil, wCan, wLst, wCar, wDr, wFl, wMq, wRd, wRx, wCr, wTab, wTr, wNew, wKi, wKn, wTn, wOb, wPt, wTl, wOq] at hw; omega))
  have k92_11 := fM.ld (o := 92) (j := 11) (by intro hw; first | omega | (dsimp only [wSub, wRun, wNar, wFil, wCan, wLst, wCar, wDr, wFl, wMq, wRd, wRx, wCr, wTab, wTr, wNew, wKi, wKn, wTn, wOb, wPt, wTl, wOq] at hw; omega) | (simp [wSub, wRun, wNar, wFil, wCan, wLst, wCar, wDr, wFl, wMq, wRd, wRx, wCr, wTab, wTr, wNew, wKi, wKn, wTn, wOb, wPt, wTl, wOq] at hw; done) | (simp [wSub, wRun, wNar, wFil, wCan, wLst, wCar, wDr, wFl, wMq, wRd, wRx, wCr, wTab, wTr, wNew, wKi, wKn, wTn, wOb, wPt, wTl, wOq] at hw; omega))
  have n0 : nr M1 0 = nr M 0 := funext fun x => by unfold nr; rw [hM1, ld_putne (by omega)]
  have s0 : SN f k n (nr M1 0) := by rw [n0]; exact hSN
  have g0 : ∀ i : Int, 0 ≤ i → i < n → nr M1 0 (8 * i + i) = 1 := fun i a b => by rw [n0]; exact hdg i a b
  refine uX12_sure_5 ?_
  refine XC.deep (c12_isPoint  (d := 0) (by first | omega | assumption | with_reducible exact rng_ld _ _ _ | with_reducible exact rng_yand _ _ | with_reducible exact rng_yor _ _ | with_reducible exact rng_zcmp _ _ | with_reducible exact yand7 _ | with_reducible exact rng_toInt _ | with_reducible exact yarr23 (by omega) | with_reducible exact yarr57 (by omega) | with_reducible exact Or.inl rfl | with_reducible exact Or.inr rfl) (by first | omega | assumption | with_reducible exact rng_ld _ _ _ | with_reducible exact rng_yand _ _ | with_reducible exact rng_yor _ _ | with_reducible exact rng_zcmp _ _ | with_reducible exact yand7 _ | with_reducible exact rng_toInt _ | with_reducible exact yarr23 (by omega) | with_reducible exact yarr57 (by omega) | with_reducible exact Or.inl rfl | with_reducible exact Or.inr rfl) (fun v2 p2a => ?_)) (by omega)
  refine uX12_sure_10 (by first | omega | assumption | with_reducible exact rng_ld _ _ _ | with_reducible exact rng_yand _ _ | with_reducible exact rng_yor _ _ | with_reducible exact rng_zcmp _ _ | with_reducible exact yand7 _ | with_reducible exact rng_toInt _ | with_reducible exact yarr23 (by omega) | with_reducible exact yarr57 (by omega) | with_reducible exact Or.inl rfl | with_reducible exact Or.inr rfl) (fun hc => ?_) (fun hc => ?_)
  · skip
    refine uX12_sure_21 ?_
    exact kont _ _ fM (Or.inl ⟨rfl, by omega⟩)
  · skip
    refine uX12_sure_13 ?_
    refine XC.deep (c12_isPoint  (d := 0) (by first | omega | assumption | with_reducible exact rng_ld _ _ _ | with_reducible exact rng_yand _ _ | with_reducible exact rng_yor _ _ | with_reducible exact rng_zcmp _ _ | with_reducible exact yand7 _ | with_reducible exact rng_toInt _ | with_reducible exact yarr23 (by omega) | with_reducible exact yarr57 (by omega) | with_reducible exact Or.inl rfl | with_reducible exact Or.inr rfl) (by first | omega | assumption | with_reducible exact rng_ld _ _ _ | with_reducible exact rng_yand _ _ | with_reducible exact rng_yor _ _ | with_reducible exact rng_zcmp _ _ | with_reducible exact yand7 _ | with_reducible exact rng_toInt _ | with_reducible exact yarr23 (by omega) | with_reducible exact yarr57 (by omega) | with_reducible exact Or.inl rfl | with_reducible exact Or.inr rfl) (fun v3 p3a => ?_)) (by omega)
    refine uX12_sure_18 (by first | omega | assumption | with_reducible exact rng_ld _ _ _ | with_reducible exact rng_yand _ _ | with_reducible exact rng_yor _ _ | with_reducible exact rng_zcmp _ _ | with_reducible exact yand7 _ | with_reducible exact rng_toInt _ | with_reducible exact yarr23 (by omega) | with_reducible exact yarr57 (by omega) | with_reducible exact Or.inl rfl | with_reducible exact Or.inr rfl) (fun hc => ?_) (fun hc => ?_)
    · skip
      refine uX12_sure_23 ?_
      refine c12_copies  (by first | omega | assumption | with_reducible exact rng_ld _ _ _ | with_reducible exact rng_yand _ _ | with_reducible exact rng_yor _ _ | with_reducible exact rng_zcmp _ _ | with_reducible exact yand7 _ | with_reducible exact rng_toInt _ | with_reducible exact yarr23 (by omega) | with_reducible exact yarr57 (by omega) | with_reducible exact Or.inl rfl | with_reducible exact Or.inr rfl) (fun M4 fM4 p4a => ?_)
      replace fM := fM.tr fM4 (by intro o j hw; first | omega | exact hw | (dsimp only [wSub, wRun, wNar, wFil, wCan, wLst, wCar, wDr, wFl, wMq, wRd, wRx, wCr, wTab, wTr, wNew, wKi, wKn, wTn, wOb, wPt, wTl, wOq] at hw; dsimp only [wSub, wRun, wNar, wFil, wCan, wLst, wCar, wDr, wFl, wMq, wRd, wRx, wCr, wTab, wTr, wNew, wKi, wKn, wTn, wOb, wPt, wTl, wOq]; omega) | (dsimp only [wSub, wRun, wNar, wFil, wCan, wLst, wCar, wDr, wFl, wMq, wRd, wRx, wCr, wTab, wTr, wNew, wKi, wKn, wTn, wOb, wPt, wTl, wOq]; omega) | (dsimp only [wSub, wRun, wNar, wFil, wCan, wLst, wCar, wDr, wFl, wMq, wRd, wRx, wCr, wTab, wTr, wNew, wKi, wKn, wTn, wOb, wPt, wTl, wOq] at hw; omega) | (simp [wSub, wRun, wNar, wFil, wCan, wLst, wCar, wDr, wFl, wMq, wRd, wRx, wCr, wTab, wTr, wNew, wKi, wKn, wTn, wOb, wPt, wTl, wOq] at hw; simp [wSub, wRun, wNar, wFil, wCan, wLst, wCar, wDr, wFl, wMq, wRd, wRx, wCr, wTab, wTr, wNew, wKi, wKn, wTn, wOb, wPt, wTl, wOq]; omega))
      have k92_2 := fM.ld (o := 92) (j := 2) (by intro hw; first | omega | (dsimp only [wSub, wRun, wNar, wFil, wCan, wLst, wCar, wDr, wFl, wMq, wRd, wRx, wCr, wTab, wTr, wNew, wKi, wKn, wTn, wOb, wPt, wTl, wOq] at hw; omega) | (simp [wSub, wRun, wNar, wFil, wCan, wLst, wCar, wDr, wFl, wMq, wRd, wRx, wCr, wTab, wTr, wNew, wKi, wKn, wTn, wOb, wPt, wTl, wOq] at hw; done) | (simp [wSub, wRun, wNar, wFil, wCan, wLst, wCar, wDr, wFl, wMq, wRd, wRx, wCr, wTab, wTr, wNew, wKi, wKn, wTn, wOb, wPt, wTl, wOq] at hw; omega))
      have k92_11 := fM.ld (o := 92) (j := 11) (by intro hw; first | omega | (dsimp only [wSub, wRun, wNar, wFil, wCan, wLst, wCar, wDr, wFl, wMq, wRd, wRx, wCr, wTab, wTr, wNew, wKi, wKn, wTn, wOb, wPt, wTl, wOq] at hw; omega) | (simp [wSub, wRun, wNar, wFil, wCan, wLst, wCar, wDr, wFl, wMq, wRd, wRx, wCr, wTab, wTr, wNew, wKi, wKn, wTn, wOb, wPt, wTl, wOq] at hw; done) | (simp [wSub, wRun, wNar, wFil, wCan, wLst, wCar, wDr, wFl, wMq, wRd, wRx, wCr, wTab, wTr, wNew, wKi, wKn, wTn, wOb, wPt, wTl, wOq] at hw; omega))
      have c64 : EqN (nr M4 64) (nr M1 0) := nr_cp p4a
      have s64 := SN.eq hn8.2 s0 c64.sy
      have g64 : ∀ i : Int, 0 ≤ i → i < n → nr M4 64 (8 * i + i) = 1 := fun i a b => by rw [c64 _ (by omega) (by omega)]; exact g0 i a b
      rw [n0] at c64
      refine uX12_sure_30 ?_
      refine XC.deep (n12_fills  (d := 0) (hM.fr fM (by dsimp only [wMq]; omega) (by dsimp only [wMq]; omega) (fun _ => by dsimp only [wMq]; omega) (fun _ => by dsimp only [wMq]; omega)) (by omega) s64 g64 (fun M5 fM5 p5a => ?_)) (by omega)
      replace fM := fM.tr fM5 (by intro o j hw; first | omega | exact hw | (dsimp only [wSub, wRun, wNar, wFil, wCan, wLst, wCar, wDr, wFl, wMq, wRd, wRx, wCr, wTab, wTr, wNew, wKi, wKn, wTn, wOb, wPt, wTl, wOq] at hw; dsimp only [wSub, wRun, wNar, wFil, wCan, wLst, wCar, wDr, wFl, wMq, wRd, wRx, wCr, wTab, wTr, wNew, wKi, wKn, wTn, wOb, wPt, wTl, wOq]; omega) | (dsimp only [wSub, wRun, wNar, wFil, wCan, wLst, wCar, wDr, wFl, wMq, wRd, wRx, wCr, wTab, wTr, wNew, wKi, wKn, wTn, wOb, wPt, wTl, wOq]; omega) | (dsimp only [wSub, wRun, wNar, wFil, wCan, wLst, wCar, wDr, wFl, wMq, wRd, wRx, wCr, wTab, wTr, wNew, wKi, wKn, wTn, wOb, wPt, wTl, wOq] at hw; omega) | (simp [wSub, wRun, wNar, wFil, wCan, wLst, wCar, wDr, wFl, wMq, wRd, wRx, wCr, wTab, wTr, wNew, wKi, wKn, wTn, wOb, wPt, wTl, wOq] at hw; simp [wSub, wRun, wNar, wFil, wCan, wLst, wCar, wDr, wFl, wMq, wRd, wRx, wCr, wTab, wTr, wNew, wKi, wKn, wTn, wOb, wPt, wTl, wOq]; omega))
      have k92_2 := fM.ld (o := 92) (j := 2) (by intro hw; first | omega | (dsimp only [wSub, wRun, wNar, wFil, wCan, wLst, wCar, wDr, wFl, wMq, wRd, wRx, wCr, wTab, wTr, wNew, wKi, wKn, wTn, wOb, wPt, wTl, wOq] at hw; omega) | (simp [wSub, wRun, wNar, wFil, wCan, wLst, wCar, wDr, wFl, wMq, wRd, wRx, wCr, wTab, wTr, wNew, wKi, wKn, wTn, wOb, wPt, wTl, wOq] at hw; done) | (simp [wSub, wRun, wNar, wFil, wCan, wLst, wCar, wDr, wFl, wMq, wRd, wRx, wCr, wTab, wTr, wNew, wKi, wKn, wTn, wOb, wPt, wTl, wOq] at hw; omega))
      have k92_11 := fM.ld (o := 92) (j := 11) (by intro hw; first | omega | (dsimp only [wSub, wRun, wNar, wFil, wCan, wLst, wCar, wDr, wFl, wMq, wRd, wRx, wCr, wTab, wTr, wNew, wKi, wKn, wTn, wOb, wPt, wTl, wOq] at hw; omega) | (simp [wSub, wRun, wNar, wFil, wCan, wLst, wCar, wDr, wFl, wMq, wRd, wRx, wCr, wTab, wTr, wNew, wKi, wKn, wTn, wOb, wPt, wTl, wOq] at hw; done) | (simp [wSub, wRun, wNar, wFil, wCan, wLst, wCar, wDr, wFl, wMq, wRd, wRx, wCr, wTab, wTr, wNew, wKi, wKn, wTn, wOb, wPt, wTl, wOq] at hw; omega))
      have rF := FRES.eq hk8.1 hn8.2 c64 p5a
      refine uX12_sure_37 (fun hc => ?_) (fun hc => ?_)
      · skip
        refine uX12_sure_52 (by first | omega | assumption | with_reducible exact rng_ld _ _ _ | with_reducible exact rng_yand _ _ | with_reducible exact rng_yor _ _ | with_reducible exact rng_zcmp _ _ | with_reducible exact yand7 _ | with_reducible exact rng_toInt _ | with_reducible exact yarr23 (by omega) | with_reducible exact yarr57 (by omega) | with_reducible exact Or.inl rfl | with_reducible exact Or.inr rfl) ?_
        refine uX12_sure_63 ?_
        exact kont _ _ fM (by first | exact Or.inr ⟨by omega, Or.inl ⟨rfl, (fiv0 rF).2 (by assumption)⟩⟩ | exact Or.inr ⟨by omega, Or.inr ⟨((fiv0 rF).1 (by assumption)).2.1, sur_bq ((fiv0 rF).1 (by assumption)).2.2 (by omega) (by omega) (rng_ld _ _ _)⟩⟩)
      · skip
        refine uX12_sure_47 ?_
        refine uX12_sure_63 ?_
        exact kont _ _ fM (by first | exact Or.inr ⟨by omega, Or.inl ⟨rfl, (fiv0 rF).2 (by assumption)⟩⟩ | exact Or.inr ⟨by omega, Or.inr ⟨((fiv0 rF).1 (by assumption)).2.1, sur_bq ((fiv0 rF).1 (by assumption)).2.2 (by omega) (by omega) (rng_ld _ _ _)⟩⟩)
    · skip
      refine uX12_sure_21 ?_
      exact kont _ _ fM (Or.inl ⟨rfl, by omega⟩)
