/-! CLASS: WHAT IS KEPT OF THE FILLINGS -/
def HMv (T f : Int → Int) (k n : Int) (X : Int → Int) (t : Int) (S : Int → Int) : Prop := (t ≤ 20000 ∧ t = ct (Fl T f k n X) (UV k n) ∧ BQ f k n (Fl T f k n X) (fun _ => 0) S) ∨ (20000 < t ∧ 20000 < ct (Fl T f k n X) (UV k n))
def ATv (T f : Int → Int) (k n : Int) (X : Int → Int) (b : Int) (L : Int → Int) : Prop := (b = 1 ∧ ∃ κ, KV k n κ ∧ Fl T f k n X κ ∧ LK n f κ L) ∨ (b = 0 ∧ ct (Fl T f k n X) (UV k n) = 0)
def LSv (T f : Int → Int) (k n : Int) (X : Int → Int) (L : Int → Int) : Prop := ∃ κ, KV k n κ ∧ LX T f k n X κ ∧ LK n f κ L
def FCC (M : yM) (T f : Int → Int) (k n : Int) : Prop := (ld M 65 6 ≠ 0 → HMv T f k n (ld M 20) (ld M 65 5) (ld M 66)) ∧ (ld M 65 8 ≠ 0 → ATv T f k n (ld M 20) (ld M 65 7) (ld M 67)) ∧ (ld M 65 9 ≠ 0 → ld M 65 8 ≠ 0 ∧ (ld M 65 7 = 1 → LSv T f k n (ld M 20) (ld M 67)))
section
variable {T f : Int → Int} {k n : Int} {M M' : yM} {W : Nat → Int → Prop} {X Y L S F κ : Int → Int} {b i c v : Int}
theorem FCC.ofr (h : FCC M T f k n) (fM : fr W M M') (hw : ∀ o j, W o j → o ≠ 20 ∧ o ≠ 66 ∧ o ≠ 67 ∧ ¬ (o = 65 ∧ 5 ≤ j)) : FCC M' T f k n := by
  have e20 : ld M' 20 = ld M 20 := funext fun j => fM.ld (fun q => (hw _ _ q).1 rfl)
  have e66 : ld M' 66 = ld M 66 := funext fun j => fM.ld (fun q => (hw _ _ q).2.1 rfl)
  have e67 : ld M' 67 = ld M 67 := funext fun j => fM.ld (fun q => (hw _ _ q).2.2.1 rfl)
  have e5 : ∀ j, 5 ≤ j → ld M' 65 j = ld M 65 j := fun j q => fM.ld (fun w => (hw _ _ w).2.2.2 ⟨rfl, q⟩)
  unfold FCC
  rw [e20, e66, e67, e5 5 (by omega), e5 6 (by omega), e5 7 (by omega), e5 8 (by omega), e5 9 (by omega)]
  exact h
theorem FCC.z (h : ld M 65 6 = 0 ∧ ld M 65 8 = 0 ∧ ld M 65 9 = 0) : FCC M T f k n := ⟨fun q => absurd h.1 q, fun q => absurd h.2.1 q, fun q => absurd h.2.2 q⟩
theorem FCC.hm (h : FCC M T f k n) (fM : fr W M M') (hw : ∀ o j, W o j → o ≠ 20 ∧ o ≠ 67 ∧ ¬ (o = 65 ∧ 7 ≤ j)) (hm : HMv T f k n (ld M 20) (ld M' 65 5) (ld M' 66)) : FCC M' T f k n := by
  have e20 : ld M' 20 = ld M 20 := funext fun j => fM.ld (fun q => (hw _ _ q).1 rfl)
  have e67 : ld M' 67 = ld M 67 := funext fun j => fM.ld (fun q => (hw _ _ q).2.1 rfl)
  have e5 : ∀ j, 7 ≤ j → ld M' 65 j = ld M 65 j := fun j q => fM.ld (fun w => (hw _ _ w).2.2 ⟨rfl, q⟩)
  unfold FCC
  rw [e20, e67, e5 7 (by omega), e5 8 (by omega), e5 9 (by omega)]
  exact ⟨fun _ => hm, h.2.1, h.2.2⟩
theorem FCC.at (h : FCC M T f k n) (h8 : ld M 65 8 = 0) (fM : fr W M M') (hw : ∀ o j, W o j → o ≠ 20 ∧ o ≠ 66 ∧ ¬ (o = 65 ∧ (j = 5 ∨ j = 6 ∨ j = 9))) (ha : ATv T f k n (ld M 20) (ld M' 65 7) (ld M' 67)) : FCC M' T f k n := by
  have e20 : ld M' 20 = ld M 20 := funext fun j => fM.ld (fun q => (hw _ _ q).1 rfl)
  have e66 : ld M' 66 = ld M 66 := funext fun j => fM.ld (fun q => (hw _ _ q).2.1 rfl)
  have e5 : ∀ j, (j = 5 ∨ j = 6 ∨ j = 9) → ld M' 65 j = ld M 65 j := fun j q => fM.ld (fun w => (hw _ _ w).2.2 ⟨rfl, q⟩)
  unfold FCC
  rw [e20, e66, e5 5 (by omega), e5 6 (by omega), e5 9 (by omega)]
  exact ⟨h.1, fun _ => ha, fun q => absurd h8 (h.2.2 q).1⟩
theorem hm_run (h : RUN T f k n 20001 0 X v M') : HMv T f k n X v (ld M' 53) := by
  obtain ⟨h1, h2, h3⟩ := h
  rcases h3 with ⟨a, b, d, _⟩ | ⟨a, b, _⟩
  · exact Or.inl ⟨by omega, b, d⟩
  · exact Or.inr ⟨by omega, by omega⟩
theorem at_run (h : RUN T f k n 1 0 X v M') : (0 < v ∧ ∃ κ, KV k n κ ∧ Fl T f k n X κ ∧ LK n f κ (ld M' 54)) ∨ (v = 0 ∧ ct (Fl T f k n X) (UV k n) = 0) := by
  obtain ⟨h1, h2, h3⟩ := h
  rcases h3 with ⟨a, b, d, _⟩ | ⟨a, b, d⟩
  · exact Or.inr ⟨by omega, by omega⟩
  · exact Or.inl ⟨by omega, d rfl⟩
theorem LK.rp (hn : n ≤ 8) (h : LK n f κ L) (e : EqN L S) : LK n f κ S := fun p q p1 p2 q1 q2 => by
  rw [← e _ (by omega) (by omega)]
  exact h p q p1 p2 q1 q2
theorem HMv.rp (hn : n ≤ 8) (h : HMv T f k n X v L) (e : EqN L S) : HMv T f k n X v S := h.imp (fun q => ⟨q.1, q.2.1, q.2.2.rp hn (fun _ _ _ => rfl) e⟩) (fun q => q)
theorem ct_no' (hk : 1 ≤ k) (hn : n ≤ 8) : ct (Fl T f k n X) (UV k n) = 0 ↔ ∀ κ, KV k n κ → ¬ Fl T f k n X κ := by
  have w := ct_ex (P := Fl T f k n X) hk hn (rsp_fl hn)
  have nn := ct_nn (p := Fl T f k n X) (UV k n)
  constructor
  · intro e κ v fl
    have z := w.mpr ⟨κ, v, fl⟩
    unfold UV at e
    omega
  · intro e
    exact ct_no hk hn e
/-- what is fixed of the first filling, up to a place -/
def FXS (T f : Int → Int) (k n : Int) (X F κ : Int → Int) (b : Int) : Prop := SN f k n F ∧ D8 F ∧ (∀ p q : Int, 0 ≤ p → p < q → q < n → F (8 * p + q) = if 8 * p + q < b then yshl 1 (κ (8 * p + q)) else X (8 * p + q)) ∧ Fl T f k n X κ ∧ ∀ p q : Int, 0 ≤ p → p < q → q < n → 8 * p + q < b → ∀ κ', KV k n κ' → Fl T f k n X κ' → (∀ r t : Int, 0 ≤ r → r < t → t < n → 8 * r + t < 8 * p + q → κ' (8 * r + t) = κ (8 * r + t)) → κ (8 * p + q) ≤ κ' (8 * p + q)
theorem fx_fl (hT : TH T f k) (hn : n ≤ 8) (hX : SN f k n X) (h : FXS T f k n X F κ b) (hv : KV k n κ) {κ' : Int → Int} (hv' : KV k n κ') : Fl T f k n F κ' ↔ Fl T f k n X κ' ∧ ∀ p q : Int, 0 ≤ p → p < q → q < n → 8 * p + q < b → κ' (8 * p + q) = κ (8 * p + q) := by
  have hk := hT.1
  unfold Fl
  rw [sb_up hT hn h.1 hv', sb_up hT hn hX hv']
  have key : ∀ p q : Int, 0 ≤ p → p < q → q < n → 8 * p + q < b → (bt (F (8 * p + q)) (κ' (8 * p + q)).toNat = true ↔ κ' (8 * p + q) = κ (8 * p + q)) := fun p q p1 p2 p3 w => by
    have v := hv p q p1 p2 p3
    have v' := hv' p q p1 p2 p3
    rw [h.2.2.1 p q p1 p2 p3, if_pos w, bt_bit (by omega), decide_eq_true_eq]
    omega
  have fk := (sb_up hT hn hX hv).mp h.2.2.2.1.1
  constructor
  · rintro ⟨s, cl⟩
    refine ⟨⟨fun t ht => ?_, cl⟩, fun p q p1 p2 p3 w => (key p q p1 p2 p3 w).mp (s (p, q) (prs_in hn ⟨p1, p2, p3⟩))⟩
    have o := prs_of hn ht
    by_cases w : 8 * t.1 + t.2 < b
    · have e := (key t.1 t.2 o.1 o.2.1 o.2.2.1 w).mp (s t ht)
      rw [e]
      exact fk t ht
    · have e := h.2.2.1 t.1 t.2 o.1 o.2.1 o.2.2.1
      rw [if_neg w] at e
      rw [← e]
      exact s t ht
  · rintro ⟨⟨s, cl⟩, ag⟩
    refine ⟨fun t ht => ?_, cl⟩
    have o := prs_of hn ht
    by_cases w : 8 * t.1 + t.2 < b
    · exact (key t.1 t.2 o.1 o.2.1 o.2.2.1 w).mpr (ag t.1 t.2 o.1 o.2.1 o.2.2.1 w)
    · have e := h.2.2.1 t.1 t.2 o.1 o.2.1 o.2.2.1
      rw [if_neg w] at e
      rw [e]
      exact s t ht
theorem FXS.z (hX : SN f k n X) (hn : n ≤ 8) (hd : D8 X) (hf : Fl T f k n X κ) (e : EqN F X) : FXS T f k n X F κ 0 := ⟨hX.eq hn e.sy, fun d d1 d2 => by rw [e _ (by omega) (by omega)]; exact hd d d1 d2, fun p q p1 p2 p3 => by rw [if_neg (by omega)]; exact e _ (by omega) (by omega), hf, fun p q p1 p2 p3 w => by omega⟩
theorem FXS.up {b' : Int} (h : FXS T f k n X F κ b) (e : ∀ p q : Int, 0 ≤ p → p < q → q < n → (8 * p + q < b ↔ 8 * p + q < b')) : FXS T f k n X F κ b' := ⟨h.1, h.2.1, fun p q p1 p2 p3 => by
  rw [h.2.2.1 p q p1 p2 p3]
  exact ite_ci (e p q p1 p2 p3) rfl rfl, h.2.2.2.1, fun p q p1 p2 p3 w => h.2.2.2.2 p q p1 p2 p3 ((e p q p1 p2 p3).mpr w)⟩
theorem FXS.end (h : FXS T f k n X F κ b) (hb : 8 * n ≤ b) (hn : n ≤ 8) : LX T f k n X κ := ⟨h.2.2.2.1, fun p q p1 p2 p3 => h.2.2.2.2 p q p1 p2 p3 (by omega)⟩
theorem FXS.st {κ2 F' : Int → Int} (hT : TH T f k) (hn : n ≤ 8) (hX : SN f k n X) (h : FXS T f k n X F κ (8 * i + c)) (hi : 0 ≤ i ∧ i < c ∧ c < n) (hv : KV k n κ) (hv2 : KV k n κ2) (hf : Fl T f k n F κ2) (h0 : ∀ κ', KV k n κ' → ¬ PA T f k n F i c (κ2 (8 * i + c)) κ') (e : EqN F' (sng f k F i c (κ2 (8 * i + c)))) : FXS T f k n X F' κ2 (8 * i + c + 1) := by
  have hk := hT.1
  have a := hv2 i c hi.1 hi.2.1 hi.2.2
  have f2 := (fx_fl hT hn hX h hv hv2).mp hf
  refine ⟨(sng_sn h.1 hk hT.2.1 hn hi a).eq hn e.sy, fun d d1 d2 => ?_, fun p q p1 p2 p3 => ?_, f2.1, fun p q p1 p2 p3 w κ' v' fl ag => ?_⟩
  · rw [e _ (by omega) (by omega)]
    exact sng_d8 h.2.1 (by omega) d d1 d2
  · rw [e _ (by omega) (by omega)]
    unfold sng
    rw [up2_at (by omega) (by omega) (by omega) (by omega), if_neg (by omega)]
    by_cases z : p = i ∧ q = c
    · obtain ⟨rfl, rfl⟩ := z
      rw [if_pos ⟨rfl, rfl⟩, if_pos (by omega)]
    · rw [if_neg z, h.2.2.1 p q p1 p2 p3]
      by_cases y : 8 * p + q < 8 * i + c
      · rw [if_pos y, if_pos (by omega), f2.2 p q p1 p2 p3 y]
      · rw [if_neg y, if_neg (by omega)]
  · by_cases y : 8 * p + q < 8 * i + c
    · rw [f2.2 p q p1 p2 p3 y]
      refine h.2.2.2.2 p q p1 p2 p3 y κ' v' fl (fun r t r1 r2 r3 w2 => ?_)
      rw [ag r t r1 r2 r3 w2, f2.2 r t r1 r2 r3 (by omega)]
    · have ep : p = i := by omega
      have eq : q = c := by omega
      subst ep eq
      have fF := (fx_fl hT hn hX h hv v').mpr ⟨fl, fun r t r1 r2 r3 w2 => by rw [ag r t r1 r2 r3 w2, f2.2 r t r1 r2 r3 w2]⟩
      apply Classical.byContradiction
      intro z
      exact h0 κ' v' ⟨fF, by omega⟩
theorem up2_up2 {N N' : Int → Int} {s t s' t' : Int} (h : EqN N' (up2 N i c s t)) : EqN (up2 N' i c s' t') (up2 N i c s' t') := fun x x1 x2 => by
  unfold up2
  by_cases q : x = 8 * c + i
  · rw [if_pos q, if_pos q]
  · rw [if_neg q, if_neg q]
    by_cases w : x = 8 * i + c
    · rw [if_pos w, if_pos w]
    · rw [if_neg w, if_neg w, h x x1 x2]
      unfold up2
      rw [if_neg q, if_neg w]
end
theorem n3_howMany {d : Nat} {Q : Int → yM → Prop} {M : yM}  {T f : Int → Int} {k n : Int} (hn : ld M 19 0 = n) (hn8 : 1 ≤ n ∧ n ≤ 8) (hCT : CT M T f k) (hSN : SN f k n (ld M 20)) (hD8 : D8 (ld M 20)) (hT3 : ld M 3 = T) (hR : ∀ a b : Int, 0 ≤ a → a < k → 0 ≤ b → b < k → 0 ≤ T (8 * a + b) ∧ T (8 * a + b) < 256) (hU : ∀ b : Int, 0 ≤ b → b < k → bt (T (8 * 0 + b)) b.toNat = true) (hFC : FCC M T f k n) (kont : ∀ (v : Int) (M' : yM), fr (fun o j => (o = 65 ∧ (j = 5 ∨ j = 6)) ∨ o = 66 ∨ (24 ≤ o ∧ o ≤ 55) ∨ (o = 22 ∧ 6 ≤ j)) M M' → (HMv T f k n (ld M 20) v (ld M' 66)) → (FCC M' T f k n) → (-2147483648 ≤ v ∧ v < 2147483648) → Q v M') : XCi (d + 33) 21 [.inr (.inr 65)] M Q := by
  refine eX3_howMany ?_
  have fM : fr (fun o j => (o = 65 ∧ (j = 5 ∨ j = 6)) ∨ o = 66 ∨ (24 ≤ o ∧ o ≤ 55) ∨ (o = 22 ∧ 6 ≤ j)) M M := fr.rf
  refine uX3_howMany_0 (fun hc => ?_) (fun hc => ?_)
  · skip
    refine uX3_howMany_59 ?_
    exact kont _ _ fM (by first | exact hm54 | exact hFC.1 (by assumption)) (by first | exact hFC.hm fM (fun o j hw => by omega) hm54 | exact hFC) (by first | omega | assumption | with_reducible exact rng_ld _ _ _ | with_reducible exact rng_yand _ _ | with_reducible exact rng_yor _ _ | with_reducible exact rng_zcmp _ _ | with_reducible exact yand7 _ | with_reducible exact rng_toInt _ | with_reducible exact yarr23 (by omega) | with_reducible exact yarr57 (by omega) | with_reducible exact Or.inl rfl | with_reducible exact Or.inr rfl)
  · skip
    refine uX3_howMany_7 ?_
    refine XC.deep (n7_run  (d := 0) ⟨rfl, Nat.le_of_ble_eq_true rfl⟩ (Or.inl rfl) hn hn8 (by omega) (Or.inl rfl) (hCT.fr fM (by omega) (fun _ => by omega) (fun _ => by omega)) hSN hD8 hT3 hR hU (fun v7 M1 fM1 p1a => ?_)) (by omega)
    replace fM := fM.tr fM1 (by intro o j hw; first | omega | exact hw | (dsimp only [wSub, wRun, wNar, wFil, wCan, wLst, wCar, wDr, wFl, wMq, wRd, wRx, wCr, wTab, wTr, wNew, wKi, wKn, wTn, wOb, wPt, wTl, wOq] at hw; dsimp only [wSub, wRun, wNar, wFil, wCan, wLst, wCar, wDr, wFl, wMq, wRd, wRx, wCr, wTab, wTr, wNew, wKi, wKn, wTn, wOb, wPt, wTl, wOq]; omega) | (dsimp only [wSub, wRun, wNar, wFil, wCan, wLst, wCar, wDr, wFl, wMq, wRd, wRx, wCr, wTab, wTr, wNew, wKi, wKn, wTn, wOb, wPt, wTl, wOq]; omega) | (dsimp only [wSub, wRun, wNar, wFil, wCan, wLst, wCar, wDr, wFl, wMq, wRd, wRx, wCr, wTab, wTr, wNew, wKi, wKn, wTn, wOb, wPt, wTl, wOq] at hw; omega) | (simp [wSub, wRun, wNar, wFil, wCan, wLst, wCar, wDr, wFl, wMq, wRd, wRx, wCr, wTab, wTr, wNew, wKi, wKn, wTn, wOb, wPt, wTl, wOq] at hw; simp [wSub, wRun, wNar, wFil, wCan, wLst, wCar, wDr, wFl, wMq, wRd, wRx, wCr, wTab, wTr, wNew, wKi, wKn, wTn, wOb, wPt, wTl, wOq]; omega))
    have k19_0 := fM.ld (o := 19) (j := 0) (by intro hw; first | omega | (dsimp only [wSub, wRun, wNar, wFil, wCan, wLst, wCar, wDr, wFl, wMq, wRd, wRx, wCr, wTab, wTr, wNew, wKi, wKn, wTn, wOb, wPt, wTl, wOq] at hw; omega) | (simp [wSub, wRun, wNar, wFil, wCan, wLst, wCar, wDr, wFl, wMq, wRd, wRx, wCr, wTab, wTr, wNew, wKi, wKn, wTn, wOb, wPt, wTl, wOq] at hw; done) | (simp [wSub, wRun, wNar, wFil, wCan, wLst, wCar, wDr, wFl, wMq, wRd, wRx, wCr, wTab, wTr, wNew, wKi, wKn, wTn, wOb, wPt, wTl, wOq] at hw; omega))
    have q7 := p1a
    have y7r : -2147483648 ≤ v7 ∧ v7 < 2147483648 := by have := q7.1; have := q7.2.1; omega
    have hm7 := hm_run q7
    refine uX3_howMany_33 ?_
    intro M2 hM2
    replace fM := fr.put fM hM2 (by first | omega | (dsimp only [wSub, wRun, wNar, wFil, wCan, wLst, wCar, wDr, wFl, wMq, wRd, wRx, wCr, wTab, wTr, wNew, wKi, wKn, wTn, wOb, wPt, wTl, wOq]; done) | (dsimp only [wSub, wRun, wNar, wFil, wCan, wLst, wCar, wDr, wFl, wMq, wRd, wRx, wCr, wTab, wTr, wNew, wKi, wKn, wTn, wOb, wPt, wTl, wOq]; omega) | (simp [wSub, wRun, wNar, wFil, wCan, wLst, wCar, wDr, wFl, wMq, wRd, wRx, wCr, wTab, wTr, wNew, wKi, wKn, wTn, wOb, wPt, wTl, wOq]; done) | (simp [wSub, wRun, wNar, wFil, wCan, wLst, wCar, wDr, wFl, wMq, wRd, wRx, wCr, wTab, wTr, wNew, wKi, wKn, wTn, wOb, wPt, wTl, wOq]; omega))
    have k19_0 := fM.ld (o := 19) (j := 0) (by intro hw; first | omega | (dsimp only [wSub, wRun, wNar, wFil, wCan, wLst, wCar, wDr, wFl, wMq, wRd, wRx, wCr, wTab, wTr, wNew, wKi, wKn, wTn, wOb, wPt, wTl, wOq] at hw; omega) | (simp [wSub, wRun, wNar, wFil, wCan, wLst, wCar, wDr, wFl, wMq, wRd, wRx, wCr, wTab, wTr, wNew, wKi, wKn, wTn, wOb, wPt, wTl, wOq] at hw; done) | (simp [wSub, wRun, wNar, wFil, wCan, wLst, wCar, wDr, wFl, wMq, wRd, wRx, wCr, wTab, wTr, wNew, wKi, wKn, wTn, wOb, wPt, wTl, wOq] at hw; omega))
    have t33 : ld M2 65 5 = v7 := by rw [hM2]; exact ld_same y7r
    have e33 : ld M2 53 = ld M1 53 := funext fun j => by rw [hM2, ld_putne (by omega)]
    rw [← e33] at hm7
    refine uX3_howMany_36 ?_
    intro M3 hM3
    replace fM := fr.cpy fM hM3 (by intro j hj1 hj2; exact (by first | omega | (dsimp only [wSub, wRun, wNar, wFil, wCan, wLst, wCar, wDr, wFl, wMq, wRd, wRx, wCr, wTab, wTr, wNew, wKi, wKn, wTn, wOb, wPt, wTl, wOq]; done) | (dsimp only [wSub, wRun, wNar, wFil, wCan, wLst, wCar, wDr, wFl, wMq, wRd, wRx, wCr, wTab, wTr, wNew, wKi, wKn, wTn, wOb, wPt, wTl, wOq]; omega) | (simp [wSub, wRun, wNar, wFil, wCan, wLst, wCar, wDr, wFl, wMq, wRd, wRx, wCr, wTab, wTr, wNew, wKi, wKn, wTn, wOb, wPt, wTl, wOq]; done) | (simp [wSub, wRun, wNar, wFil, wCan, wLst, wCar, wDr, wFl, wMq, wRd, wRx, wCr, wTab, wTr, wNew, wKi, wKn, wTn, wOb, wPt, wTl, wOq]; omega)))
    have k19_0 := fM.ld (o := 19) (j := 0) (by intro hw; first | omega | (dsimp only [wSub, wRun, wNar, wFil, wCan, wLst, wCar, wDr, wFl, wMq, wRd, wRx, wCr, wTab, wTr, wNew, wKi, wKn, wTn, wOb, wPt, wTl, wOq] at hw; omega) | (simp [wSub, wRun, wNar, wFil, wCan, wLst, wCar, wDr, wFl, wMq, wRd, wRx, wCr, wTab, wTr, wNew, wKi, wKn, wTn, wOb, wPt, wTl, wOq] at hw; done) | (simp [wSub, wRun, wNar, wFil, wCan, wLst, wCar, wDr, wFl, wMq, wRd, wRx, wCr, wTab, wTr, wNew, wKi, wKn, wTn, wOb, wPt, wTl, wOq] at hw; omega))
    have t36 : ld M3 65 5 = v7 := by rw [hM3, ld_cpyne (by omega)]; exact t33
    have hm36 : HMv T f k n (ld M 20) v7 (ld M3 66) := hm7.rp hn8.2 (fun j a1 a2 => by
      rw [hM3, ld_cpy, if_pos ⟨rfl, a1, by omega⟩]
      congr 1
      omega)
    refine uX3_howMany_54 ?_
    intro M4 hM4
    replace fM := fr.put fM hM4 (by first | omega | (dsimp only [wSub, wRun, wNar, wFil, wCan, wLst, wCar, wDr, wFl, wMq, wRd, wRx, wCr, wTab, wTr, wNew, wKi, wKn, wTn, wOb, wPt, wTl, wOq]; done) | (dsimp only [wSub, wRun, wNar, wFil, wCan, wLst, wCar, wDr, wFl, wMq, wRd, wRx, wCr, wTab, wTr, wNew, wKi, wKn, wTn, wOb, wPt, wTl, wOq]; omega) | (simp [wSub, wRun, wNar, wFil, wCan, wLst, wCar, wDr, wFl, wMq, wRd, wRx, wCr, wTab, wTr, wNew, wKi, wKn, wTn, wOb, wPt, wTl, wOq]; done) | (simp [wSub, wRun, wNar, wFil, wCan, wLst, wCar, wDr, wFl, wMq, wRd, wRx, wCr, wTab, wTr, wNew, wKi, wKn, wTn, wOb, wPt, wTl, wOq]; omega))
    have k19_0 := fM.ld (o := 19) (j := 0) (by intro hw; first | omega | (dsimp only [wSub, wRun, wNar, wFil, wCan, wLst, wCar, wDr, wFl, wMq, wRd, wRx, wCr, wTab, wTr, wNew, wKi, wKn, wTn, wOb, wPt, wTl, wOq] at hw; omega) | (simp [wSub, wRun, wNar, wFil, wCan, wLst, wCar, wDr, wFl, wMq, wRd, wRx, wCr, wTab, wTr, wNew, wKi, wKn, wTn, wOb, wPt, wTl, wOq] at hw; done) | (simp [wSub, wRun, wNar, wFil, wCan, wLst, wCar, wDr, wFl, wMq, wRd, wRx, wCr, wTab, wTr, wNew, wKi, wKn, wTn, wOb, wPt, wTl, wOq] at hw; omega))
    have t54 : ld M4 65 5 = v7 := by rw [hM4, ld_putne (by omega)]; exact t36
    have hm54 : HMv T f k n (ld M 20) (ld M4 65 5) (ld M4 66) := by
      rw [t54, show ld M4 66 = ld M3 66 from funext fun j => by rw [hM4, ld_putne (by omega)]]
      exact hm36
    refine uX3_howMany_59 ?_
    exact kont _ _ fM (by first | exact hm54 | exact hFC.1 (by assumption)) (by first | exact hFC.hm fM (fun o j hw => by omega) hm54 | exact hFC) (by first | omega | assumption | with_reducible exact rng_ld _ _ _ | with_reducible exact rng_yand _ _ | with_reducible exact rng_yor _ _ | with_reducible exact rng_zcmp _ _ | with_reducible exact yand7 _ | with_reducible exact rng_toInt _ | with_reducible exact yarr23 (by omega) | with_reducible exact yarr57 (by omega) | with_reducible exact Or.inl rfl | with_reducible exact Or.inr rfl)
theorem n3_areThere {d : Nat} {Q : Int → yM → Prop} {M : yM}  {T f : Int → Int} {k n : Int} (hn : ld M 19 0 = n) (hn8 : 1 ≤ n ∧ n ≤ 8) (hCT : CT M T f k) (hSN : SN f k n (ld M 20)) (hD8 : D8 (ld M 20)) (hT3 : ld M 3 = T) (hR : ∀ a b : Int, 0 ≤ a → a < k → 0 ≤ b → b < k → 0 ≤ T (8 * a + b) ∧ T (8 * a + b) < 256) (hU : ∀ b : Int, 0 ≤ b → b < k → bt (T (8 * 0 + b)) b.toNat = true) (hFC : FCC M T f k n) (b65 : ld M 65 7 = 0 ∨ ld M 65 7 = 1) (kont : ∀ (v : Int) (M' : yM), fr (fun o j => (o = 65 ∧ (j = 7 ∨ j = 8)) ∨ o = 67 ∨ (24 ≤ o ∧ o ≤ 55) ∨ (o = 22 ∧ 6 ≤ j)) M M' → (ATv T f k n (ld M 20) v (ld M' 67) ∧ v = ld M' 65 7 ∧ (v = 0 ∨ v = 1) ∧ ld M' 65 8 ≠ 0) → (FCC M' T f k n) → Q v M') : XCi (d + 33) 22 [.inr (.inr 65)] M Q := by
  refine eX3_areThere ?_
  have fM : fr (fun o j => (o = 65 ∧ (j = 7 ∨ j = 8)) ∨ o = 67 ∨ (24 ≤ o ∧ o ≤ 55) ∨ (o = 22 ∧ 6 ≤ j)) M M := fr.rf
  refine uX3_areThere_0 (fun hc => ?_) (fun hc => ?_)
  · skip
    refine uX3_areThere_65 (by first | exact b60 | exact b65) ?_
    exact kont _ _ fM (by first | exact ⟨a60, rfl, b60, s60⟩ | exact ⟨hFC.2.1 (by assumption), rfl, b65, by assumption⟩) (by first | exact hFC.at (by omega) fM (fun o j hw => by omega) a60 | exact hFC)
  · skip
    refine uX3_areThere_7 ?_
    refine XC.deep (n7_run  (d := 0) ⟨rfl, Nat.le_of_ble_eq_true rfl⟩ (Or.inl rfl) hn hn8 (by omega) (Or.inl rfl) (hCT.fr fM (by omega) (fun _ => by omega) (fun _ => by omega)) hSN hD8 hT3 hR hU (fun v7 M1 fM1 p1a => ?_)) (by omega)
    replace fM := fM.tr fM1 (by intro o j hw; first | omega | exact hw | (dsimp only [wSub, wRun, wNar, wFil, wCan, wLst, wCar, wDr, wFl, wMq, wRd, wRx, wCr, wTab, wTr, wNew, wKi, wKn, wTn, wOb, wPt, wTl, wOq] at hw; dsimp only [wSub, wRun, wNar, wFil, wCan, wLst, wCar, wDr, wFl, wMq, wRd, wRx, wCr, wTab, wTr, wNew, wKi, wKn, wTn, wOb, wPt, wTl, wOq]; omega) | (dsimp only [wSub, wRun, wNar, wFil, wCan, wLst, wCar, wDr, wFl, wMq, wRd, wRx, wCr, wTab, wTr, wNew, wKi, wKn, wTn, wOb, wPt, wTl, wOq]; omega) | (dsimp only [wSub, wRun, wNar, wFil, wCan, wLst, wCar, wDr, wFl, wMq, wRd, wRx, wCr, wTab, wTr, wNew, wKi, wKn, wTn, wOb, wPt, wTl, wOq] at hw; omega) | (simp [wSub, wRun, wNar, wFil, wCan, wLst, wCar, wDr, wFl, wMq, wRd, wRx, wCr, wTab, wTr, wNew, wKi, wKn, wTn, wOb, wPt, wTl, wOq] at hw; simp [wSub, wRun, wNar, wFil, wCan, wLst, wCar, wDr, wFl, wMq, wRd, wRx, wCr, wTab, wTr, wNew, wKi, wKn, wTn, wOb, wPt, wTl, wOq]; omega))
    have k19_0 := fM.ld (o := 19) (j := 0) (by intro hw; first | omega | (dsimp only [wSub, wRun, wNar, wFil, wCan, wLst, wCar, wDr, wFl, wMq, wRd, wRx, wCr, wTab, wTr, wNew, wKi, wKn, wTn, wOb, wPt, wTl, wOq] at hw; omega) | (simp [wSub, wRun, wNar, wFil, wCan, wLst, wCar, wDr, wFl, wMq, wRd, wRx, wCr, wTab, wTr, wNew, wKi, wKn, wTn, wOb, wPt, wTl, wOq] at hw; done) | (simp [wSub, wRun, wNar, wFil, wCan, wLst, wCar, wDr, wFl, wMq, wRd, wRx, wCr, wTab, wTr, wNew, wKi, wKn, wTn, wOb, wPt, wTl, wOq] at hw; omega))
    have q7 := p1a
    have y7r : -2147483648 ≤ v7 ∧ v7 < 2147483648 := by have := q7.1; have := q7.2.1; omega
    have at7 := at_run q7
    refine uX3_areThere_31 (by first | omega | assumption | with_reducible exact rng_ld _ _ _ | with_reducible exact rng_yand _ _ | with_reducible exact rng_yor _ _ | with_reducible exact rng_zcmp _ _ | with_reducible exact yand7 _ | with_reducible exact rng_toInt _ | with_reducible exact yarr23 (by omega) | with_reducible exact yarr57 (by omega) | with_reducible exact Or.inl rfl | with_reducible exact Or.inr rfl) (fun hc => ?_) (fun hc => ?_)
    · skip
      refine uX3_areThere_38 ?_
      refine uX3_areThere_39 (by first | omega | assumption | with_reducible exact rng_ld _ _ _ | with_reducible exact rng_yand _ _ | with_reducible exact rng_yor _ _ | with_reducible exact rng_zcmp _ _ | with_reducible exact yand7 _ | with_reducible exact rng_toInt _ | with_reducible exact yarr23 (by omega) | with_reducible exact yarr57 (by omega) | with_reducible exact Or.inl rfl | with_reducible exact Or.inr rfl) ?_
      intro M2 hM2
      replace fM := fr.put fM hM2 (by first | omega | (dsimp only [wSub, wRun, wNar, wFil, wCan, wLst, wCar, wDr, wFl, wMq, wRd, wRx, wCr, wTab, wTr, wNew, wKi, wKn, wTn, wOb, wPt, wTl, wOq]; done) | (dsimp only [wSub, wRun, wNar, wFil, wCan, wLst, wCar, wDr, wFl, wMq, wRd, wRx, wCr, wTab, wTr, wNew, wKi, wKn, wTn, wOb, wPt, wTl, wOq]; omega) | (simp [wSub, wRun, wNar, wFil, wCan, wLst, wCar, wDr, wFl, wMq, wRd, wRx, wCr, wTab, wTr, wNew, wKi, wKn, wTn, wOb, wPt, wTl, wOq]; done) | (simp [wSub, wRun, wNar, wFil, wCan, wLst, wCar, wDr, wFl, wMq, wRd, wRx, wCr, wTab, wTr, wNew, wKi, wKn, wTn, wOb, wPt, wTl, wOq]; omega))
      have k19_0 := fM.ld (o := 19) (j := 0) (by intro hw; first | omega | (dsimp only [wSub, wRun, wNar, wFil, wCan, wLst, wCar, wDr, wFl, wMq, wRd, wRx, wCr, wTab, wTr, wNew, wKi, wKn, wTn, wOb, wPt, wTl, wOq] at hw; omega) | (simp [wSub, wRun, wNar, wFil, wCan, wLst, wCar, wDr, wFl, wMq, wRd, wRx, wCr, wTab, wTr, wNew, wKi, wKn, wTn, wOb, wPt, wTl, wOq] at hw; done) | (simp [wSub, wRun, wNar, wFil, wCan, wLst, wCar, wDr, wFl, wMq, wRd, wRx, wCr, wTab, wTr, wNew, wKi, wKn, wTn, wOb, wPt, wTl, wOq] at hw; omega))
      have t39 : ld M2 65 7 = if v7 ≤ 0 then 0 else 1 := by
        rw [hM2, ld_same (by omega)]
        first | rw [if_pos (by assumption)] | rw [if_neg (by omega)]
      have e39 : ld M2 54 = ld M1 54 := funext fun j => by rw [hM2, ld_putne (by omega)]
      rw [← e39] at at7
      refine uX3_areThere_42 ?_
      intro M3 hM3
      replace fM := fr.cpy fM hM3 (by intro j hj1 hj2; exact (by first | omega | (dsimp only [wSub, wRun, wNar, wFil, wCan, wLst, wCar, wDr, wFl, wMq, wRd, wRx, wCr, wTab, wTr, wNew, wKi, wKn, wTn, wOb, wPt, wTl, wOq]; done) | (dsimp only [wSub, wRun, wNar, wFil, wCan, wLst, wCar, wDr, wFl, wMq, wRd, wRx, wCr, wTab, wTr, wNew, wKi, wKn, wTn, wOb, wPt, wTl, wOq]; omega) | (simp [wSub, wRun, wNar, wFil, wCan, wLst, wCar, wDr, wFl, wMq, wRd, wRx, wCr, wTab, wTr, wNew, wKi, wKn, wTn, wOb, wPt, wTl, wOq]; done) | (simp [wSub, wRun, wNar, wFil, wCan, wLst, wCar, wDr, wFl, wMq, wRd, wRx, wCr, wTab, wTr, wNew, wKi, wKn, wTn, wOb, wPt, wTl, wOq]; omega)))
      have k19_0 := fM.ld (o := 19) (j := 0) (by intro hw; first | omega | (dsimp only [wSub, wRun, wNar, wFil, wCan, wLst, wCar, wDr, wFl, wMq, wRd, wRx, wCr, wTab, wTr, wNew, wKi, wKn, wTn, wOb, wPt, wTl, wOq] at hw; omega) | (simp [wSub, wRun, wNar, wFil, wCan, wLst, wCar, wDr, wFl, wMq, wRd, wRx, wCr, wTab, wTr, wNew, wKi, wKn, wTn, wOb, wPt, wTl, wOq] at hw; done) | (simp [wSub, wRun, wNar, wFil, wCan, wLst, wCar, wDr, wFl, wMq, wRd, wRx, wCr, wTab, wTr, wNew, wKi, wKn, wTn, wOb, wPt, wTl, wOq] at hw; omega))
      have t42 : ld M3 65 7 = if v7 ≤ 0 then 0 else 1 := by rw [hM3, ld_cpyne (by omega)]; exact t39
      have e42 : EqN (ld M2 54) (ld M3 67) := fun j a1 a2 => by
        rw [hM3, ld_cpy, if_pos ⟨rfl, a1, by omega⟩]
        congr 1
        omega
      refine uX3_areThere_60 ?_
      intro M4 hM4
      replace fM := fr.put fM hM4 (by first | omega | (dsimp only [wSub, wRun, wNar, wFil, wCan, wLst, wCar, wDr, wFl, wMq, wRd, wRx, wCr, wTab, wTr, wNew, wKi, wKn, wTn, wOb, wPt, wTl, wOq]; done) | (dsimp only [wSub, wRun, wNar, wFil, wCan, wLst, wCar, wDr, wFl, wMq, wRd, wRx, wCr, wTab, wTr, wNew, wKi, wKn, wTn, wOb, wPt, wTl, wOq]; omega) | (simp [wSub, wRun, wNar, wFil, wCan, wLst, wCar, wDr, wFl, wMq, wRd, wRx, wCr, wTab, wTr, wNew, wKi, wKn, wTn, wOb, wPt, wTl, wOq]; done) | (simp [wSub, wRun, wNar, wFil, wCan, wLst, wCar, wDr, wFl, wMq, wRd, wRx, wCr, wTab, wTr, wNew, wKi, wKn, wTn, wOb, wPt, wTl, wOq]; omega))
      have k19_0 := fM.ld (o := 19) (j := 0) (by intro hw; first | omega | (dsimp only [wSub, wRun, wNar, wFil, wCan, wLst, wCar, wDr, wFl, wMq, wRd, wRx, wCr, wTab, wTr, wNew, wKi, wKn, wTn, wOb, wPt, wTl, wOq] at hw; omega) | (simp [wSub, wRun, wNar, wFil, wCan, wLst, wCar, wDr, wFl, wMq, wRd, wRx, wCr, wTab, wTr, wNew, wKi, wKn, wTn, wOb, wPt, wTl, wOq] at hw; done) | (simp [wSub, wRun, wNar, wFil, wCan, wLst, wCar, wDr, wFl, wMq, wRd, wRx, wCr, wTab, wTr, wNew, wKi, wKn, wTn, wOb, wPt, wTl, wOq] at hw; omega))
      have t60 : ld M4 65 7 = if v7 ≤ 0 then 0 else 1 := by rw [hM4, ld_putne (by omega)]; exact t42
      have s60 : ld M4 65 8 ≠ 0 := by rw [hM4, ld_same (by omega)]; decide
      have e60 : ld M4 67 = ld M3 67 := funext fun j => by rw [hM4, ld_putne (by omega)]
      rw [← e60] at e42
      have a60 : ATv T f k n (ld M 20) (ld M4 65 7) (ld M4 67) := by
        rw [t60]
        rcases at7 with ⟨w, κ, v, fl, lk⟩ | ⟨w, z⟩
        · rw [if_neg (by omega)]
          exact Or.inl ⟨rfl, κ, v, fl, lk.rp hn8.2 e42⟩
        · rw [if_pos (by omega)]
          exact Or.inr ⟨rfl, z⟩
      have b60 : ld M4 65 7 = 0 ∨ ld M4 65 7 = 1 := by
        rw [t60]
        by_cases w : v7 ≤ 0
        · rw [if_pos w]
          exact Or.inl rfl
        · rw [if_neg w]
          exact Or.inr rfl
      refine uX3_areThere_65 (by first | exact b60 | exact b65) ?_
      exact kont _ _ fM (by first | exact ⟨a60, rfl, b60, s60⟩ | exact ⟨hFC.2.1 (by assumption), rfl, b65, by assumption⟩) (by first | exact hFC.at (by omega) fM (fun o j hw => by omega) a60 | exact hFC)
    · skip
      refine uX3_areThere_34 ?_
      refine uX3_areThere_39 (by first | omega | assumption | with_reducible exact rng_ld _ _ _ | with_reducible exact rng_yand _ _ | with_reducible exact rng_yor _ _ | with_reducible exact rng_zcmp _ _ | with_reducible exact yand7 _ | with_reducible exact rng_toInt _ | with_reducible exact yarr23 (by omega) | with_reducible exact yarr57 (by omega) | with_reducible exact Or.inl rfl | with_reducible exact Or.inr rfl) ?_
      intro M5 hM5
      replace fM := fr.put fM hM5 (by first | omega | (dsimp only [wSub, wRun, wNar, wFil, wCan, wLst, wCar, wDr, wFl, wMq, wRd, wRx, wCr, wTab, wTr, wNew, wKi, wKn, wTn, wOb, wPt, wTl, wOq]; done) | (dsimp only [wSub, wRun, wNar, wFil, wCan, wLst, wCar, wDr, wFl, wMq, wRd, wRx, wCr, wTab, wTr, wNew, wKi, wKn, wTn, wOb, wPt, wTl, wOq]; omega) | (simp [wSub, wRun, wNar, wFil, wCan, wLst, wCar, wDr, wFl, wMq, wRd, wRx, wCr, wTab, wTr, wNew, wKi, wKn, wTn, wOb, wPt, wTl, wOq]; done) | (simp [wSub, wRun, wNar, wFil, wCan, wLst, wCar, wDr, wFl, wMq, wRd, wRx, wCr, wTab, wTr, wNew, wKi, wKn, wTn, wOb, wPt, wTl, wOq]; omega))
      have k19_0 := fM.ld (o := 19) (j := 0) (by intro hw; first | omega | (dsimp only [wSub, wRun, wNar, wFil, wCan, wLst, wCar, wDr, wFl, wMq, wRd, wRx, wCr, wTab, wTr, wNew, wKi, wKn, wTn, wOb, wPt, wTl, wOq] at hw; omega) | (simp [wSub, wRun, wNar, wFil, wCan, wLst, wCar, wDr, wFl, wMq, wRd, wRx, wCr, wTab, wTr, wNew, wKi, wKn, wTn, wOb, wPt, wTl, wOq] at hw; done) | (simp [wSub, wRun, wNar, wFil, wCan, wLst, wCar, wDr, wFl, wMq, wRd, wRx, wCr, wTab, wTr, wNew, wKi, wKn, wTn, wOb, wPt, wTl, wOq] at hw; omega))
      have t39 : ld M5 65 7 = if v7 ≤ 0 then 0 else 1 := by
        rw [hM5, ld_same (by omega)]
        first | rw [if_pos (by assumption)] | rw [if_neg (by omega)]
      have e39 : ld M5 54 = ld M1 54 := funext fun j => by rw [hM5, ld_putne (by omega)]
      rw [← e39] at at7
      refine uX3_areThere_42 ?_
      intro M6 hM6
      replace fM := fr.cpy fM hM6 (by intro j hj1 hj2; exact (by first | omega | (dsimp only [wSub, wRun, wNar, wFil, wCan, wLst, wCar, wDr, wFl, wMq, wRd, wRx, wCr, wTab, wTr, wNew, wKi, wKn, wTn, wOb, wPt, wTl, wOq]; done) | (dsimp only [wSub, wRun, wNar, wFil, wCan, wLst, wCar, wDr, wFl, wMq, wRd, wRx, wCr, wTab, wTr, wNew, wKi, wKn, wTn, wOb, wPt, wTl, wOq]; omega) | (simp [wSub, wRun, wNar, wFil, wCan, wLst, wCar, wDr, wFl, wMq, wRd, wRx, wCr, wTab, wTr, wNew, wKi, wKn, wTn, wOb, wPt, wTl, wOq]; done) | (simp [wSub, wRun, wNar, wFil, wCan, wLst, wCar, wDr, wFl, wMq, wRd, wRx, wCr, wTab, wTr, wNew, wKi, wKn, wTn, wOb, wPt, wTl, wOq]; omega)))
      have k19_0 := fM.ld (o := 19) (j := 0) (by intro hw; first | omega | (dsimp only [wSub, wRun, wNar, wFil, wCan, wLst, wCar, wDr, wFl, wMq, wRd, wRx, wCr, wTab, wTr, wNew, wKi, wKn, wTn, wOb, wPt, wTl, wOq] at hw; omega) | (simp [wSub, wRun, wNar, wFil, wCan, wLst, wCar, wDr, wFl, wMq, wRd, wRx, wCr, wTab, wTr, wNew, wKi, wKn, wTn, wOb, wPt, wTl, wOq] at hw; done) | (simp [wSub, wRun, wNar, wFil, wCan, wLst, wCar, wDr, wFl, wMq, wRd, wRx, wCr, wTab, wTr, wNew, wKi, wKn, wTn, wOb, wPt, wTl, wOq] at hw; omega))
      have t42 : ld M6 65 7 = if v7 ≤ 0 then 0 else 1 := by rw [hM6, ld_cpyne (by omega)]; exact t39
      have e42 : EqN (ld M5 54) (ld M6 67) := fun j a1 a2 => by
        rw [hM6, ld_cpy, if_pos ⟨rfl, a1, by omega⟩]
        congr 1
        omega
      refine uX3_areThere_60 ?_
      intro M7 hM7
      replace fM := fr.put fM hM7 (by first | omega | (dsimp only [wSub, wRun, wNar, wFil, wCan, wLst, wCar, wDr, wFl, wMq, wRd, wRx, wCr, wTab, wTr, wNew, wKi, wKn, wTn, wOb, wPt, wTl, wOq]; done) | (dsimp only [wSub, wRun, wNar, wFil, wCan, wLst, wCar, wDr, wFl, wMq, wRd, wRx, wCr, wTab, wTr, wNew, wKi, wKn, wTn, wOb, wPt, wTl, wOq]; omega) | (simp [wSub, wRun, wNar, wFil, wCan, wLst, wCar, wDr, wFl, wMq, wRd, wRx, wCr, wTab, wTr, wNew, wKi, wKn, wTn, wOb, wPt, wTl, wOq]; done) | (simp [wSub, wRun, wNar, wFil, wCan, wLst, wCar, wDr, wFl, wMq, wRd, wRx, wCr, wTab, wTr, wNew, wKi, wKn, wTn, wOb, wPt, wTl, wOq]; omega))
      have k19_0 := fM.ld (o := 19) (j := 0) (by intro hw; first | omega | (dsimp only [wSub, wRun, wNar, wFil, wCan, wLst, wCar, wDr, wFl, wMq, wRd, wRx, wCr, wTab, wTr, wNew, wKi, wKn, wTn, wOb, wPt, wTl, wOq] at hw; omega) | (simp [wSub, wRun, wNar, wFil, wCan, wLst, wCar, wDr, wFl, wMq, wRd, wRx, wCr, wTab, wTr, wNew, wKi, wKn, wTn, wOb, wPt, wTl, wOq] at hw; done) | (simp [wSub, wRun, wNar, wFil, wCan, wLst, wCar, wDr, wFl, wMq, wRd, wRx, wCr, wTab, wTr, wNew, wKi, wKn, wTn, wOb, wPt, wTl, wOq] at hw; omega))
      have t60 : ld M7 65 7 = if v7 ≤ 0 then 0 else 1 := by rw [hM7, ld_putne (by omega)]; exact t42
      have s60 : ld M7 65 8 ≠ 0 := by rw [hM7, ld_same (by omega)]; decide
      have e60 : ld M7 67 = ld M6 67 := funext fun j => by rw [hM7, ld_putne (by omega)]
      rw [← e60] at e42
      have a60 : ATv T f k n (ld M 20) (ld M7 65 7) (ld M7 67) := by
        rw [t60]
        rcases at7 with ⟨w, κ, v, fl, lk⟩ | ⟨w, z⟩
        · rw [if_neg (by omega)]
          exact Or.inl ⟨rfl, κ, v, fl, lk.rp hn8.2 e42⟩
        · rw [if_pos (by omega)]
          exact Or.inr ⟨rfl, z⟩
      have b60 : ld M7 65 7 = 0 ∨ ld M7 65 7 = 1 := by
        rw [t60]
        by_cases w : v7 ≤ 0
        · rw [if_pos w]
          exact Or.inl rfl
        · rw [if_neg w]
          exact Or.inr rfl
      refine uX3_areThere_65 (by first | exact b60 | exact b65) ?_
      exact kont _ _ fM (by first | exact ⟨a60, rfl, b60, s60⟩ | exact ⟨hFC.2.1 (by assumption), rfl, b65, by assumption⟩) (by first | exact hFC.at (by omega) fM (fun o j hw => by omega) a60 | exact hFC)
theorem n3_fixLeast {d : Nat} {Q : yM → Prop} {M : yM} {x1 : Int} {T f X : Int → Int} {k n i c : Int} (hn : ld M 19 0 = n) (hn8 : 1 ≤ n ∧ n ≤ 8) (hCT : CT M T f k) (hX : SN f k n X) (hT3 : ld M 3 = T) (hR : ∀ a b : Int, 0 ≤ a → a < k → 0 ≤ b → b < k → 0 ≤ T (8 * a + b) ∧ T (8 * a + b) < 256) (hU : ∀ b : Int, 0 ≤ b → b < k → bt (T (8 * 0 + b)) b.toNat = true) (hi : 0 ≤ i ∧ i < c ∧ c < n) (h1 : x1 = 8 * i + c) (hFX : ∃ κ, KV k n κ ∧ LK n f κ (ld M 67) ∧ FXS T f k n X (ld M 68) κ x1) (kont : ∀ (M' : yM), fr (fun o j => o = 67 ∨ o = 68 ∨ (24 ≤ o ∧ o ≤ 55) ∨ (o = 22 ∧ 6 ≤ j)) M M' → (∃ κ, KV k n κ ∧ LK n f κ (ld M' 67) ∧ FXS T f k n X (ld M' 68) κ (x1 + 1)) → Q M') : XCv (d + 33) 24 [.inr (.inr 65), .inl x1] M Q := by
  refine eX3_fixLeast ?_
  have fM : fr (fun o j => o = 67 ∨ o = 68 ∨ (24 ≤ o ∧ o ≤ 55) ∨ (o = 22 ∧ 6 ≤ j)) M M := fr.rf
  have hk8 := hCT.2.1.1
  have hT := hCT.2.1
  have hk1 := hk8.1
  have hn2 := hn8.2
  obtain ⟨κ, kv, lk, fx⟩ := hFX
  have kc := kv i c hi.1 hi.2.1 hi.2.2
  have l67 : ld M 67 x1 = yshl 1 (κ (8 * i + c)) := by
    rw [h1, lk i c (by omega) (by omega) (by omega) (by omega), nK_lt (by omega)]
  have lo67 : low (ld M 67 x1) = κ (8 * i + c) := by rw [l67]; exact low_1 (by omega)
  rw [h1] at fx
  have sF := fx.1
  have sFc := (sF i c (by omega) (by omega) (by omega) (by omega) (by omega)).1
  have al8 := al_le hk8
  have go : ∀ N : Nat, (∀ (x2 : Int) (x3 : Int) (x4 : Int) (x5 : Int) (M9 : yM), fr (fun o j => o = 67 ∨ o = 68 ∨ (24 ≤ o ∧ o ≤ 55) ∨ (o = 22 ∧ 6 ≤ j)) M M9 → (x2 = ld M 68 x1 ∧ x3 = κ (8 * i + c)) → (0 ≤ x5 ∧ x5 ≤ x3) → (x4 = 0 ∨ x4 = 1) → (∃ s : Int, EqN (ld M9 68) (up2 (ld M 68) i c s (tP f k s))) → (x4 = 0 → ∀ κ2, KV k n κ2 → ¬ PA T f k n (ld M 68) i c x5 κ2) → (x4 = 1 → ∃ κ2, KV k n κ2 ∧ Fl T f k n (ld M 68) κ2 ∧ LK n f κ2 (ld M9 54) ∧ ∀ κ3, KV k n κ3 → ¬ PA T f k n (ld M 68) i c (κ2 (8 * i + c)) κ3) → (ld M9 67 = ld M 67) → (x3 - x5 < (N : Int)) → XW kX3_fixLeast (d + 33) none (wQv Q) 23 [some (.inr (.inr 65)), some (.inl x1), some (.inl x2), some (.inl x3), some (.inl x4), some (.inl x5)] [] M9) := by
    intro N
    induction N with
    | zero => intros; exfalso; omega
    | succ N ih =>
      have ih0 := ih
      clear fM
      intro x2 x3 x4 x5 M1 fM i0 i1 i2 i3 i4 i5 i6 hm
      have k19_0 := fM.ld (o := 19) (j := 0) (by intro hw; first | omega | (dsimp only [wSub, wRun, wNar, wFil, wCan, wLst, wCar, wDr, wFl, wMq, wRd, wRx, wCr, wTab, wTr, wNew, wKi, wKn, wTn, wOb, wPt, wTl, wOq] at hw; omega) | (simp [wSub, wRun, wNar, wFil, wCan, wLst, wCar, wDr, wFl, wMq, wRd, wRx, wCr, wTab, wTr, wNew, wKi, wKn, wTn, wOb, wPt, wTl, wOq] at hw; done) | (simp [wSub, wRun, wNar, wFil, wCan, wLst, wCar, wDr, wFl, wMq, wRd, wRx, wCr, wTab, wTr, wNew, wKi, wKn, wTn, wOb, wPt, wTl, wOq] at hw; omega))
      refine uX3_fixLeast_23 (by first | omega | assumption | with_reducible exact rng_ld _ _ _ | with_reducible exact rng_yand _ _ | with_reducible exact rng_yor _ _ | with_reducible exact rng_zcmp _ _ | with_reducible exact yand7 _ | with_reducible exact rng_toInt _ | with_reducible exact yarr23 (by omega) | with_reducible exact yarr57 (by omega) | with_reducible exact Or.inl rfl | with_reducible exact Or.inr rfl) (by first | omega | assumption | with_reducible exact rng_ld _ _ _ | with_reducible exact rng_yand _ _ | with_reducible exact rng_yor _ _ | with_reducible exact rng_zcmp _ _ | with_reducible exact yand7 _ | with_reducible exact rng_toInt _ | with_reducible exact yarr23 (by omega) | with_reducible exact yarr57 (by omega) | with_reducible exact Or.inl rfl | with_reducible exact Or.inr rfl) (fun hc => ?_) (fun hc => ?_)
      · skip
        refine uX3_fixLeast_97 (by first | omega | assumption | with_reducible exact rng_ld _ _ _ | with_reducible exact rng_yand _ _ | with_reducible exact rng_yor _ _ | with_reducible exact rng_zcmp _ _ | with_reducible exact yand7 _ | with_reducible exact rng_toInt _ | with_reducible exact yarr23 (by omega) | with_reducible exact yarr57 (by omega) | with_reducible exact Or.inl rfl | with_reducible exact Or.inr rfl) (fun hc => ?_) (fun hc => ?_)
        · skip
          have x120 : 0 ≤ κ (8 * i + c) ∧ κ (8 * i + c) < k := kc
          refine uX3_fixLeast_120 (by first | omega | assumption | with_reducible exact rng_ld _ _ _ | with_reducible exact rng_yand _ _ | with_reducible exact rng_yor _ _ | with_reducible exact rng_zcmp _ _ | with_reducible exact yand7 _ | with_reducible exact rng_toInt _ | with_reducible exact yarr23 (by omega) | with_reducible exact yarr57 (by omega) | with_reducible exact Or.inl rfl | with_reducible exact Or.inr rfl) ?_
          refine XC.deep (c11_low  (d := 0)  ?_) (by omega)
          refine uX3_fixLeast_141 ?_
          refine XC.deep (n8_makeSingle  (d := 0) ⟨rfl, Nat.le_of_ble_eq_true rfl⟩ (by omega : 0 ≤ i ∧ i < 8) (by omega : 0 ≤ c ∧ c < 8) h1 (by first | (rw [lo102]; exact kc2) | (rw [i6, lo67]; exact kc)) (by omega) (hCT.fr fM (by omega) (fun _ => by omega) (fun _ => by omega)) (fun M3 fM3 p3a => ?_)) (by omega)
          replace fM := fM.tr fM3 (by intro o j hw; first | omega | exact hw | (dsimp only [wSub, wRun, wNar, wFil, wCan, wLst, wCar, wDr, wFl, wMq, wRd, wRx, wCr, wTab, wTr, wNew, wKi, wKn, wTn, wOb, wPt, wTl, wOq] at hw; dsimp only [wSub, wRun, wNar, wFil, wCan, wLst, wCar, wDr, wFl, wMq, wRd, wRx, wCr, wTab, wTr, wNew, wKi, wKn, wTn, wOb, wPt, wTl, wOq]; omega) | (dsimp only [wSub, wRun, wNar, wFil, wCan, wLst, wCar, wDr, wFl, wMq, wRd, wRx, wCr, wTab, wTr, wNew, wKi, wKn, wTn, wOb, wPt, wTl, wOq]; omega) | (dsimp only [wSub, wRun, wNar, wFil, wCan, wLst, wCar, wDr, wFl, wMq, wRd, wRx, wCr, wTab, wTr, wNew, wKi, wKn, wTn, wOb, wPt, wTl, wOq] at hw; omega) | (simp [wSub, wRun, wNar, wFil, wCan, wLst, wCar, wDr, wFl, wMq, wRd, wRx, wCr, wTab, wTr, wNew, wKi, wKn, wTn, wOb, wPt, wTl, wOq] at hw; simp [wSub, wRun, wNar, wFil, wCan, wLst, wCar, wDr, wFl, wMq, wRd, wRx, wCr, wTab, wTr, wNew, wKi, wKn, wTn, wOb, wPt, wTl, wOq]; omega))
          have k19_0 := fM.ld (o := 19) (j := 0) (by intro hw; first | omega | (dsimp only [wSub, wRun, wNar, wFil, wCan, wLst, wCar, wDr, wFl, wMq, wRd, wRx, wCr, wTab, wTr, wNew, wKi, wKn, wTn, wOb, wPt, wTl, wOq] at hw; omega) | (simp [wSub, wRun, wNar, wFil, wCan, wLst, wCar, wDr, wFl, wMq, wRd, wRx, wCr, wTab, wTr, wNew, wKi, wKn, wTn, wOb, wPt, wTl, wOq] at hw; done) | (simp [wSub, wRun, wNar, wFil, wCan, wLst, wCar, wDr, wFl, wMq, wRd, wRx, wCr, wTab, wTr, wNew, wKi, wKn, wTn, wOb, wPt, wTl, wOq] at hw; omega))
          have w141 := p3a
          have fin : ∃ κ, KV k n κ ∧ LK n f κ (ld M3 67) ∧ FXS T f k n X (ld M3 68) κ (x1 + 1) := by
            have e67b : ld M3 67 = ld M1 67 := funext fun j => fM3.ld (by omega)
            first
            | (rw [lo102] at w141
               refine ⟨κ2, kv2, by rw [e67b]; exact lk102, ?_⟩
               rw [h1]
               refine fx.st hT hn2 hX hi kv kv2 fl2 no2 ?_
               obtain ⟨s, e⟩ := eq102
               rw [w141]
               exact up2_up2 e)
            | (rw [i6, lo67] at w141
               refine ⟨κ, kv, by rw [e67b, i6]; exact lk, ?_⟩
               rw [h1]
               refine fx.st hT hn2 hX hi kv kv ((fx_fl hT hn2 hX fx kv kv).mpr ⟨fx.2.2.2.1, fun _ _ _ _ _ _ => rfl⟩) (fun κ3 v q => i4 (by omega) κ3 v ⟨q.1, by have := q.2; omega⟩) ?_
               obtain ⟨s, e⟩ := i3
               rw [w141]
               exact up2_up2 e)
          refine uX3_fixLeast_144 ?_
          exact kont _ fM fin
        · skip
          refine uX3_fixLeast_102 ?_
          intro M4 hM4
          replace fM := fr.cpy fM hM4 (by intro j hj1 hj2; exact (by first | omega | (dsimp only [wSub, wRun, wNar, wFil, wCan, wLst, wCar, wDr, wFl, wMq, wRd, wRx, wCr, wTab, wTr, wNew, wKi, wKn, wTn, wOb, wPt, wTl, wOq]; done) | (dsimp only [wSub, wRun, wNar, wFil, wCan, wLst, wCar, wDr, wFl, wMq, wRd, wRx, wCr, wTab, wTr, wNew, wKi, wKn, wTn, wOb, wPt, wTl, wOq]; omega) | (simp [wSub, wRun, wNar, wFil, wCan, wLst, wCar, wDr, wFl, wMq, wRd, wRx, wCr, wTab, wTr, wNew, wKi, wKn, wTn, wOb, wPt, wTl, wOq]; done) | (simp [wSub, wRun, wNar, wFil, wCan, wLst, wCar, wDr, wFl, wMq, wRd, wRx, wCr, wTab, wTr, wNew, wKi, wKn, wTn, wOb, wPt, wTl, wOq]; omega)))
          have k19_0 := fM.ld (o := 19) (j := 0) (by intro hw; first | omega | (dsimp only [wSub, wRun, wNar, wFil, wCan, wLst, wCar, wDr, wFl, wMq, wRd, wRx, wCr, wTab, wTr, wNew, wKi, wKn, wTn, wOb, wPt, wTl, wOq] at hw; omega) | (simp [wSub, wRun, wNar, wFil, wCan, wLst, wCar, wDr, wFl, wMq, wRd, wRx, wCr, wTab, wTr, wNew, wKi, wKn, wTn, wOb, wPt, wTl, wOq] at hw; done) | (simp [wSub, wRun, wNar, wFil, wCan, wLst, wCar, wDr, wFl, wMq, wRd, wRx, wCr, wTab, wTr, wNew, wKi, wKn, wTn, wOb, wPt, wTl, wOq] at hw; omega))
          obtain ⟨κ2, kv2, fl2, lk2, no2⟩ := i5 (by omega)
          have kc2 := kv2 i c hi.1 hi.2.1 hi.2.2
          have lk102 : LK n f κ2 (ld M4 67) := lk2.rp hn2 (fun j a1 a2 => by
            rw [hM4, ld_cpy, if_pos ⟨rfl, a1, by omega⟩]
            congr 1
            omega)
          have lo102 : low (ld M4 67 x1) = κ2 (8 * i + c) := by
            rw [h1, lk102 i c (by omega) (by omega) (by omega) (by omega), nK_lt (by omega)]
            exact low_1 (by omega)
          have eq102 : ∃ s : Int, EqN (ld M4 68) (up2 (ld M 68) i c s (tP f k s)) := by
            rw [show ld M4 68 = ld M1 68 from funext fun j => by rw [hM4, ld_cpyne (by omega)]]
            exact i3
          have x120 : 0 ≤ κ (8 * i + c) ∧ κ (8 * i + c) < k := kc
          refine uX3_fixLeast_120 (by first | omega | assumption | with_reducible exact rng_ld _ _ _ | with_reducible exact rng_yand _ _ | with_reducible exact rng_yor _ _ | with_reducible exact rng_zcmp _ _ | with_reducible exact yand7 _ | with_reducible exact rng_toInt _ | with_reducible exact yarr23 (by omega) | with_reducible exact yarr57 (by omega) | with_reducible exact Or.inl rfl | with_reducible exact Or.inr rfl) ?_
          refine XC.deep (c11_low  (d := 0)  ?_) (by omega)
          refine uX3_fixLeast_141 ?_
          refine XC.deep (n8_makeSingle  (d := 0) ⟨rfl, Nat.le_of_ble_eq_true rfl⟩ (by omega : 0 ≤ i ∧ i < 8) (by omega : 0 ≤ c ∧ c < 8) h1 (by first | (rw [lo102]; exact kc2) | (rw [i6, lo67]; exact kc)) (by omega) (hCT.fr fM (by omega) (fun _ => by omega) (fun _ => by omega)) (fun M6 fM6 p6a => ?_)) (by omega)
          replace fM := fM.tr fM6 (by intro o j hw; first | omega | exact hw | (dsimp only [wSub, wRun, wNar, wFil, wCan, wLst, wCar, wDr, wFl, wMq, wRd, wRx, wCr, wTab, wTr, wNew, wKi, wKn, wTn, wOb, wPt, wTl, wOq] at hw; dsimp only [wSub, wRun, wNar, wFil, wCan, wLst, wCar, wDr, wFl, wMq, wRd, wRx, wCr, wTab, wTr, wNew, wKi, wKn, wTn, wOb, wPt, wTl, wOq]; omega) | (dsimp only [wSub, wRun, wNar, wFil, wCan, wLst, wCar, wDr, wFl, wMq, wRd, wRx, wCr, wTab, wTr, wNew, wKi, wKn, wTn, wOb, wPt, wTl, wOq]; omega) | (dsimp only [wSub, wRun, wNar, wFil, wCan, wLst, wCar, wDr, wFl, wMq, wRd, wRx, wCr, wTab, wTr, wNew, wKi, wKn, wTn, wOb, wPt, wTl, wOq] at hw; omega) | (simp [wSub, wRun, wNar, wFil, wCan, wLst, wCar, wDr, wFl, wMq, wRd, wRx, wCr, wTab, wTr, wNew, wKi, wKn, wTn, wOb, wPt, wTl, wOq] at hw; simp [wSub, wRun, wNar, wFil, wCan, wLst, wCar, wDr, wFl, wMq, wRd, wRx, wCr, wTab, wTr, wNew, wKi, wKn, wTn, wOb, wPt, wTl, wOq]; omega))
          have k19_0 := fM.ld (o := 19) (j := 0) (by intro hw; first | omega | (dsimp only [wSub, wRun, wNar, wFil, wCan, wLst, wCar, wDr, wFl, wMq, wRd, wRx, wCr, wTab, wTr, wNew, wKi, wKn, wTn, wOb, wPt, wTl, wOq] at hw; omega) | (simp [wSub, wRun, wNar, wFil, wCan, wLst, wCar, wDr, wFl, wMq, wRd, wRx, wCr, wTab, wTr, wNew, wKi, wKn, wTn, wOb, wPt, wTl, wOq] at hw; done) | (simp [wSub, wRun, wNar, wFil, wCan, wLst, wCar, wDr, wFl, wMq, wRd, wRx, wCr, wTab, wTr, wNew, wKi, wKn, wTn, wOb, wPt, wTl, wOq] at hw; omega))
          have w141 := p6a
          have fin : ∃ κ, KV k n κ ∧ LK n f κ (ld M6 67) ∧ FXS T f k n X (ld M6 68) κ (x1 + 1) := by
            have e67b : ld M6 67 = ld M4 67 := funext fun j => fM6.ld (by omega)
            first
            | (rw [lo102] at w141
               refine ⟨κ2, kv2, by rw [e67b]; exact lk102, ?_⟩
               rw [h1]
               refine fx.st hT hn2 hX hi kv kv2 fl2 no2 ?_
               obtain ⟨s, e⟩ := eq102
               rw [w141]
               exact up2_up2 e)
            | (rw [i6, lo67] at w141
               refine ⟨κ, kv, by rw [e67b, i6]; exact lk, ?_⟩
               rw [h1]
               refine fx.st hT hn2 hX hi kv kv ((fx_fl hT hn2 hX fx kv kv).mpr ⟨fx.2.2.2.1, fun _ _ _ _ _ _ => rfl⟩) (fun κ3 v q => i4 (by omega) κ3 v ⟨q.1, by have := q.2; omega⟩) ?_
               obtain ⟨s, e⟩ := i3
               rw [w141]
               exact up2_up2 e)
          refine uX3_fixLeast_144 ?_
          exact kont _ fM fin
      · skip
        refine uX3_fixLeast_29 (by first | omega | assumption | with_reducible exact rng_ld _ _ _ | with_reducible exact rng_yand _ _ | with_reducible exact rng_yor _ _ | with_reducible exact rng_zcmp _ _ | with_reducible exact yand7 _ | with_reducible exact rng_toInt _ | with_reducible exact yarr23 (by omega) | with_reducible exact yarr57 (by omega) | with_reducible exact Or.inl rfl | with_reducible exact Or.inr rfl) (fun hc => ?_) (fun hc => ?_)
        · skip
          refine uX3_fixLeast_97 (by first | omega | assumption | with_reducible exact rng_ld _ _ _ | with_reducible exact rng_yand _ _ | with_reducible exact rng_yor _ _ | with_reducible exact rng_zcmp _ _ | with_reducible exact yand7 _ | with_reducible exact rng_toInt _ | with_reducible exact yarr23 (by omega) | with_reducible exact yarr57 (by omega) | with_reducible exact Or.inl rfl | with_reducible exact Or.inr rfl) (fun hc => ?_) (fun hc => ?_)
          · skip
            have x120 : 0 ≤ κ (8 * i + c) ∧ κ (8 * i + c) < k := kc
            refine uX3_fixLeast_120 (by first | omega | assumption | with_reducible exact rng_ld _ _ _ | with_reducible exact rng_yand _ _ | with_reducible exact rng_yor _ _ | with_reducible exact rng_zcmp _ _ | with_reducible exact yand7 _ | with_reducible exact rng_toInt _ | with_reducible exact yarr23 (by omega) | with_reducible exact yarr57 (by omega) | with_reducible exact Or.inl rfl | with_reducible exact Or.inr rfl) ?_
            refine XC.deep (c11_low  (d := 0)  ?_) (by omega)
            refine uX3_fixLeast_141 ?_
            refine XC.deep (n8_makeSingle  (d := 0) ⟨rfl, Nat.le_of_ble_eq_true rfl⟩ (by omega : 0 ≤ i ∧ i < 8) (by omega : 0 ≤ c ∧ c < 8) h1 (by first | (rw [lo102]; exact kc2) | (rw [i6, lo67]; exact kc)) (by omega) (hCT.fr fM (by omega) (fun _ => by omega) (fun _ => by omega)) (fun M8 fM8 p8a => ?_)) (by omega)
            replace fM := fM.tr fM8 (by intro o j hw; first | omega | exact hw | (dsimp only [wSub, wRun, wNar, wFil, wCan, wLst, wCar, wDr, wFl, wMq, wRd, wRx, wCr, wTab, wTr, wNew, wKi, wKn, wTn, wOb, wPt, wTl, wOq] at hw; dsimp only [wSub, wRun, wNar, wFil, wCan, wLst, wCar, wDr, wFl, wMq, wRd, wRx, wCr, wTab, wTr, wNew, wKi, wKn, wTn, wOb, wPt, wTl, wOq]; omega) | (dsimp only [wSub, wRun, wNar, wFil, wCan, wLst, wCar, wDr, wFl, wMq, wRd, wRx, wCr, wTab, wTr, wNew, wKi, wKn, wTn, wOb, wPt, wTl, wOq]; omega) | (dsimp only [wSub, wRun, wNar, wFil, wCan, wLst, wCar, wDr, wFl, wMq, wRd, wRx, wCr, wTab, wTr, wNew, wKi, wKn, wTn, wOb, wPt, wTl, wOq] at hw; omega) | (simp [wSub, wRun, wNar, wFil, wCan, wLst, wCar, wDr, wFl, wMq, wRd, wRx, wCr, wTab, wTr, wNew, wKi, wKn, wTn, wOb, wPt, wTl, wOq] at hw; simp [wSub, wRun, wNar, wFil, wCan, wLst, wCar, wDr, wFl, wMq, wRd, wRx, wCr, wTab, wTr, wNew, wKi, wKn, wTn, wOb, wPt, wTl, wOq]; omega))
            have k19_0 := fM.ld (o := 19) (j := 0) (by intro hw; first | omega | (dsimp only [wSub, wRun, wNar, wFil, wCan, wLst, wCar, wDr, wFl, wMq, wRd, wRx, wCr, wTab, wTr, wNew, wKi, wKn, wTn, wOb, wPt, wTl, wOq] at hw; omega) | (simp [wSub, wRun, wNar, wFil, wCan, wLst, wCar, wDr, wFl, wMq, wRd, wRx, wCr, wTab, wTr, wNew, wKi, wKn, wTn, wOb, wPt, wTl, wOq] at hw; done) | (simp [wSub, wRun, wNar, wFil, wCan, wLst, wCar, wDr, wFl, wMq, wRd, wRx, wCr, wTab, wTr, wNew, wKi, wKn, wTn, wOb, wPt, wTl, wOq] at hw; omega))
            have w141 := p8a
            have fin : ∃ κ, KV k n κ ∧ LK n f κ (ld M8 67) ∧ FXS T f k n X (ld M8 68) κ (x1 + 1) := by
              have e67b : ld M8 67 = ld M1 67 := funext fun j => fM8.ld (by omega)
              first
              | (rw [lo102] at w141
                 refine ⟨κ2, kv2, by rw [e67b]; exact lk102, ?_⟩
                 rw [h1]
                 refine fx.st hT hn2 hX hi kv kv2 fl2 no2 ?_
                 obtain ⟨s, e⟩ := eq102
                 rw [w141]
                 exact up2_up2 e)
              | (rw [i6, lo67] at w141
                 refine ⟨κ, kv, by rw [e67b, i6]; exact lk, ?_⟩
                 rw [h1]
                 refine fx.st hT hn2 hX hi kv kv ((fx_fl hT hn2 hX fx kv kv).mpr ⟨fx.2.2.2.1, fun _ _ _ _ _ _ => rfl⟩) (fun κ3 v q => i4 (by omega) κ3 v ⟨q.1, by have := q.2; omega⟩) ?_
                 obtain ⟨s, e⟩ := i3
                 rw [w141]
                 exact up2_up2 e)
            refine uX3_fixLeast_144 ?_
            exact kont _ fM fin
          · skip
            refine uX3_fixLeast_102 ?_
            intro M9 hM9
            replace fM := fr.cpy fM hM9 (by intro j hj1 hj2; exact (by first | omega | (dsimp only [wSub, wRun, wNar, wFil, wCan, wLst, wCar, wDr, wFl, wMq, wRd, wRx, wCr, wTab, wTr, wNew, wKi, wKn, wTn, wOb, wPt, wTl, wOq]; done) | (dsimp only [wSub, wRun, wNar, wFil, wCan, wLst, wCar, wDr, wFl, wMq, wRd, wRx, wCr, wTab, wTr, wNew, wKi, wKn, wTn, wOb, wPt, wTl, wOq]; omega) | (simp [wSub, wRun, wNar, wFil, wCan, wLst, wCar, wDr, wFl, wMq, wRd, wRx, wCr, wTab, wTr, wNew, wKi, wKn, wTn, wOb, wPt, wTl, wOq]; done) | (simp [wSub, wRun, wNar, wFil, wCan, wLst, wCar, wDr, wFl, wMq, wRd, wRx, wCr, wTab, wTr, wNew, wKi, wKn, wTn, wOb, wPt, wTl, wOq]; omega)))
            have k19_0 := fM.ld (o := 19) (j := 0) (by intro hw; first | omega | (dsimp only [wSub, wRun, wNar, wFil, wCan, wLst, wCar, wDr, wFl, wMq, wRd, wRx, wCr, wTab, wTr, wNew, wKi, wKn, wTn, wOb, wPt, wTl, wOq] at hw; omega) | (simp [wSub, wRun, wNar, wFil, wCan, wLst, wCar, wDr, wFl, wMq, wRd, wRx, wCr, wTab, wTr, wNew, wKi, wKn, wTn, wOb, wPt, wTl, wOq] at hw; done) | (simp [wSub, wRun, wNar, wFil, wCan, wLst, wCar, wDr, wFl, wMq, wRd, wRx, wCr, wTab, wTr, wNew, wKi, wKn, wTn, wOb, wPt, wTl, wOq] at hw; omega))
            obtain ⟨κ2, kv2, fl2, lk2, no2⟩ := i5 (by omega)
            have kc2 := kv2 i c hi.1 hi.2.1 hi.2.2
            have lk102 : LK n f κ2 (ld M9 67) := lk2.rp hn2 (fun j a1 a2 => by
              rw [hM9, ld_cpy, if_pos ⟨rfl, a1, by omega⟩]
              congr 1
              omega)
            have lo102 : low (ld M9 67 x1) = κ2 (8 * i + c) := by
              rw [h1, lk102 i c (by omega) (by omega) (by omega) (by omega), nK_lt (by omega)]
              exact low_1 (by omega)
            have eq102 : ∃ s : Int, EqN (ld M9 68) (up2 (ld M 68) i c s (tP f k s)) := by
              rw [show ld M9 68 = ld M1 68 from funext fun j => by rw [hM9, ld_cpyne (by omega)]]
              exact i3
            have x120 : 0 ≤ κ (8 * i + c) ∧ κ (8 * i + c) < k := kc
            refine uX3_fixLeast_120 (by first | omega | assumption | with_reducible exact rng_ld _ _ _ | with_reducible exact rng_yand _ _ | with_reducible exact rng_yor _ _ | with_reducible exact rng_zcmp _ _ | with_reducible exact yand7 _ | with_reducible exact rng_toInt _ | with_reducible exact yarr23 (by omega) | with_reducible exact yarr57 (by omega) | with_reducible exact Or.inl rfl | with_reducible exact Or.inr rfl) ?_
            refine XC.deep (c11_low  (d := 0)  ?_) (by omega)
            refine uX3_fixLeast_141 ?_
            refine XC.deep (n8_makeSingle  (d := 0) ⟨rfl, Nat.le_of_ble_eq_true rfl⟩ (by omega : 0 ≤ i ∧ i < 8) (by omega : 0 ≤ c ∧ c < 8) h1 (by first | (rw [lo102]; exact kc2) | (rw [i6, lo67]; exact kc)) (by omega) (hCT.fr fM (by omega) (fun _ => by omega) (fun _ => by omega)) (fun M11 fM11 p11a => ?_)) (by omega)
            replace fM := fM.tr fM11 (by intro o j hw; first | omega | exact hw | (dsimp only [wSub, wRun, wNar, wFil, wCan, wLst, wCar, wDr, wFl, wMq, wRd, wRx, wCr, wTab, wTr, wNew, wKi, wKn, wTn, wOb, wPt, wTl, wOq] at hw; dsimp only [wSub, wRun, wNar, wFil, wCan, wLst, wCar, wDr, wFl, wMq, wRd, wRx, wCr, wTab, wTr, wNew, wKi, wKn, wTn, wOb, wPt, wTl, wOq]; omega) | (dsimp only [wSub, wRun, wNar, wFil, wCan, wLst, wCar, wDr, wFl, wMq, wRd, wRx, wCr, wTab, wTr, wNew, wKi, wKn, wTn, wOb, wPt, wTl, wOq]; omega) | (dsimp only [wSub, wRun, wNar, wFil, wCan, wLst, wCar, wDr, wFl, wMq, wRd, wRx, wCr, wTab, wTr, wNew, wKi, wKn, wTn, wOb, wPt, wTl, wOq] at hw; omega) | (simp [wSub, wRun, wNar, wFil, wCan, wLst, wCar, wDr, wFl, wMq, wRd, wRx, wCr, wTab, wTr, wNew, wKi, wKn, wTn, wOb, wPt, wTl, wOq] at hw; simp [wSub, wRun, wNar, wFil, wCan, wLst, wCar, wDr, wFl, wMq, wRd, wRx, wCr, wTab, wTr, wNew, wKi, wKn, wTn, wOb, wPt, wTl, wOq]; omega))
            have k19_0 := fM.ld (o := 19) (j := 0) (by intro hw; first | omega | (dsimp only [wSub, wRun, wNar, wFil, wCan, wLst, wCar, wDr, wFl, wMq, wRd, wRx, wCr, wTab, wTr, wNew, wKi, wKn, wTn, wOb, wPt, wTl, wOq] at hw; omega) | (simp [wSub, wRun, wNar, wFil, wCan, wLst, wCar, wDr, wFl, wMq, wRd, wRx, wCr, wTab, wTr, wNew, wKi, wKn, wTn, wOb, wPt, wTl, wOq] at hw; done) | (simp [wSub, wRun, wNar, wFil, wCan, wLst, wCar, wDr, wFl, wMq, wRd, wRx, wCr, wTab, wTr, wNew, wKi, wKn, wTn, wOb, wPt, wTl, wOq] at hw; omega))
            have w141 := p11a
            have fin : ∃ κ, KV k n κ ∧ LK n f κ (ld M11 67) ∧ FXS T f k n X (ld M11 68) κ (x1 + 1) := by
              have e67b : ld M11 67 = ld M9 67 := funext fun j => fM11.ld (by omega)
              first
              | (rw [lo102] at w141
                 refine ⟨κ2, kv2, by rw [e67b]; exact lk102, ?_⟩
                 rw [h1]
                 refine fx.st hT hn2 hX hi kv kv2 fl2 no2 ?_
                 obtain ⟨s, e⟩ := eq102
                 rw [w141]
                 exact up2_up2 e)
              | (rw [i6, lo67] at w141
                 refine ⟨κ, kv, by rw [e67b, i6]; exact lk, ?_⟩
                 rw [h1]
                 refine fx.st hT hn2 hX hi kv kv ((fx_fl hT hn2 hX fx kv kv).mpr ⟨fx.2.2.2.1, fun _ _ _ _ _ _ => rfl⟩) (fun κ3 v q => i4 (by omega) κ3 v ⟨q.1, by have := q.2; omega⟩) ?_
                 obtain ⟨s, e⟩ := i3
                 rw [w141]
                 exact up2_up2 e)
            refine uX3_fixLeast_144 ?_
            exact kont _ fM fin
        · skip
          have y01 := yand01 (yshr x2 x5)
          have e2 := i0.1
          have yb := ybitZ (a := ld M 68 (8 * i + c)) (x := x5) (by omega) (by omega)
          rw [← h1, ← e2] at yb
          have n34 : yand (yshr x2 x5) 1 ≠ 1 → x4 = 0 → ∀ κ2, KV k n κ2 → ¬ PA T f k n (ld M 68) i c (x5 + 1) κ2 := fun w e κ2 v q => i4 e κ2 v ((pa_n hT hn2 sF hi (by omega) (fun z => w (yb.mpr (by rw [e2, h1]; exact z))) v).mp q)
          refine uX3_fixLeast_34 (fun hc => ?_) (fun hc => ?_)
          · skip
            refine uX3_fixLeast_91 ?_
            exact ih0 _ _ _ _ M1 fM (by first | assumption | exact ⟨rfl, lo67⟩) (by first | omega | (rw [lo67]; omega)) (by first | assumption | omega) (by first | exact eq0 | exact eq61 | assumption) (by first | exact fun _ κ2 v => pa_0 hi v | exact fun _ => n81 (by assumption) | exact n34 (by assumption) | exact fun e => absurd e (by decide)) (by first | exact fun e => absurd e (by decide) | exact fun _ => y81 (by assumption) | exact fun e => absurd e (by omega)) (by first | exact e67 | rfl | assumption) (by omega)
          · skip
            have b44 : bt (ld M 68 (8 * i + c)) x5.toNat = true := by
              have w := yb.mp (by assumption)
              rw [e2, h1] at w
              exact w
            have kk : 0 ≤ x5 ∧ x5 < k := by omega
            have n4 := i4 (by omega)
            have pas := fun κ2 (v : KV k n κ2) => pa_s hT hn2 sF hi kk b44 v
            refine uX3_fixLeast_44 ?_
            refine XC.deep (n8_makeSingle  (d := 0) ⟨rfl, Nat.le_of_ble_eq_true rfl⟩ (by omega : 0 ≤ i ∧ i < 8) (by omega : 0 ≤ c ∧ c < 8) h1 kk (by omega) (hCT.fr fM (by omega) (fun _ => by omega) (fun _ => by omega)) (fun M12 fM12 p12a => ?_)) (by omega)
            replace fM := fM.tr fM12 (by intro o j hw; first | omega | exact hw | (dsimp only [wSub, wRun, wNar, wFil, wCan, wLst, wCar, wDr, wFl, wMq, wRd, wRx, wCr, wTab, wTr, wNew, wKi, wKn, wTn, wOb, wPt, wTl, wOq] at hw; dsimp only [wSub, wRun, wNar, wFil, wCan, wLst, wCar, wDr, wFl, wMq, wRd, wRx, wCr, wTab, wTr, wNew, wKi, wKn, wTn, wOb, wPt, wTl, wOq]; omega) | (dsimp only [wSub, wRun, wNar, wFil, wCan, wLst, wCar, wDr, wFl, wMq, wRd, wRx, wCr, wTab, wTr, wNew, wKi, wKn, wTn, wOb, wPt, wTl, wOq]; omega) | (dsimp only [wSub, wRun, wNar, wFil, wCan, wLst, wCar, wDr, wFl, wMq, wRd, wRx, wCr, wTab, wTr, wNew, wKi, wKn, wTn, wOb, wPt, wTl, wOq] at hw; omega) | (simp [wSub, wRun, wNar, wFil, wCan, wLst, wCar, wDr, wFl, wMq, wRd, wRx, wCr, wTab, wTr, wNew, wKi, wKn, wTn, wOb, wPt, wTl, wOq] at hw; simp [wSub, wRun, wNar, wFil, wCan, wLst, wCar, wDr, wFl, wMq, wRd, wRx, wCr, wTab, wTr, wNew, wKi, wKn, wTn, wOb, wPt, wTl, wOq]; omega))
            have k19_0 := fM.ld (o := 19) (j := 0) (by intro hw; first | omega | (dsimp only [wSub, wRun, wNar, wFil, wCan, wLst, wCar, wDr, wFl, wMq, wRd, wRx, wCr, wTab, wTr, wNew, wKi, wKn, wTn, wOb, wPt, wTl, wOq] at hw; omega) | (simp [wSub, wRun, wNar, wFil, wCan, wLst, wCar, wDr, wFl, wMq, wRd, wRx, wCr, wTab, wTr, wNew, wKi, wKn, wTn, wOb, wPt, wTl, wOq] at hw; done) | (simp [wSub, wRun, wNar, wFil, wCan, wLst, wCar, wDr, wFl, wMq, wRd, wRx, wCr, wTab, wTr, wNew, wKi, wKn, wTn, wOb, wPt, wTl, wOq] at hw; omega))
            have eq44 : EqN (ld M12 68) (sng f k (ld M 68) i c x5) := by
              obtain ⟨s, e⟩ := i3
              rw [p12a]
              exact up2_up2 e
            have s44 : SN f k n (ld M12 68) := (sng_sn sF hk8 hT.2.1 hn2 hi kk).eq hn2 eq44.sy
            have d44 : D8 (ld M12 68) := fun d d1 d2 => by rw [eq44 _ (by omega) (by omega)]; exact sng_d8 fx.2.1 (by omega) d d1 d2
            have e67 : ld M12 67 = ld M 67 := by
              rw [← i6]
              exact funext fun j => fM12.ld (by omega)
            refine uX3_fixLeast_61 ?_
            refine XC.deep (n7_run  (d := 0) ⟨rfl, Nat.le_of_ble_eq_true rfl⟩ (Or.inr (by omega)) (by omega) hn8 (by omega) (Or.inl rfl) (hCT.fr fM (by omega) (fun _ => by omega) (fun _ => by omega)) s44 d44 (by rw [← hT3]; exact funext fun j => fM.ld (by omega)) hR hU (fun v61 M13 fM13 p13a => ?_)) (by omega)
            replace fM := fM.tr fM13 (by intro o j hw; first | omega | exact hw | (dsimp only [wSub, wRun, wNar, wFil, wCan, wLst, wCar, wDr, wFl, wMq, wRd, wRx, wCr, wTab, wTr, wNew, wKi, wKn, wTn, wOb, wPt, wTl, wOq] at hw; dsimp only [wSub, wRun, wNar, wFil, wCan, wLst, wCar, wDr, wFl, wMq, wRd, wRx, wCr, wTab, wTr, wNew, wKi, wKn, wTn, wOb, wPt, wTl, wOq]; omega) | (dsimp only [wSub, wRun, wNar, wFil, wCan, wLst, wCar, wDr, wFl, wMq, wRd, wRx, wCr, wTab, wTr, wNew, wKi, wKn, wTn, wOb, wPt, wTl, wOq]; omega) | (dsimp only [wSub, wRun, wNar, wFil, wCan, wLst, wCar, wDr, wFl, wMq, wRd, wRx, wCr, wTab, wTr, wNew, wKi, wKn, wTn, wOb, wPt, wTl, wOq] at hw; omega) | (simp [wSub, wRun, wNar, wFil, wCan, wLst, wCar, wDr, wFl, wMq, wRd, wRx, wCr, wTab, wTr, wNew, wKi, wKn, wTn, wOb, wPt, wTl, wOq] at hw; simp [wSub, wRun, wNar, wFil, wCan, wLst, wCar, wDr, wFl, wMq, wRd, wRx, wCr, wTab, wTr, wNew, wKi, wKn, wTn, wOb, wPt, wTl, wOq]; omega))
            have k19_0 := fM.ld (o := 19) (j := 0) (by intro hw; first | omega | (dsimp only [wSub, wRun, wNar, wFil, wCan, wLst, wCar, wDr, wFl, wMq, wRd, wRx, wCr, wTab, wTr, wNew, wKi, wKn, wTn, wOb, wPt, wTl, wOq] at hw; omega) | (simp [wSub, wRun, wNar, wFil, wCan, wLst, wCar, wDr, wFl, wMq, wRd, wRx, wCr, wTab, wTr, wNew, wKi, wKn, wTn, wOb, wPt, wTl, wOq] at hw; done) | (simp [wSub, wRun, wNar, wFil, wCan, wLst, wCar, wDr, wFl, wMq, wRd, wRx, wCr, wTab, wTr, wNew, wKi, wKn, wTn, wOb, wPt, wTl, wOq] at hw; omega))
            have at61 := at_run p13a
            have y61r : -2147483648 ≤ v61 ∧ v61 < 2147483648 := by have := (p13a).1; have := (p13a).2.1; omega
            have eq61 : ∃ s : Int, EqN (ld M13 68) (up2 (ld M 68) i c s (tP f k s)) := ⟨yshl 1 x5, by rw [show ld M13 68 = ld M12 68 from funext fun j => fM13.ld (by omega)]; exact eq44⟩
            replace e67 : ld M13 67 = ld M 67 := by
              rw [← e67]
              exact funext fun j => fM13.ld (by omega)
            have fe : ∀ κ2, Fl T f k n (ld M12 68) κ2 ↔ Fl T f k n (sng f k (ld M 68) i c x5) κ2 := fun κ2 => fl_eq hn2 eq44
            have n81 : v61 ≤ 0 → ∀ κ2, KV k n κ2 → ¬ PA T f k n (ld M 68) i c (x5 + 1) κ2 := fun w κ2 v q => by
              rcases (pas κ2 v).1.mp q with q | q
              · exact n4 κ2 v q
              · exact (ct_no' hk1 hn2).mp (at61.elim (fun z => absurd z.1 (by omega)) (fun z => z.2)) κ2 v ((fe κ2).mpr q)
            have y81 : v61 > 0 → ∃ κ2, KV k n κ2 ∧ Fl T f k n (ld M 68) κ2 ∧ LK n f κ2 (ld M13 54) ∧ ∀ κ3, KV k n κ3 → ¬ PA T f k n (ld M 68) i c (κ2 (8 * i + c)) κ3 := fun w => by
              obtain ⟨κ2, v, fl, l2⟩ := (at61.elim (fun z => z.2) (fun z => absurd z.1 (by omega)))
              have s := (fl_sng hT hn2 sF hi kk b44 v).mp ((fe κ2).mp fl)
              refine ⟨κ2, v, s.1, l2, ?_⟩
              rw [s.2]
              exact n4
            refine uX3_fixLeast_81 (by first | omega | assumption | with_reducible exact rng_ld _ _ _ | with_reducible exact rng_yand _ _ | with_reducible exact rng_yor _ _ | with_reducible exact rng_zcmp _ _ | with_reducible exact yand7 _ | with_reducible exact rng_toInt _ | with_reducible exact yarr23 (by omega) | with_reducible exact yarr57 (by omega) | with_reducible exact Or.inl rfl | with_reducible exact Or.inr rfl) (fun hc => ?_) (fun hc => ?_)
            · skip
              refine uX3_fixLeast_88 ?_
              refine uX3_fixLeast_89 ?_
              refine uX3_fixLeast_91 ?_
              exact ih0 _ _ _ _ M13 fM (by first | assumption | exact ⟨rfl, lo67⟩) (by first | omega | (rw [lo67]; omega)) (by first | assumption | omega) (by first | exact eq0 | exact eq61 | assumption) (by first | exact fun _ κ2 v => pa_0 hi v | exact fun _ => n81 (by assumption) | exact n34 (by assumption) | exact fun e => absurd e (by decide)) (by first | exact fun e => absurd e (by decide) | exact fun _ => y81 (by assumption) | exact fun e => absurd e (by omega)) (by first | exact e67 | rfl | assumption) (by omega)
            · skip
              refine uX3_fixLeast_84 ?_
              refine uX3_fixLeast_89 ?_
              refine uX3_fixLeast_91 ?_
              exact ih0 _ _ _ _ M13 fM (by first | assumption | exact ⟨rfl, lo67⟩) (by first | omega | (rw [lo67]; omega)) (by first | assumption | omega) (by first | exact eq0 | exact eq61 | assumption) (by first | exact fun _ κ2 v => pa_0 hi v | exact fun _ => n81 (by assumption) | exact n34 (by assumption) | exact fun e => absurd e (by decide)) (by first | exact fun e => absurd e (by decide) | exact fun _ => y81 (by assumption) | exact fun e => absurd e (by omega)) (by first | exact e67 | rfl | assumption) (by omega)
  have eq0 : ∃ s : Int, EqN (ld M 68) (up2 (ld M 68) i c s (tP f k s)) := ⟨ld M 68 (8 * i + c), fun x _ _ => by
    unfold up2
    split
    · next w => rw [w]; exact (sF i c (by omega) (by omega) (by omega) (by omega) (by omega)).2
    · split
      · next w => rw [w]
      · rfl⟩
  refine uX3_fixLeast_0 (by first | omega | assumption | with_reducible exact rng_ld _ _ _ | with_reducible exact rng_yand _ _ | with_reducible exact rng_yor _ _ | with_reducible exact rng_zcmp _ _ | with_reducible exact yand7 _ | with_reducible exact rng_toInt _ | with_reducible exact yarr23 (by omega) | with_reducible exact yarr57 (by omega) | with_reducible exact Or.inl rfl | with_reducible exact Or.inr rfl) (by first | omega | assumption | with_reducible exact rng_ld _ _ _ | with_reducible exact rng_yand _ _ | with_reducible exact rng_yor _ _ | with_reducible exact rng_zcmp _ _ | with_reducible exact yand7 _ | with_reducible exact rng_toInt _ | with_reducible exact yarr23 (by omega) | with_reducible exact yarr57 (by omega) | with_reducible exact Or.inl rfl | with_reducible exact Or.inr rfl) ?_
  refine XC.deep (c11_low  (d := 0)  ?_) (by omega)
  refine uX3_fixLeast_16 ?_
  exact (go 1000000) _ _ _ _ M fM (by first | assumption | exact ⟨rfl, lo67⟩) (by first | omega | (rw [lo67]; omega)) (by first | assumption | omega) (by first | exact eq0 | exact eq61 | assumption) (by first | exact fun _ κ2 v => pa_0 hi v | exact fun _ => n81 (by assumption) | exact n34 (by assumption) | exact fun e => absurd e (by decide)) (by first | exact fun e => absurd e (by decide) | exact fun _ => y81 (by assumption) | exact fun e => absurd e (by omega)) (by first | exact e67 | rfl | assumption) (by omega)
theorem n3_findLeast {d : Nat} {Q : Int → yM → Prop} {M : yM}  {T f : Int → Int} {k n : Int} (hn : ld M 19 0 = n) (hn8 : 1 ≤ n ∧ n ≤ 8) (hCT : CT M T f k) (hSN : SN f k n (ld M 20)) (hD8 : D8 (ld M 20)) (hT3 : ld M 3 = T) (hR : ∀ a b : Int, 0 ≤ a → a < k → 0 ≤ b → b < k → 0 ≤ T (8 * a + b) ∧ T (8 * a + b) < 256) (hU : ∀ b : Int, 0 ≤ b → b < k → bt (T (8 * 0 + b)) b.toNat = true) (hFC : FCC M T f k n) (b65 : ld M 65 7 = 0 ∨ ld M 65 7 = 1) (kont : ∀ (v : Int) (M' : yM), fr (fun o j => (o = 65 ∧ 7 ≤ j) ∨ o = 67 ∨ o = 68 ∨ (24 ≤ o ∧ o ≤ 55) ∨ (o = 22 ∧ 6 ≤ j)) M M' → (v = 1 ∧ LSv T f k n (ld M 20) (ld M' 67) ∨ v = 0 ∧ ct (Fl T f k n (ld M 20)) (UV k n) = 0) → (FCC M' T f k n ∧ (ld M' 65 7 = 0 ∨ ld M' 65 7 = 1)) → Q v M') : XCi (d + 34) 23 [.inr (.inr 65)] M Q := by
  refine eX3_findLeast ?_
  have fM : fr (fun o j => (o = 65 ∧ 7 ≤ j) ∨ o = 67 ∨ o = 68 ∨ (24 ≤ o ∧ o ≤ 55) ∨ (o = 22 ∧ 6 ≤ j)) M M := fr.rf
  have hk8 := hCT.2.1.1
  have hT := hCT.2.1
  have hk1 := hk8.1
  have hn2 := hn8.2
  have go : ∀ N : Nat, (∀ (x1 : Int) (wx2 : Option yV) (M9 : yM), fr (fun o j => (o = 65 ∧ 7 ≤ j) ∨ o = 67 ∨ o = 68 ∨ (24 ≤ o ∧ o ≤ 55) ∨ (o = 22 ∧ 6 ≤ j)) M M9 → (0 ≤ x1 ∧ x1 ≤ n) → (∃ κ, KV k n κ ∧ LK n f κ (ld M9 67) ∧ FXS T f k n (ld M 20) (ld M9 68) κ (8 * x1)) → (ld M9 65 7 = 1 ∧ ld M9 65 8 ≠ 0 ∧ (ld M9 65 6 ≠ 0 → HMv T f k n (ld M 20) (ld M9 65 5) (ld M9 66))) → ((8 - x1) * 40 + 20 < (N : Int)) → XW kX3_findLeast (d + 34) (some .boolean) (wQi Q) 34 [some (.inr (.inr 65)), some (.inl x1), wx2] [] M9) ∧ (∀ (x1 : Int) (x2 : Int) (M9 : yM), fr (fun o j => (o = 65 ∧ 7 ≤ j) ∨ o = 67 ∨ o = 68 ∨ (24 ≤ o ∧ o ≤ 55) ∨ (o = 22 ∧ 6 ≤ j)) M M9 → (0 ≤ x1 ∧ x1 < n) → (x1 < x2 ∧ x2 ≤ n) → (∃ κ, KV k n κ ∧ LK n f κ (ld M9 67) ∧ FXS T f k n (ld M 20) (ld M9 68) κ (8 * x1 + x2)) → (ld M9 65 7 = 1 ∧ ld M9 65 8 ≠ 0 ∧ (ld M9 65 6 ≠ 0 → HMv T f k n (ld M 20) (ld M9 65 5) (ld M9 66))) → ((8 - x1) * 40 + 8 - x2 < (N : Int)) → XW kX3_findLeast (d + 34) (some .boolean) (wQi Q) 49 [some (.inr (.inr 65)), some (.inl x1), some (.inl x2)] [] M9) := by
    intro N
    induction N with
    | zero => refine ⟨?_, ?_⟩ <;> (intros; exfalso; omega)
    | succ N ih =>
      obtain ⟨ih0, ih1⟩ := ih
      refine ⟨?_, ?_⟩
      · skip
        clear fM
        intro x1 wx2 M1 fM i0 i1 i2 hm
        have k19_0 := fM.ld (o := 19) (j := 0) (by intro hw; first | omega | (dsimp only [wSub, wRun, wNar, wFil, wCan, wLst, wCar, wDr, wFl, wMq, wRd, wRx, wCr, wTab, wTr, wNew, wKi, wKn, wTn, wOb, wPt, wTl, wOq] at hw; omega) | (simp [wSub, wRun, wNar, wFil, wCan, wLst, wCar, wDr, wFl, wMq, wRd, wRx, wCr, wTab, wTr, wNew, wKi, wKn, wTn, wOb, wPt, wTl, wOq] at hw; done) | (simp [wSub, wRun, wNar, wFil, wCan, wLst, wCar, wDr, wFl, wMq, wRd, wRx, wCr, wTab, wTr, wNew, wKi, wKn, wTn, wOb, wPt, wTl, wOq] at hw; omega))
        refine uX3_findLeast_34 (by first | omega | assumption | with_reducible exact rng_ld _ _ _ | with_reducible exact rng_yand _ _ | with_reducible exact rng_yor _ _ | with_reducible exact rng_zcmp _ _ | with_reducible exact yand7 _ | with_reducible exact rng_toInt _ | with_reducible exact yarr23 (by omega) | with_reducible exact yarr57 (by omega) | with_reducible exact Or.inl rfl | with_reducible exact Or.inr rfl) (fun hc => ?_) (fun hc => ?_)
        · skip
          have ls82 : LSv T f k n (ld M 20) (ld M1 67) := by
            obtain ⟨κ, v, l, fx⟩ := i1
            exact ⟨κ, v, fx.end (by omega) hn2, l⟩
          refine uX3_findLeast_82 ?_
          intro M2 hM2
          replace fM := fr.put fM hM2 (by first | omega | (dsimp only [wSub, wRun, wNar, wFil, wCan, wLst, wCar, wDr, wFl, wMq, wRd, wRx, wCr, wTab, wTr, wNew, wKi, wKn, wTn, wOb, wPt, wTl, wOq]; done) | (dsimp only [wSub, wRun, wNar, wFil, wCan, wLst, wCar, wDr, wFl, wMq, wRd, wRx, wCr, wTab, wTr, wNew, wKi, wKn, wTn, wOb, wPt, wTl, wOq]; omega) | (simp [wSub, wRun, wNar, wFil, wCan, wLst, wCar, wDr, wFl, wMq, wRd, wRx, wCr, wTab, wTr, wNew, wKi, wKn, wTn, wOb, wPt, wTl, wOq]; done) | (simp [wSub, wRun, wNar, wFil, wCan, wLst, wCar, wDr, wFl, wMq, wRd, wRx, wCr, wTab, wTr, wNew, wKi, wKn, wTn, wOb, wPt, wTl, wOq]; omega))
          have k19_0 := fM.ld (o := 19) (j := 0) (by intro hw; first | omega | (dsimp only [wSub, wRun, wNar, wFil, wCan, wLst, wCar, wDr, wFl, wMq, wRd, wRx, wCr, wTab, wTr, wNew, wKi, wKn, wTn, wOb, wPt, wTl, wOq] at hw; omega) | (simp [wSub, wRun, wNar, wFil, wCan, wLst, wCar, wDr, wFl, wMq, wRd, wRx, wCr, wTab, wTr, wNew, wKi, wKn, wTn, wOb, wPt, wTl, wOq] at hw; done) | (simp [wSub, wRun, wNar, wFil, wCan, wLst, wCar, wDr, wFl, wMq, wRd, wRx, wCr, wTab, wTr, wNew, wKi, wKn, wTn, wOb, wPt, wTl, wOq] at hw; omega))
          have e82 : ∀ j, j ≠ 9 → ld M2 65 j = ld M1 65 j := fun j q => by rw [hM2, ld_putne (by omega)]
          have e66 : ld M2 66 = ld M1 66 := funext fun j => by rw [hM2, ld_putne (by omega)]
          have e67 : ld M2 67 = ld M1 67 := funext fun j => by rw [hM2, ld_putne (by omega)]
          have e20b : ld M2 20 = ld M 20 := funext fun j => fM.ld (by omega)
          rw [← e67] at ls82
          have z82 : ld M2 65 7 = 1 := by rw [e82 7 (by omega)]; exact i2.1
          have fc82 : FCC M2 T f k n := by
            unfold FCC
            rw [e20b, e82 6 (by omega), e82 5 (by omega), e82 8 (by omega), e66]
            refine ⟨i2.2.2, fun _ => Or.inl ⟨z82, ?_⟩, fun _ => ⟨i2.2.1, fun _ => ls82⟩⟩
            obtain ⟨κ, v, lx, l⟩ := ls82
            exact ⟨κ, v, lx.1, l⟩
          refine uX3_findLeast_87 (by first | exact Or.inr z82 | (rw [← q1]; exact q2)) ?_
          exact kont _ _ fM (by first | exact Or.inl ⟨z82, ls82⟩ | exact (by
              rw [← q1]
              rcases q0 with ⟨a, _⟩ | ⟨a, b⟩
              · first
                | (exfalso; omega)
                | exact Or.inl ⟨a, by have w := (fc0.2.2 (by assumption)).2 (by omega); rw [e20] at w; exact w⟩
              · exact Or.inr ⟨a, b⟩)) (by first | exact ⟨fc82, Or.inr z82⟩ | exact ⟨fc0, by rw [← q1]; exact q2⟩)
        · skip
          have exi : ∃ κ, KV k n κ ∧ LK n f κ (ld M1 67) ∧ FXS T f k n (ld M 20) (ld M1 68) κ (8 * x1 + (x1 + 1)) := by
            obtain ⟨κ, v, l, fx⟩ := i1
            exact ⟨κ, v, l, fx.up (fun p q p1 p2 p3 => by omega)⟩
          refine uX3_findLeast_45 ?_
          exact ih1 _ _ M1 fM (by first | omega | assumption | with_reducible exact rng_ld _ _ _ | with_reducible exact rng_yand _ _ | with_reducible exact rng_yor _ _ | with_reducible exact rng_zcmp _ _ | with_reducible exact yand7 _ | with_reducible exact rng_toInt _ | with_reducible exact yarr23 (by omega) | with_reducible exact yarr57 (by omega) | with_reducible exact Or.inl rfl | with_reducible exact Or.inr rfl) (by first | omega | assumption | with_reducible exact rng_ld _ _ _ | with_reducible exact rng_yand _ _ | with_reducible exact rng_yor _ _ | with_reducible exact rng_zcmp _ _ | with_reducible exact yand7 _ | with_reducible exact rng_toInt _ | with_reducible exact yarr23 (by omega) | with_reducible exact yarr57 (by omega) | with_reducible exact Or.inl rfl | with_reducible exact Or.inr rfl) (by first | exact ex60 | exact exi) (by first | exact i60 | assumption) (by omega)
      · skip
        clear fM
        intro x1 x2 M3 fM i0 i1 i2 i3 hm
        have k19_0 := fM.ld (o := 19) (j := 0) (by intro hw; first | omega | (dsimp only [wSub, wRun, wNar, wFil, wCan, wLst, wCar, wDr, wFl, wMq, wRd, wRx, wCr, wTab, wTr, wNew, wKi, wKn, wTn, wOb, wPt, wTl, wOq] at hw; omega) | (simp [wSub, wRun, wNar, wFil, wCan, wLst, wCar, wDr, wFl, wMq, wRd, wRx, wCr, wTab, wTr, wNew, wKi, wKn, wTn, wOb, wPt, wTl, wOq] at hw; done) | (simp [wSub, wRun, wNar, wFil, wCan, wLst, wCar, wDr, wFl, wMq, wRd, wRx, wCr, wTab, wTr, wNew, wKi, wKn, wTn, wOb, wPt, wTl, wOq] at hw; omega))
        refine uX3_findLeast_49 (by first | omega | assumption | with_reducible exact rng_ld _ _ _ | with_reducible exact rng_yand _ _ | with_reducible exact rng_yor _ _ | with_reducible exact rng_zcmp _ _ | with_reducible exact yand7 _ | with_reducible exact rng_toInt _ | with_reducible exact yarr23 (by omega) | with_reducible exact yarr57 (by omega) | with_reducible exact Or.inl rfl | with_reducible exact Or.inr rfl) (fun hc => ?_) (fun hc => ?_)
        · skip
          have exr : x2 ≥ ld M3 19 0 → ∃ κ, KV k n κ ∧ LK n f κ (ld M3 67) ∧ FXS T f k n (ld M 20) (ld M3 68) κ (8 * (x1 + 1)) := fun w => by
            obtain ⟨κ, v, l, fx⟩ := i2
            exact ⟨κ, v, l, fx.up (fun p q p1 p2 p3 => by omega)⟩
          refine uX3_findLeast_76 ?_
          exact ih0 _ _ M3 fM (by first | omega | assumption | with_reducible exact rng_ld _ _ _ | with_reducible exact rng_yand _ _ | with_reducible exact rng_yor _ _ | with_reducible exact rng_zcmp _ _ | with_reducible exact yand7 _ | with_reducible exact rng_toInt _ | with_reducible exact yarr23 (by omega) | with_reducible exact yarr57 (by omega) | with_reducible exact Or.inl rfl | with_reducible exact Or.inr rfl) (by first | exact ex14 | exact exr (by assumption)) (by first | exact i14 | assumption) (by omega)
        · skip
          have f60 : ld M3 20 = ld M 20 := funext fun j => fM.ld (by omega)
          refine uX3_findLeast_60 ?_
          refine XC.deep (n3_fixLeast  (d := 0) (by omega) hn8 (hCT.fr fM (by omega) (fun _ => by omega) (fun _ => by omega)) hSN (by rw [← hT3]; exact funext fun j => fM.ld (by omega)) hR hU (by omega : 0 ≤ x1 ∧ x1 < x2 ∧ x2 < n) rfl i2 (fun M4 fM4 p4a => ?_)) (by omega)
          replace fM := fM.tr fM4 (by intro o j hw; first | omega | exact hw | (dsimp only [wSub, wRun, wNar, wFil, wCan, wLst, wCar, wDr, wFl, wMq, wRd, wRx, wCr, wTab, wTr, wNew, wKi, wKn, wTn, wOb, wPt, wTl, wOq] at hw; dsimp only [wSub, wRun, wNar, wFil, wCan, wLst, wCar, wDr, wFl, wMq, wRd, wRx, wCr, wTab, wTr, wNew, wKi, wKn, wTn, wOb, wPt, wTl, wOq]; omega) | (dsimp only [wSub, wRun, wNar, wFil, wCan, wLst, wCar, wDr, wFl, wMq, wRd, wRx, wCr, wTab, wTr, wNew, wKi, wKn, wTn, wOb, wPt, wTl, wOq]; omega) | (dsimp only [wSub, wRun, wNar, wFil, wCan, wLst, wCar, wDr, wFl, wMq, wRd, wRx, wCr, wTab, wTr, wNew, wKi, wKn, wTn, wOb, wPt, wTl, wOq] at hw; omega) | (simp [wSub, wRun, wNar, wFil, wCan, wLst, wCar, wDr, wFl, wMq, wRd, wRx, wCr, wTab, wTr, wNew, wKi, wKn, wTn, wOb, wPt, wTl, wOq] at hw; simp [wSub, wRun, wNar, wFil, wCan, wLst, wCar, wDr, wFl, wMq, wRd, wRx, wCr, wTab, wTr, wNew, wKi, wKn, wTn, wOb, wPt, wTl, wOq]; omega))
          have k19_0 := fM.ld (o := 19) (j := 0) (by intro hw; first | omega | (dsimp only [wSub, wRun, wNar, wFil, wCan, wLst, wCar, wDr, wFl, wMq, wRd, wRx, wCr, wTab, wTr, wNew, wKi, wKn, wTn, wOb, wPt, wTl, wOq] at hw; omega) | (simp [wSub, wRun, wNar, wFil, wCan, wLst, wCar, wDr, wFl, wMq, wRd, wRx, wCr, wTab, wTr, wNew, wKi, wKn, wTn, wOb, wPt, wTl, wOq] at hw; done) | (simp [wSub, wRun, wNar, wFil, wCan, wLst, wCar, wDr, wFl, wMq, wRd, wRx, wCr, wTab, wTr, wNew, wKi, wKn, wTn, wOb, wPt, wTl, wOq] at hw; omega))
          have ex60 := p4a
          rw [show 8 * x1 + x2 + 1 = 8 * x1 + (x2 + 1) by omega] at ex60
          have i60 : ld M4 65 7 = 1 ∧ ld M4 65 8 ≠ 0 ∧ (ld M4 65 6 ≠ 0 → HMv T f k n (ld M 20) (ld M4 65 5) (ld M4 66)) := by
            rw [fM4.ld (o := 65) (j := 7) (by omega), fM4.ld (o := 65) (j := 8) (by omega), fM4.ld (o := 65) (j := 6) (by omega), fM4.ld (o := 65) (j := 5) (by omega), show ld M4 66 = ld M3 66 from funext fun j => fM4.ld (by omega)]
            exact i3
          refine uX3_findLeast_70 ?_
          exact ih1 _ _ M4 fM (by first | omega | assumption | with_reducible exact rng_ld _ _ _ | with_reducible exact rng_yand _ _ | with_reducible exact rng_yor _ _ | with_reducible exact rng_zcmp _ _ | with_reducible exact yand7 _ | with_reducible exact rng_toInt _ | with_reducible exact yarr23 (by omega) | with_reducible exact yarr57 (by omega) | with_reducible exact Or.inl rfl | with_reducible exact Or.inr rfl) (by first | omega | assumption | with_reducible exact rng_ld _ _ _ | with_reducible exact rng_yand _ _ | with_reducible exact rng_yor _ _ | with_reducible exact rng_zcmp _ _ | with_reducible exact yand7 _ | with_reducible exact rng_toInt _ | with_reducible exact yarr23 (by omega) | with_reducible exact yarr57 (by omega) | with_reducible exact Or.inl rfl | with_reducible exact Or.inr rfl) (by first | exact ex60 | exact exi) (by first | exact i60 | assumption) (by omega)
  refine uX3_findLeast_0 ?_
  refine XC.deep (n3_areThere  (d := 0) hn hn8 hCT hSN hD8 hT3 hR hU hFC b65 (fun v0 M5 fM5 p5a p5b => ?_)) (by omega)
  replace fM := fM.tr fM5 (by intro o j hw; first | omega | exact hw | (dsimp only [wSub, wRun, wNar, wFil, wCan, wLst, wCar, wDr, wFl, wMq, wRd, wRx, wCr, wTab, wTr, wNew, wKi, wKn, wTn, wOb, wPt, wTl, wOq] at hw; dsimp only [wSub, wRun, wNar, wFil, wCan, wLst, wCar, wDr, wFl, wMq, wRd, wRx, wCr, wTab, wTr, wNew, wKi, wKn, wTn, wOb, wPt, wTl, wOq]; omega) | (dsimp only [wSub, wRun, wNar, wFil, wCan, wLst, wCar, wDr, wFl, wMq, wRd, wRx, wCr, wTab, wTr, wNew, wKi, wKn, wTn, wOb, wPt, wTl, wOq]; omega) | (dsimp only [wSub, wRun, wNar, wFil, wCan, wLst, wCar, wDr, wFl, wMq, wRd, wRx, wCr, wTab, wTr, wNew, wKi, wKn, wTn, wOb, wPt, wTl, wOq] at hw; omega) | (simp [wSub, wRun, wNar, wFil, wCan, wLst, wCar, wDr, wFl, wMq, wRd, wRx, wCr, wTab, wTr, wNew, wKi, wKn, wTn, wOb, wPt, wTl, wOq] at hw; simp [wSub, wRun, wNar, wFil, wCan, wLst, wCar, wDr, wFl, wMq, wRd, wRx, wCr, wTab, wTr, wNew, wKi, wKn, wTn, wOb, wPt, wTl, wOq]; omega))
  have k19_0 := fM.ld (o := 19) (j := 0) (by intro hw; first | omega | (dsimp only [wSub, wRun, wNar, wFil, wCan, wLst, wCar, wDr, wFl, wMq, wRd, wRx, wCr, wTab, wTr, wNew, wKi, wKn, wTn, wOb, wPt, wTl, wOq] at hw; omega) | (simp [wSub, wRun, wNar, wFil, wCan, wLst, wCar, wDr, wFl, wMq, wRd, wRx, wCr, wTab, wTr, wNew, wKi, wKn, wTn, wOb, wPt, wTl, wOq] at hw; done) | (simp [wSub, wRun, wNar, wFil, wCan, wLst, wCar, wDr, wFl, wMq, wRd, wRx, wCr, wTab, wTr, wNew, wKi, wKn, wTn, wOb, wPt, wTl, wOq] at hw; omega))
  have q0 := (p5a).1
  have q1 := (p5a).2.1
  have q2 := (p5a).2.2.1
  have q3 := (p5a).2.2.2
  have fc0 := p5b
  have e20 : ld M5 20 = ld M 20 := funext fun j => fM5.ld (by omega)
  refine uX3_findLeast_4 (by first | omega | assumption | with_reducible exact rng_ld _ _ _ | with_reducible exact rng_yand _ _ | with_reducible exact rng_yor _ _ | with_reducible exact rng_zcmp _ _ | with_reducible exact yand7 _ | with_reducible exact rng_toInt _ | with_reducible exact yarr23 (by omega) | with_reducible exact yarr57 (by omega) | with_reducible exact Or.inl rfl | with_reducible exact Or.inr rfl) (fun hc => ?_) (fun hc => ?_)
  · skip
    refine uX3_findLeast_87 (by first | exact Or.inr z82 | (rw [← q1]; exact q2)) ?_
    exact kont _ _ fM (by first | exact Or.inl ⟨z82, ls82⟩ | exact (by
        rw [← q1]
        rcases q0 with ⟨a, _⟩ | ⟨a, b⟩
        · first
          | (exfalso; omega)
          | exact Or.inl ⟨a, by have w := (fc0.2.2 (by assumption)).2 (by omega); rw [e20] at w; exact w⟩
        · exact Or.inr ⟨a, b⟩)) (by first | exact ⟨fc82, Or.inr z82⟩ | exact ⟨fc0, by rw [← q1]; exact q2⟩)
  · skip
    refine uX3_findLeast_7 (fun hc => ?_) (fun hc => ?_)
    · skip
      refine uX3_findLeast_87 (by first | exact Or.inr z82 | (rw [← q1]; exact q2)) ?_
      exact kont _ _ fM (by first | exact Or.inl ⟨z82, ls82⟩ | exact (by
          rw [← q1]
          rcases q0 with ⟨a, _⟩ | ⟨a, b⟩
          · first
            | (exfalso; omega)
            | exact Or.inl ⟨a, by have w := (fc0.2.2 (by assumption)).2 (by omega); rw [e20] at w; exact w⟩
          · exact Or.inr ⟨a, b⟩)) (by first | exact ⟨fc82, Or.inr z82⟩ | exact ⟨fc0, by rw [← q1]; exact q2⟩)
    · skip
      have z14 : ld M5 65 7 = 1 := by omega
      have at14 := (q0.resolve_right (fun q => absurd q.1 (by assumption))).2
      refine uX3_findLeast_14 ?_
      intro M6 hM6
      replace fM := fr.cpy fM hM6 (by intro j hj1 hj2; exact (by first | omega | (dsimp only [wSub, wRun, wNar, wFil, wCan, wLst, wCar, wDr, wFl, wMq, wRd, wRx, wCr, wTab, wTr, wNew, wKi, wKn, wTn, wOb, wPt, wTl, wOq]; done) | (dsimp only [wSub, wRun, wNar, wFil, wCan, wLst, wCar, wDr, wFl, wMq, wRd, wRx, wCr, wTab, wTr, wNew, wKi, wKn, wTn, wOb, wPt, wTl, wOq]; omega) | (simp [wSub, wRun, wNar, wFil, wCan, wLst, wCar, wDr, wFl, wMq, wRd, wRx, wCr, wTab, wTr, wNew, wKi, wKn, wTn, wOb, wPt, wTl, wOq]; done) | (simp [wSub, wRun, wNar, wFil, wCan, wLst, wCar, wDr, wFl, wMq, wRd, wRx, wCr, wTab, wTr, wNew, wKi, wKn, wTn, wOb, wPt, wTl, wOq]; omega)))
      have k19_0 := fM.ld (o := 19) (j := 0) (by intro hw; first | omega | (dsimp only [wSub, wRun, wNar, wFil, wCan, wLst, wCar, wDr, wFl, wMq, wRd, wRx, wCr, wTab, wTr, wNew, wKi, wKn, wTn, wOb, wPt, wTl, wOq] at hw; omega) | (simp [wSub, wRun, wNar, wFil, wCan, wLst, wCar, wDr, wFl, wMq, wRd, wRx, wCr, wTab, wTr, wNew, wKi, wKn, wTn, wOb, wPt, wTl, wOq] at hw; done) | (simp [wSub, wRun, wNar, wFil, wCan, wLst, wCar, wDr, wFl, wMq, wRd, wRx, wCr, wTab, wTr, wNew, wKi, wKn, wTn, wOb, wPt, wTl, wOq] at hw; omega))
      have ex14 : ∃ κ, KV k n κ ∧ LK n f κ (ld M6 67) ∧ FXS T f k n (ld M 20) (ld M6 68) κ (8 * 0) := by
        obtain ⟨κ, v, fl, l⟩ := at14
        refine ⟨κ, v, ?_, FXS.z hSN hn2 hD8 fl (fun j a1 a2 => ?_)⟩
        · rw [show ld M6 67 = ld M5 67 from funext fun j => by rw [hM6, ld_cpyne (by omega)]]
          exact l
        · rw [hM6, ld_cpy, if_pos ⟨rfl, a1, by omega⟩, e20]
          congr 1
          omega
      have i14 : ld M6 65 7 = 1 ∧ ld M6 65 8 ≠ 0 ∧ (ld M6 65 6 ≠ 0 → HMv T f k n (ld M 20) (ld M6 65 5) (ld M6 66)) := by
        have e : ∀ j, ld M6 65 j = ld M5 65 j := fun j => by rw [hM6, ld_cpyne (by omega)]
        have e66 : ld M6 66 = ld M5 66 := funext fun j => by rw [hM6, ld_cpyne (by omega)]
        rw [e, e, e, e, e66, ← e20]
        exact ⟨z14, q3, fc0.1⟩
      refine uX3_findLeast_32 ?_
      exact (go 1000000).1 _ _ M6 fM (by first | omega | assumption | with_reducible exact rng_ld _ _ _ | with_reducible exact rng_yand _ _ | with_reducible exact rng_yor _ _ | with_reducible exact rng_zcmp _ _ | with_reducible exact yand7 _ | with_reducible exact rng_toInt _ | with_reducible exact yarr23 (by omega) | with_reducible exact yarr57 (by omega) | with_reducible exact Or.inl rfl | with_reducible exact Or.inr rfl) (by first | exact ex14 | exact exr (by assumption)) (by first | exact i14 | assumption) (by omega)
abbrev wFq (o : Nat) (j : Int) : Prop := (o = 65 ∧ 5 ≤ j) ∨ (66 ≤ o ∧ o ≤ 68) ∨ (24 ≤ o ∧ o ≤ 55) ∨ (o = 22 ∧ 6 ≤ j)
theorem n11_fillings {d : Nat} {Q : Int → yM → Prop} {M : yM} {x1 : Int} {T f : Int → Int} {k n : Int} (hn : ld M 19 0 = n) (hn8 : 1 ≤ n ∧ n ≤ 8) (hCT : CT M T f k) (hSN : SN f k n (ld M 20)) (hD8 : D8 (ld M 20)) (hT3 : ld M 3 = T) (hR : ∀ a b : Int, 0 ≤ a → a < k → 0 ≤ b → b < k → 0 ≤ T (8 * a + b) ∧ T (8 * a + b) < 256) (hU : ∀ b : Int, 0 ≤ b → b < k → bt (T (8 * 0 + b)) b.toNat = true) (hFC : FCC M T f k n) (b65 : ld M 65 7 = 0 ∨ ld M 65 7 = 1) (r1 : yR x1) (kont : ∀ (v : Int) (M' : yM), fr (wFq) M M' → (v = -1 ∧ ¬ (x1 = 0 ∨ x1 = 1) ∨ x1 = 1 ∧ (v = 1 ∧ 0 < ct (Fl T f k n (ld M 20)) (UV k n) ∨ v = 0 ∧ ct (Fl T f k n (ld M 20)) (UV k n) = 0) ∨ x1 = 0 ∧ (v = ct (Fl T f k n (ld M 20)) (UV k n) ∧ ct (Fl T f k n (ld M 20)) (UV k n) ≤ 20000 ∨ v = -5 ∧ 20000 < ct (Fl T f k n (ld M 20)) (UV k n))) → (FCC M' T f k n ∧ (ld M' 65 7 = 0 ∨ ld M' 65 7 = 1)) → Q v M') : XCi (d + 34) 97 [.inr (.inr 0), .inl x1] M Q := by
  refine eX11_fillings ?_
  have fM : fr (wFq) M M := fr.rf
  have hk1 := hCT.2.1.1.1
  have hn2 := hn8.2
  refine uX11_fillings_0 ?_
  refine c11_isChoice  (by first | omega | assumption | with_reducible exact rng_ld _ _ _ | with_reducible exact rng_yand _ _ | with_reducible exact rng_yor _ _ | with_reducible exact rng_zcmp _ _ | with_reducible exact yand7 _ | with_reducible exact rng_toInt _ | with_reducible exact yarr23 (by omega) | with_reducible exact yarr57 (by omega) | with_reducible exact Or.inl rfl | with_reducible exact Or.inr rfl) (fun v1 p1a => ?_)
  refine uX11_fillings_4 (by first | omega | assumption | with_reducible exact rng_ld _ _ _ | with_reducible exact rng_yand _ _ | with_reducible exact rng_yor _ _ | with_reducible exact rng_zcmp _ _ | with_reducible exact yand7 _ | with_reducible exact rng_toInt _ | with_reducible exact yarr23 (by omega) | with_reducible exact yarr57 (by omega) | with_reducible exact Or.inl rfl | with_reducible exact Or.inr rfl) (fun hc => ?_) (fun hc => ?_)
  · skip
    refine uX11_fillings_9 (by first | omega | assumption | with_reducible exact rng_ld _ _ _ | with_reducible exact rng_yand _ _ | with_reducible exact rng_yor _ _ | with_reducible exact rng_zcmp _ _ | with_reducible exact yand7 _ | with_reducible exact rng_toInt _ | with_reducible exact yarr23 (by omega) | with_reducible exact yarr57 (by omega) | with_reducible exact Or.inl rfl | with_reducible exact Or.inr rfl) (fun hc => ?_) (fun hc => ?_)
    · skip
      refine uX11_fillings_30 ?_
      refine XC.deep (n3_howMany  (d := 0) hn hn8 hCT hSN hD8 hT3 hR hU hFC (fun v30 M2 fM2 p2a p2b p2c => ?_)) (by omega)
      replace fM := fM.tr fM2 (by intro o j hw; first | omega | exact hw | (dsimp only [wSub, wRun, wNar, wFil, wCan, wLst, wCar, wDr, wFl, wMq, wRd, wRx, wCr, wTab, wTr, wNew, wKi, wKn, wTn, wOb, wPt, wTl, wOq, wFq] at hw; dsimp only [wSub, wRun, wNar, wFil, wCan, wLst, wCar, wDr, wFl, wMq, wRd, wRx, wCr, wTab, wTr, wNew, wKi, wKn, wTn, wOb, wPt, wTl, wOq, wFq]; omega) | (dsimp only [wSub, wRun, wNar, wFil, wCan, wLst, wCar, wDr, wFl, wMq, wRd, wRx, wCr, wTab, wTr, wNew, wKi, wKn, wTn, wOb, wPt, wTl, wOq, wFq]; omega) | (dsimp only [wSub, wRun, wNar, wFil, wCan, wLst, wCar, wDr, wFl, wMq, wRd, wRx, wCr, wTab, wTr, wNew, wKi, wKn, wTn, wOb, wPt, wTl, wOq, wFq] at hw; omega) | (simp [wSub, wRun, wNar, wFil, wCan, wLst, wCar, wDr, wFl, wMq, wRd, wRx, wCr, wTab, wTr, wNew, wKi, wKn, wTn, wOb, wPt, wTl, wOq, wFq] at hw; simp [wSub, wRun, wNar, wFil, wCan, wLst, wCar, wDr, wFl, wMq, wRd, wRx, wCr, wTab, wTr, wNew, wKi, wKn, wTn, wOb, wPt, wTl, wOq, wFq]; omega))
      have k19_0 := fM.ld (o := 19) (j := 0) (by intro hw; first | omega | (dsimp only [wSub, wRun, wNar, wFil, wCan, wLst, wCar, wDr, wFl, wMq, wRd, wRx, wCr, wTab, wTr, wNew, wKi, wKn, wTn, wOb, wPt, wTl, wOq, wFq] at hw; omega) | (simp [wSub, wRun, wNar, wFil, wCan, wLst, wCar, wDr, wFl, wMq, wRd, wRx, wCr, wTab, wTr, wNew, wKi, wKn, wTn, wOb, wPt, wTl, wOq, wFq] at hw; done) | (simp [wSub, wRun, wNar, wFil, wCan, wLst, wCar, wDr, wFl, wMq, wRd, wRx, wCr, wTab, wTr, wNew, wKi, wKn, wTn, wOb, wPt, wTl, wOq, wFq] at hw; omega))
      have q30 := p2a
      have f30 := And.intro p2b (show ld M2 65 7 = 0 ∨ ld M2 65 7 = 1 by rw [fM2.ld (by omega)]; exact b65)
      have q30b := q30
      refine uX11_fillings_37 (by first | omega | assumption | with_reducible exact rng_ld _ _ _ | with_reducible exact rng_yand _ _ | with_reducible exact rng_yor _ _ | with_reducible exact rng_zcmp _ _ | with_reducible exact yand7 _ | with_reducible exact rng_toInt _ | with_reducible exact yarr23 (by omega) | with_reducible exact yarr57 (by omega) | with_reducible exact Or.inl rfl | with_reducible exact Or.inr rfl) (fun hc => ?_) (fun hc => ?_)
      · skip
        refine uX11_fillings_50 ?_
        refine uX11_fillings_51 ?_
        exact kont _ _ fM (Or.inr (Or.inr ⟨by omega, by rcases q30 with ⟨a, b, _⟩ | ⟨a, b⟩ <;> omega⟩)) f30
      · skip
        refine uX11_fillings_45 ?_
        refine uX11_fillings_51 ?_
        exact kont _ _ fM (Or.inr (Or.inr ⟨by omega, by rcases q30 with ⟨a, b, _⟩ | ⟨a, b⟩ <;> omega⟩)) f30
    · skip
      refine uX11_fillings_14 ?_
      refine XC.deep (n3_areThere  (d := 0) hn hn8 hCT hSN hD8 hT3 hR hU hFC b65 (fun v14 M3 fM3 p3a p3b => ?_)) (by omega)
      replace fM := fM.tr fM3 (by intro o j hw; first | omega | exact hw | (dsimp only [wSub, wRun, wNar, wFil, wCan, wLst, wCar, wDr, wFl, wMq, wRd, wRx, wCr, wTab, wTr, wNew, wKi, wKn, wTn, wOb, wPt, wTl, wOq, wFq] at hw; dsimp only [wSub, wRun, wNar, wFil, wCan, wLst, wCar, wDr, wFl, wMq, wRd, wRx, wCr, wTab, wTr, wNew, wKi, wKn, wTn, wOb, wPt, wTl, wOq, wFq]; omega) | (dsimp only [wSub, wRun, wNar, wFil, wCan, wLst, wCar, wDr, wFl, wMq, wRd, wRx, wCr, wTab, wTr, wNew, wKi, wKn, wTn, wOb, wPt, wTl, wOq, wFq]; omega) | (dsimp only [wSub, wRun, wNar, wFil, wCan, wLst, wCar, wDr, wFl, wMq, wRd, wRx, wCr, wTab, wTr, wNew, wKi, wKn, wTn, wOb, wPt, wTl, wOq, wFq] at hw; omega) | (simp [wSub, wRun, wNar, wFil, wCan, wLst, wCar, wDr, wFl, wMq, wRd, wRx, wCr, wTab, wTr, wNew, wKi, wKn, wTn, wOb, wPt, wTl, wOq, wFq] at hw; simp [wSub, wRun, wNar, wFil, wCan, wLst, wCar, wDr, wFl, wMq, wRd, wRx, wCr, wTab, wTr, wNew, wKi, wKn, wTn, wOb, wPt, wTl, wOq, wFq]; omega))
      have k19_0 := fM.ld (o := 19) (j := 0) (by intro hw; first | omega | (dsimp only [wSub, wRun, wNar, wFil, wCan, wLst, wCar, wDr, wFl, wMq, wRd, wRx, wCr, wTab, wTr, wNew, wKi, wKn, wTn, wOb, wPt, wTl, wOq, wFq] at hw; omega) | (simp [wSub, wRun, wNar, wFil, wCan, wLst, wCar, wDr, wFl, wMq, wRd, wRx, wCr, wTab, wTr, wNew, wKi, wKn, wTn, wOb, wPt, wTl, wOq, wFq] at hw; done) | (simp [wSub, wRun, wNar, wFil, wCan, wLst, wCar, wDr, wFl, wMq, wRd, wRx, wCr, wTab, wTr, wNew, wKi, wKn, wTn, wOb, wPt, wTl, wOq, wFq] at hw; omega))
      have q14 := (p3a).1
      have b14 := (p3a).2.2.1
      have f14 := And.intro p3b (show ld M3 65 7 = 0 ∨ ld M3 65 7 = 1 by rw [← (p3a).2.1]; exact b14)
      have a14 : v14 = 1 ∧ 0 < ct (Fl T f k n (ld M 20)) (UV k n) ∨ v14 = 0 ∧ ct (Fl T f k n (ld M 20)) (UV k n) = 0 := by
        rcases q14 with ⟨a, κ, v, fl, _⟩ | ⟨a, b⟩
        · exact Or.inl ⟨a, (ct_ex hk1 hn2 (rsp_fl hn2)).mpr ⟨κ, v, fl⟩⟩
        · exact Or.inr ⟨a, b⟩
      refine uX11_fillings_21 (by first | omega | assumption | with_reducible exact rng_ld _ _ _ | with_reducible exact rng_yand _ _ | with_reducible exact rng_yor _ _ | with_reducible exact rng_zcmp _ _ | with_reducible exact yand7 _ | with_reducible exact rng_toInt _ | with_reducible exact yarr23 (by omega) | with_reducible exact yarr57 (by omega) | with_reducible exact Or.inl rfl | with_reducible exact Or.inr rfl) (fun hc => ?_) (fun hc => ?_)
      · skip
        refine uX11_fillings_28 ?_
        refine uX11_fillings_29 ?_
        exact kont _ _ fM (Or.inr (Or.inl ⟨by omega, by omega⟩)) f14
      · skip
        refine uX11_fillings_24 ?_
        refine uX11_fillings_29 ?_
        exact kont _ _ fM (Or.inr (Or.inl ⟨by omega, by omega⟩)) f14
  · skip
    refine uX11_fillings_7 ?_
    exact kont _ _ fM (Or.inl ⟨rfl, by omega⟩) ⟨hFC, b65⟩
theorem n11_first {d : Nat} {Q : Int → yM → Prop} {M : yM} {x1 : Int} {x2 : Int} {T f : Int → Int} {k n : Int} (hn : ld M 19 0 = n) (hn8 : 1 ≤ n ∧ n ≤ 8) (hCT : CT M T f k) (hSN : SN f k n (ld M 20)) (hD8 : D8 (ld M 20)) (hT3 : ld M 3 = T) (hR : ∀ a b : Int, 0 ≤ a → a < k → 0 ≤ b → b < k → 0 ≤ T (8 * a + b) ∧ T (8 * a + b) < 256) (hU : ∀ b : Int, 0 ≤ b → b < k → bt (T (8 * 0 + b)) b.toNat = true) (hFC : FCC M T f k n) (b65 : ld M 65 7 = 0 ∨ ld M 65 7 = 1) (r1 : yR x1) (r2 : yR x2) (kont : ∀ (v : Int) (M' : yM), fr (wFq) M M' → (v = -1 ∧ ¬ ((0 ≤ x1 ∧ x1 < n) ∧ 0 ≤ x2 ∧ x2 < n) ∨ ((0 ≤ x1 ∧ x1 < n) ∧ 0 ≤ x2 ∧ x2 < n) ∧ (v = -9 ∧ ct (Fl T f k n (ld M 20)) (UV k n) = 0 ∨ ∃ κ, KV k n κ ∧ LX T f k n (ld M 20) κ ∧ v = low (nK f κ (8 * x1 + x2)))) → (FCC M' T f k n ∧ (ld M' 65 7 = 0 ∨ ld M' 65 7 = 1)) → Q v M') : XCi (d + 35) 98 [.inr (.inr 0), .inl x1, .inl x2] M Q := by
  refine eX11_first ?_
  have fM : fr (wFq) M M := fr.rf
  refine uX11_first_0 ?_
  refine c5_has  (by first | omega | assumption | with_reducible exact rng_ld _ _ _ | with_reducible exact rng_yand _ _ | with_reducible exact rng_yor _ _ | with_reducible exact rng_zcmp _ _ | with_reducible exact yand7 _ | with_reducible exact rng_toInt _ | with_reducible exact yarr23 (by omega) | with_reducible exact yarr57 (by omega) | with_reducible exact Or.inl rfl | with_reducible exact Or.inr rfl) (fun v1 p1a => ?_)
  refine uX11_first_8 (by first | omega | assumption | with_reducible exact rng_ld _ _ _ | with_reducible exact rng_yand _ _ | with_reducible exact rng_yor _ _ | with_reducible exact rng_zcmp _ _ | with_reducible exact yand7 _ | with_reducible exact rng_toInt _ | with_reducible exact yarr23 (by omega) | with_reducible exact yarr57 (by omega) | with_reducible exact Or.inl rfl | with_reducible exact Or.inr rfl) (fun hc => ?_) (fun hc => ?_)
  · skip
    refine uX11_first_22 ?_
    exact kont _ _ fM (Or.inl ⟨rfl, by omega⟩) ⟨hFC, b65⟩
  · skip
    refine uX11_first_11 ?_
    refine c5_has  (by first | omega | assumption | with_reducible exact rng_ld _ _ _ | with_reducible exact rng_yand _ _ | with_reducible exact rng_yor _ _ | with_reducible exact rng_zcmp _ _ | with_reducible exact yand7 _ | with_reducible exact rng_toInt _ | with_reducible exact yarr23 (by omega) | with_reducible exact yarr57 (by omega) | with_reducible exact Or.inl rfl | with_reducible exact Or.inr rfl) (fun v2 p2a => ?_)
    refine uX11_first_19 (by first | omega | assumption | with_reducible exact rng_ld _ _ _ | with_reducible exact rng_yand _ _ | with_reducible exact rng_yor _ _ | with_reducible exact rng_zcmp _ _ | with_reducible exact yand7 _ | with_reducible exact rng_toInt _ | with_reducible exact yarr23 (by omega) | with_reducible exact yarr57 (by omega) | with_reducible exact Or.inl rfl | with_reducible exact Or.inr rfl) (fun hc => ?_) (fun hc => ?_)
    · skip
      refine uX11_first_24 ?_
      refine XC.deep (n3_findLeast  (d := 0) hn hn8 hCT hSN hD8 hT3 hR hU hFC b65 (fun v24 M3 fM3 p3a p3b => ?_)) (by omega)
      replace fM := fM.tr fM3 (by intro o j hw; first | omega | exact hw | (dsimp only [wSub, wRun, wNar, wFil, wCan, wLst, wCar, wDr, wFl, wMq, wRd, wRx, wCr, wTab, wTr, wNew, wKi, wKn, wTn, wOb, wPt, wTl, wOq, wFq] at hw; dsimp only [wSub, wRun, wNar, wFil, wCan, wLst, wCar, wDr, wFl, wMq, wRd, wRx, wCr, wTab, wTr, wNew, wKi, wKn, wTn, wOb, wPt, wTl, wOq, wFq]; omega) | (dsimp only [wSub, wRun, wNar, wFil, wCan, wLst, wCar, wDr, wFl, wMq, wRd, wRx, wCr, wTab, wTr, wNew, wKi, wKn, wTn, wOb, wPt, wTl, wOq, wFq]; omega) | (dsimp only [wSub, wRun, wNar, wFil, wCan, wLst, wCar, wDr, wFl, wMq, wRd, wRx, wCr, wTab, wTr, wNew, wKi, wKn, wTn, wOb, wPt, wTl, wOq, wFq] at hw; omega) | (simp [wSub, wRun, wNar, wFil, wCan, wLst, wCar, wDr, wFl, wMq, wRd, wRx, wCr, wTab, wTr, wNew, wKi, wKn, wTn, wOb, wPt, wTl, wOq, wFq] at hw; simp [wSub, wRun, wNar, wFil, wCan, wLst, wCar, wDr, wFl, wMq, wRd, wRx, wCr, wTab, wTr, wNew, wKi, wKn, wTn, wOb, wPt, wTl, wOq, wFq]; omega))
      have k19_0 := fM.ld (o := 19) (j := 0) (by intro hw; first | omega | (dsimp only [wSub, wRun, wNar, wFil, wCan, wLst, wCar, wDr, wFl, wMq, wRd, wRx, wCr, wTab, wTr, wNew, wKi, wKn, wTn, wOb, wPt, wTl, wOq, wFq] at hw; omega) | (simp [wSub, wRun, wNar, wFil, wCan, wLst, wCar, wDr, wFl, wMq, wRd, wRx, wCr, wTab, wTr, wNew, wKi, wKn, wTn, wOb, wPt, wTl, wOq, wFq] at hw; done) | (simp [wSub, wRun, wNar, wFil, wCan, wLst, wCar, wDr, wFl, wMq, wRd, wRx, wCr, wTab, wTr, wNew, wKi, wKn, wTn, wOb, wPt, wTl, wOq, wFq] at hw; omega))
      have q24 := p3a
      have f24 := p3b
      refine uX11_first_31 (by first | omega | assumption | with_reducible exact rng_ld _ _ _ | with_reducible exact rng_yand _ _ | with_reducible exact rng_yor _ _ | with_reducible exact rng_zcmp _ _ | with_reducible exact yand7 _ | with_reducible exact rng_toInt _ | with_reducible exact yarr23 (by omega) | with_reducible exact yarr57 (by omega) | with_reducible exact Or.inl rfl | with_reducible exact Or.inr rfl) (fun hc => ?_) (fun hc => ?_)
      · skip
        refine uX11_first_37 (by first | omega | assumption | with_reducible exact rng_ld _ _ _ | with_reducible exact rng_yand _ _ | with_reducible exact rng_yor _ _ | with_reducible exact rng_zcmp _ _ | with_reducible exact yand7 _ | with_reducible exact rng_toInt _ | with_reducible exact yarr23 (by omega) | with_reducible exact yarr57 (by omega) | with_reducible exact Or.inl rfl | with_reducible exact Or.inr rfl) ?_
        refine XC.deep (c11_low  (d := 0)  ?_) (by omega)
        refine uX11_first_54 ?_
        exact kont _ _ fM (Or.inr ⟨by omega, Or.inr (by
            obtain ⟨κ, v, lx, l⟩ := q24.elim (fun q => q.2) (fun q => absurd q.1 (by assumption))
            exact ⟨κ, v, lx, by rw [l x1 x2 (by omega) (by omega) (by omega) (by omega)]⟩)⟩) f24
      · skip
        refine uX11_first_34 ?_
        exact kont _ _ fM (Or.inr ⟨by omega, Or.inl ⟨rfl, q24.elim (fun q => absurd q.1 (by omega)) (fun q => q.2)⟩⟩) f24
    · skip
      refine uX11_first_22 ?_
      exact kont _ _ fM (Or.inl ⟨rfl, by omega⟩) ⟨hFC, b65⟩
theorem n11_sure {d : Nat} {Q : Int → yM → Prop} {M : yM} {x1 : Int} {x2 : Int} {T f : Int → Int} {k n : Int} (hn : ld M 19 0 = n) (hn8 : 1 ≤ n ∧ n ≤ 8) (hCT : CT M T f k) (hSN : SN f k n (ld M 20)) (hD8 : D8 (ld M 20)) (hT3 : ld M 3 = T) (hR : ∀ a b : Int, 0 ≤ a → a < k → 0 ≤ b → b < k → 0 ≤ T (8 * a + b) ∧ T (8 * a + b) < 256) (hU : ∀ b : Int, 0 ≤ b → b < k → bt (T (8 * 0 + b)) b.toNat = true) (hFC : FCC M T f k n) (b65 : ld M 65 7 = 0 ∨ ld M 65 7 = 1) (r1 : yR x1) (r2 : yR x2) (kont : ∀ (v : Int) (M' : yM), fr (wFq) M M' → (v = -1 ∧ ¬ ((0 ≤ x1 ∧ x1 < n) ∧ 0 ≤ x2 ∧ x2 < n) ∨ ((0 ≤ x1 ∧ x1 < n) ∧ 0 ≤ x2 ∧ x2 < n) ∧ (v = -5 ∧ 20000 < ct (Fl T f k n (ld M 20)) (UV k n) ∨ ct (Fl T f k n (ld M 20)) (UV k n) ≤ 20000 ∧ SUR T f k n (ld M 20) x1 x2 v)) → (FCC M' T f k n ∧ (ld M' 65 7 = 0 ∨ ld M' 65 7 = 1)) → Q v M') : XCi (d + 34) 99 [.inr (.inr 0), .inl x1, .inl x2] M Q := by
  refine eX11_sure ?_
  have fM : fr (wFq) M M := fr.rf
  refine uX11_sure_0 ?_
  refine c5_has  (by first | omega | assumption | with_reducible exact rng_ld _ _ _ | with_reducible exact rng_yand _ _ | with_reducible exact rng_yor _ _ | with_reducible exact rng_zcmp _ _ | with_reducible exact yand7 _ | with_reducible exact rng_toInt _ | with_reducible exact yarr23 (by omega) | with_reducible exact yarr57 (by omega) | with_reducible exact Or.inl rfl | with_reducible exact Or.inr rfl) (fun v1 p1a => ?_)
  refine uX11_sure_8 (by first | omega | assumption | with_reducible exact rng_ld _ _ _ | with_reducible exact rng_yand _ _ | with_reducible exact rng_yor _ _ | with_reducible exact rng_zcmp _ _ | with_reducible exact yand7 _ | with_reducible exact rng_toInt _ | with_reducible exact yarr23 (by omega) | with_reducible exact yarr57 (by omega) | with_reducible exact Or.inl rfl | with_reducible exact Or.inr rfl) (fun hc => ?_) (fun hc => ?_)
  · skip
    refine uX11_sure_22 ?_
    exact kont _ _ fM (Or.inl ⟨rfl, by omega⟩) ⟨hFC, b65⟩
  · skip
    refine uX11_sure_11 ?_
    refine c5_has  (by first | omega | assumption | with_reducible exact rng_ld _ _ _ | with_reducible exact rng_yand _ _ | with_reducible exact rng_yor _ _ | with_reducible exact rng_zcmp _ _ | with_reducible exact yand7 _ | with_reducible exact rng_toInt _ | with_reducible exact yarr23 (by omega) | with_reducible exact yarr57 (by omega) | with_reducible exact Or.inl rfl | with_reducible exact Or.inr rfl) (fun v2 p2a => ?_)
    refine uX11_sure_19 (by first | omega | assumption | with_reducible exact rng_ld _ _ _ | with_reducible exact rng_yand _ _ | with_reducible exact rng_yor _ _ | with_reducible exact rng_zcmp _ _ | with_reducible exact yand7 _ | with_reducible exact rng_toInt _ | with_reducible exact yarr23 (by omega) | with_reducible exact yarr57 (by omega) | with_reducible exact Or.inl rfl | with_reducible exact Or.inr rfl) (fun hc => ?_) (fun hc => ?_)
    · skip
      refine uX11_sure_24 ?_
      refine XC.deep (n3_howMany  (d := 0) hn hn8 hCT hSN hD8 hT3 hR hU hFC (fun v24 M3 fM3 p3a p3b p3c => ?_)) (by omega)
      replace fM := fM.tr fM3 (by intro o j hw; first | omega | exact hw | (dsimp only [wSub, wRun, wNar, wFil, wCan, wLst, wCar, wDr, wFl, wMq, wRd, wRx, wCr, wTab, wTr, wNew, wKi, wKn, wTn, wOb, wPt, wTl, wOq, wFq] at hw; dsimp only [wSub, wRun, wNar, wFil, wCan, wLst, wCar, wDr, wFl, wMq, wRd, wRx, wCr, wTab, wTr, wNew, wKi, wKn, wTn, wOb, wPt, wTl, wOq, wFq]; omega) | (dsimp only [wSub, wRun, wNar, wFil, wCan, wLst, wCar, wDr, wFl, wMq, wRd, wRx, wCr, wTab, wTr, wNew, wKi, wKn, wTn, wOb, wPt, wTl, wOq, wFq]; omega) | (dsimp only [wSub, wRun, wNar, wFil, wCan, wLst, wCar, wDr, wFl, wMq, wRd, wRx, wCr, wTab, wTr, wNew, wKi, wKn, wTn, wOb, wPt, wTl, wOq, wFq] at hw; omega) | (simp [wSub, wRun, wNar, wFil, wCan, wLst, wCar, wDr, wFl, wMq, wRd, wRx, wCr, wTab, wTr, wNew, wKi, wKn, wTn, wOb, wPt, wTl, wOq, wFq] at hw; simp [wSub, wRun, wNar, wFil, wCan, wLst, wCar, wDr, wFl, wMq, wRd, wRx, wCr, wTab, wTr, wNew, wKi, wKn, wTn, wOb, wPt, wTl, wOq, wFq]; omega))
      have k19_0 := fM.ld (o := 19) (j := 0) (by intro hw; first | omega | (dsimp only [wSub, wRun, wNar, wFil, wCan, wLst, wCar, wDr, wFl, wMq, wRd, wRx, wCr, wTab, wTr, wNew, wKi, wKn, wTn, wOb, wPt, wTl, wOq, wFq] at hw; omega) | (simp [wSub, wRun, wNar, wFil, wCan, wLst, wCar, wDr, wFl, wMq, wRd, wRx, wCr, wTab, wTr, wNew, wKi, wKn, wTn, wOb, wPt, wTl, wOq, wFq] at hw; done) | (simp [wSub, wRun, wNar, wFil, wCan, wLst, wCar, wDr, wFl, wMq, wRd, wRx, wCr, wTab, wTr, wNew, wKi, wKn, wTn, wOb, wPt, wTl, wOq, wFq] at hw; omega))
      have q24 := p3a
      have f24 := And.intro p3b (show ld M3 65 7 = 0 ∨ ld M3 65 7 = 1 by rw [fM3.ld (by omega)]; exact b65)
      refine uX11_sure_31 (by first | omega | assumption | with_reducible exact rng_ld _ _ _ | with_reducible exact rng_yand _ _ | with_reducible exact rng_yor _ _ | with_reducible exact rng_zcmp _ _ | with_reducible exact yand7 _ | with_reducible exact rng_toInt _ | with_reducible exact yarr23 (by omega) | with_reducible exact yarr57 (by omega) | with_reducible exact Or.inl rfl | with_reducible exact Or.inr rfl) (fun hc => ?_) (fun hc => ?_)
      · skip
        refine uX11_sure_40 (by first | omega | assumption | with_reducible exact rng_ld _ _ _ | with_reducible exact rng_yand _ _ | with_reducible exact rng_yor _ _ | with_reducible exact rng_zcmp _ _ | with_reducible exact yand7 _ | with_reducible exact rng_toInt _ | with_reducible exact yarr23 (by omega) | with_reducible exact yarr57 (by omega) | with_reducible exact Or.inl rfl | with_reducible exact Or.inr rfl) ?_
        exact kont _ _ fM (Or.inr ⟨by omega, Or.inr (by
            rcases q24 with ⟨a, b, d⟩ | ⟨a, b⟩
            · exact ⟨by omega, sur_bq d (by omega) (by omega) (rng_ld _ _ _)⟩
            · omega)⟩) f24
      · skip
        refine uX11_sure_37 ?_
        exact kont _ _ fM (Or.inr ⟨by omega, Or.inl ⟨rfl, q24.elim (fun q => by omega) (fun q => q.2)⟩⟩) f24
    · skip
      refine uX11_sure_22 ?_
      exact kont _ _ fM (Or.inl ⟨rfl, by omega⟩) ⟨hFC, b65⟩
/-! CLASS: CALLS, WHAT THEY WRITE TOLD FINER -/
theorem n11_value {d : Nat} {Q : Int → yM → Prop} {M : yM} {x1 : Int} {x2 : Int} {x3 : Int} {x4 : Int}  (hk : 1 ≤ ld M 1 0 ∧ ld M 1 0 ≤ 8) (r1 : yR x1) (r2 : yR x2) (r3 : yR x3) (r4 : yR x4) (kont : ∀ (v : Int) (M' : yM), fr (fun o _ => o = 82) M M' → Q v M') : XCi (d + 3) 104 [.inr (.inr 0), .inl x1, .inl x2, .inl x3, .inl x4] M Q := by
  refine eX11_value ?_
  have fM : fr (fun o _ => o = 82) M M := fr.rf
  refine uX11_value_0 ?_
  refine c11_isTerm  (by first | omega | assumption | with_reducible exact rng_ld _ _ _ | with_reducible exact rng_yand _ _ | with_reducible exact rng_yor _ _ | with_reducible exact rng_zcmp _ _ | with_reducible exact yand7 _ | with_reducible exact rng_toInt _ | with_reducible exact yarr23 (by omega) | with_reducible exact yarr57 (by omega) | with_reducible exact Or.inl rfl | with_reducible exact Or.inr rfl) (fun v1 p1a => ?_)
  refine uX11_value_4 (by first | omega | assumption | with_reducible exact rng_ld _ _ _ | with_reducible exact rng_yand _ _ | with_reducible exact rng_yor _ _ | with_reducible exact rng_zcmp _ _ | with_reducible exact yand7 _ | with_reducible exact rng_toInt _ | with_reducible exact yarr23 (by omega) | with_reducible exact yarr57 (by omega) | with_reducible exact Or.inl rfl | with_reducible exact Or.inr rfl) (fun hc => ?_) (fun hc => ?_)
  · skip
    refine uX11_value_41 ?_
    exact kont _ _ fM 
  · skip
    refine uX11_value_7 ?_
    refine XC.deep (c9_hasSet  (d := 0) (by first | omega | assumption | with_reducible exact rng_ld _ _ _ | with_reducible exact rng_yand _ _ | with_reducible exact rng_yor _ _ | with_reducible exact rng_zcmp _ _ | with_reducible exact yand7 _ | with_reducible exact rng_toInt _ | with_reducible exact yarr23 (by omega) | with_reducible exact yarr57 (by omega) | with_reducible exact Or.inl rfl | with_reducible exact Or.inr rfl) (by first | omega | assumption | with_reducible exact rng_ld _ _ _ | with_reducible exact rng_yand _ _ | with_reducible exact rng_yor _ _ | with_reducible exact rng_zcmp _ _ | with_reducible exact yand7 _ | with_reducible exact rng_toInt _ | with_reducible exact yarr23 (by omega) | with_reducible exact yarr57 (by omega) | with_reducible exact Or.inl rfl | with_reducible exact Or.inr rfl) (fun v2 p2a => ?_)) (by omega)
    refine uX11_value_15 (by first | omega | assumption | with_reducible exact rng_ld _ _ _ | with_reducible exact rng_yand _ _ | with_reducible exact rng_yor _ _ | with_reducible exact rng_zcmp _ _ | with_reducible exact yand7 _ | with_reducible exact rng_toInt _ | with_reducible exact yarr23 (by omega) | with_reducible exact yarr57 (by omega) | with_reducible exact Or.inl rfl | with_reducible exact Or.inr rfl) (fun hc => ?_) (fun hc => ?_)
    · skip
      refine uX11_value_41 ?_
      exact kont _ _ fM 
    · skip
      refine uX11_value_18 ?_
      refine XC.deep (c9_hasSet  (d := 0) (by first | omega | assumption | with_reducible exact rng_ld _ _ _ | with_reducible exact rng_yand _ _ | with_reducible exact rng_yor _ _ | with_reducible exact rng_zcmp _ _ | with_reducible exact yand7 _ | with_reducible exact rng_toInt _ | with_reducible exact yarr23 (by omega) | with_reducible exact yarr57 (by omega) | with_reducible exact Or.inl rfl | with_reducible exact Or.inr rfl) (by first | omega | assumption | with_reducible exact rng_ld _ _ _ | with_reducible exact rng_yand _ _ | with_reducible exact rng_yor _ _ | with_reducible exact rng_zcmp _ _ | with_reducible exact yand7 _ | with_reducible exact rng_toInt _ | with_reducible exact yarr23 (by omega) | with_reducible exact yarr57 (by omega) | with_reducible exact Or.inl rfl | with_reducible exact Or.inr rfl) (fun v3 p3a => ?_)) (by omega)
      refine uX11_value_26 (by first | omega | assumption | with_reducible exact rng_ld _ _ _ | with_reducible exact rng_yand _ _ | with_reducible exact rng_yor _ _ | with_reducible exact rng_zcmp _ _ | with_reducible exact yand7 _ | with_reducible exact rng_toInt _ | with_reducible exact yarr23 (by omega) | with_reducible exact yarr57 (by omega) | with_reducible exact Or.inl rfl | with_reducible exact Or.inr rfl) (fun hc => ?_) (fun hc => ?_)
      · skip
        refine uX11_value_41 ?_
        exact kont _ _ fM 
      · skip
        refine uX11_value_29 ?_
        refine XC.deep (c9_hasSet  (d := 0) (by first | omega | assumption | with_reducible exact rng_ld _ _ _ | with_reducible exact rng_yand _ _ | with_reducible exact rng_yor _ _ | with_reducible exact rng_zcmp _ _ | with_reducible exact yand7 _ | with_reducible exact rng_toInt _ | with_reducible exact yarr23 (by omega) | with_reducible exact yarr57 (by omega) | with_reducible exact Or.inl rfl | with_reducible exact Or.inr rfl) (by first | omega | assumption | with_reducible exact rng_ld _ _ _ | with_reducible exact rng_yand _ _ | with_reducible exact rng_yor _ _ | with_reducible exact rng_zcmp _ _ | with_reducible exact yand7 _ | with_reducible exact rng_toInt _ | with_reducible exact yarr23 (by omega) | with_reducible exact yarr57 (by omega) | with_reducible exact Or.inl rfl | with_reducible exact Or.inr rfl) (fun v4 p4a => ?_)) (by omega)
        refine uX11_value_38 (by first | omega | assumption | with_reducible exact rng_ld _ _ _ | with_reducible exact rng_yand _ _ | with_reducible exact rng_yor _ _ | with_reducible exact rng_zcmp _ _ | with_reducible exact yand7 _ | with_reducible exact rng_toInt _ | with_reducible exact yarr23 (by omega) | with_reducible exact yarr57 (by omega) | with_reducible exact Or.inl rfl | with_reducible exact Or.inr rfl) (fun hc => ?_) (fun hc => ?_)
        · skip
          have ht1 := yterm83 (j := x1) (by omega)
          refine uX11_value_43 (by first | omega | assumption | with_reducible exact rng_ld _ _ _ | with_reducible exact rng_yand _ _ | with_reducible exact rng_yor _ _ | with_reducible exact rng_zcmp _ _ | with_reducible exact yand7 _ | with_reducible exact rng_toInt _ | with_reducible exact yarr23 (by omega) | with_reducible exact yarr57 (by omega) | with_reducible exact Or.inl rfl | with_reducible exact Or.inr rfl) ?_
          refine XC.deep (c2_evaluate  (d := 0) (by first | omega | assumption | with_reducible exact rng_ld _ _ _ | with_reducible exact rng_yand _ _ | with_reducible exact rng_yor _ _ | with_reducible exact rng_zcmp _ _ | with_reducible exact yand7 _ | with_reducible exact rng_toInt _ | with_reducible exact yarr23 (by omega) | with_reducible exact yarr57 (by omega) | with_reducible exact Or.inl rfl | with_reducible exact Or.inr rfl) (by first | omega | assumption | with_reducible exact rng_ld _ _ _ | with_reducible exact rng_yand _ _ | with_reducible exact rng_yor _ _ | with_reducible exact rng_zcmp _ _ | with_reducible exact yand7 _ | with_reducible exact rng_toInt _ | with_reducible exact yarr23 (by omega) | with_reducible exact yarr57 (by omega) | with_reducible exact Or.inl rfl | with_reducible exact Or.inr rfl) (fun v5 M5 fM5 p5a => ?_)) (by omega)
          replace fM := fM.tr fM5 (by intro o j hw; first | omega | exact hw | (dsimp only [wSub, wRun, wNar, wFil, wCan, wLst, wCar, wDr, wFl, wMq, wRd, wRx, wCr, wTab, wTr, wNew, wKi, wKn, wTn, wOb, wPt, wTl, wOq, wFq] at hw; dsimp only [wSub, wRun, wNar, wFil, wCan, wLst, wCar, wDr, wFl, wMq, wRd, wRx, wCr, wTab, wTr, wNew, wKi, wKn, wTn, wOb, wPt, wTl, wOq, wFq]; omega) | (dsimp only [wSub, wRun, wNar, wFil, wCan, wLst, wCar, wDr, wFl, wMq, wRd, wRx, wCr, wTab, wTr, wNew, wKi, wKn, wTn, wOb, wPt, wTl, wOq, wFq]; omega) | (dsimp only [wSub, wRun, wNar, wFil, wCan, wLst, wCar, wDr, wFl, wMq, wRd, wRx, wCr, wTab, wTr, wNew, wKi, wKn, wTn, wOb, wPt, wTl, wOq, wFq] at hw; omega) | (simp [wSub, wRun, wNar, wFil, wCan, wLst, wCar, wDr, wFl, wMq, wRd, wRx, wCr, wTab, wTr, wNew, wKi, wKn, wTn, wOb, wPt, wTl, wOq, wFq] at hw; simp [wSub, wRun, wNar, wFil, wCan, wLst, wCar, wDr, wFl, wMq, wRd, wRx, wCr, wTab, wTr, wNew, wKi, wKn, wTn, wOb, wPt, wTl, wOq, wFq]; omega))
          refine uX11_value_60 ?_
          exact kont _ _ fM 
        · skip
          refine uX11_value_41 ?_
          exact kont _ _ fM 
theorem n11_against {d : Nat} {Q : Int → yM → Prop} {M : yM} {x1 : Int} {x2 : Int}  (hk : 1 ≤ ld M 1 0 ∧ ld M 1 0 ≤ 8) (r1 : yR x1) (r2 : yR x2) (kont : ∀ (v : Int) (M' : yM), fr (fun o _ => o = 82) M M' → Q v M') : XCi (d + 4) 105 [.inr (.inr 0), .inl x1, .inl x2] M Q := by
  refine eX11_against ?_
  have fM : fr (fun o _ => o = 82) M M := fr.rf
  refine uX11_against_0 ?_
  refine c11_isTerm  (by first | omega | assumption | with_reducible exact rng_ld _ _ _ | with_reducible exact rng_yand _ _ | with_reducible exact rng_yor _ _ | with_reducible exact rng_zcmp _ _ | with_reducible exact yand7 _ | with_reducible exact rng_toInt _ | with_reducible exact yarr23 (by omega) | with_reducible exact yarr57 (by omega) | with_reducible exact Or.inl rfl | with_reducible exact Or.inr rfl) (fun v1 p1a => ?_)
  refine uX11_against_4 (by first | omega | assumption | with_reducible exact rng_ld _ _ _ | with_reducible exact rng_yand _ _ | with_reducible exact rng_yor _ _ | with_reducible exact rng_zcmp _ _ | with_reducible exact yand7 _ | with_reducible exact rng_toInt _ | with_reducible exact yarr23 (by omega) | with_reducible exact yarr57 (by omega) | with_reducible exact Or.inl rfl | with_reducible exact Or.inr rfl) (fun hc => ?_) (fun hc => ?_)
  · skip
    refine uX11_against_14 ?_
    exact kont _ _ fM 
  · skip
    refine uX11_against_7 ?_
    refine c11_isTerm  (by first | omega | assumption | with_reducible exact rng_ld _ _ _ | with_reducible exact rng_yand _ _ | with_reducible exact rng_yor _ _ | with_reducible exact rng_zcmp _ _ | with_reducible exact yand7 _ | with_reducible exact rng_toInt _ | with_reducible exact yarr23 (by omega) | with_reducible exact yarr57 (by omega) | with_reducible exact Or.inl rfl | with_reducible exact Or.inr rfl) (fun v2 p2a => ?_)
    refine uX11_against_11 (by first | omega | assumption | with_reducible exact rng_ld _ _ _ | with_reducible exact rng_yand _ _ | with_reducible exact rng_yor _ _ | with_reducible exact rng_zcmp _ _ | with_reducible exact yand7 _ | with_reducible exact rng_toInt _ | with_reducible exact yarr23 (by omega) | with_reducible exact yarr57 (by omega) | with_reducible exact Or.inl rfl | with_reducible exact Or.inr rfl) (fun hc => ?_) (fun hc => ?_)
    · skip
      refine uX11_against_16 (by first | omega | assumption | with_reducible exact rng_ld _ _ _ | with_reducible exact rng_yand _ _ | with_reducible exact rng_yor _ _ | with_reducible exact rng_zcmp _ _ | with_reducible exact yand7 _ | with_reducible exact rng_toInt _ | with_reducible exact yarr23 (by omega) | with_reducible exact yarr57 (by omega) | with_reducible exact Or.inl rfl | with_reducible exact Or.inr rfl) (by first | omega | assumption | with_reducible exact rng_ld _ _ _ | with_reducible exact rng_yand _ _ | with_reducible exact rng_yor _ _ | with_reducible exact rng_zcmp _ _ | with_reducible exact yand7 _ | with_reducible exact rng_toInt _ | with_reducible exact yarr23 (by omega) | with_reducible exact yarr57 (by omega) | with_reducible exact Or.inl rfl | with_reducible exact Or.inr rfl) ?_
      refine c6_bw   (fun vb p3a => ?_)
      have mb := mulb (a := ld M 1 0) (b := vb) (by omega) (by omega)
      refine uX11_against_47 (by first | omega | assumption | with_reducible exact rng_ld _ _ _ | with_reducible exact rng_yand _ _ | with_reducible exact rng_yor _ _ | with_reducible exact rng_zcmp _ _ | with_reducible exact yand7 _ | with_reducible exact rng_toInt _ | with_reducible exact yarr23 (by omega) | with_reducible exact yarr57 (by omega) | with_reducible exact Or.inl rfl | with_reducible exact Or.inr rfl) (fun hc => ?_) (fun hc => ?_)
      · skip
        have ht1 := yterm83 (j := x1) (by omega)
        have ht2 := yterm83 (j := x2) (by omega)
        refine uX11_against_56 (by first | omega | assumption | with_reducible exact rng_ld _ _ _ | with_reducible exact rng_yand _ _ | with_reducible exact rng_yor _ _ | with_reducible exact rng_zcmp _ _ | with_reducible exact yand7 _ | with_reducible exact rng_toInt _ | with_reducible exact yarr23 (by omega) | with_reducible exact yarr57 (by omega) | with_reducible exact Or.inl rfl | with_reducible exact Or.inr rfl) (by first | omega | assumption | with_reducible exact rng_ld _ _ _ | with_reducible exact rng_yand _ _ | with_reducible exact rng_yor _ _ | with_reducible exact rng_zcmp _ _ | with_reducible exact yand7 _ | with_reducible exact rng_toInt _ | with_reducible exact yarr23 (by omega) | with_reducible exact yarr57 (by omega) | with_reducible exact Or.inl rfl | with_reducible exact Or.inr rfl) ?_
        refine XC.deep (c2_leastDifference  (d := 0) (by first | omega | assumption | with_reducible exact rng_ld _ _ _ | with_reducible exact rng_yand _ _ | with_reducible exact rng_yor _ _ | with_reducible exact rng_zcmp _ _ | with_reducible exact yand7 _ | with_reducible exact rng_toInt _ | with_reducible exact yarr23 (by omega) | with_reducible exact yarr57 (by omega) | with_reducible exact Or.inl rfl | with_reducible exact Or.inr rfl) (by first | omega | assumption | with_reducible exact rng_ld _ _ _ | with_reducible exact rng_yand _ _ | with_reducible exact rng_yor _ _ | with_reducible exact rng_zcmp _ _ | with_reducible exact yand7 _ | with_reducible exact rng_toInt _ | with_reducible exact yarr23 (by omega) | with_reducible exact yarr57 (by omega) | with_reducible exact Or.inl rfl | with_reducible exact Or.inr rfl) (by first | omega | assumption | with_reducible exact rng_ld _ _ _ | with_reducible exact rng_yand _ _ | with_reducible exact rng_yor _ _ | with_reducible exact rng_zcmp _ _ | with_reducible exact yand7 _ | with_reducible exact rng_toInt _ | with_reducible exact yarr23 (by omega) | with_reducible exact yarr57 (by omega) | with_reducible exact Or.inl rfl | with_reducible exact Or.inr rfl) (fun v4 M4 fM4 p4a => ?_)) (by omega)
        replace fM := fM.tr fM4 (by intro o j hw; first | omega | exact hw | (dsimp only [wSub, wRun, wNar, wFil, wCan, wLst, wCar, wDr, wFl, wMq, wRd, wRx, wCr, wTab, wTr, wNew, wKi, wKn, wTn, wOb, wPt, wTl, wOq, wFq] at hw; dsimp only [wSub, wRun, wNar, wFil, wCan, wLst, wCar, wDr, wFl, wMq, wRd, wRx, wCr, wTab, wTr, wNew, wKi, wKn, wTn, wOb, wPt, wTl, wOq, wFq]; omega) | (dsimp only [wSub, wRun, wNar, wFil, wCan, wLst, wCar, wDr, wFl, wMq, wRd, wRx, wCr, wTab, wTr, wNew, wKi, wKn, wTn, wOb, wPt, wTl, wOq, wFq]; omega) | (dsimp only [wSub, wRun, wNar, wFil, wCan, wLst, wCar, wDr, wFl, wMq, wRd, wRx, wCr, wTab, wTr, wNew, wKi, wKn, wTn, wOb, wPt, wTl, wOq, wFq] at hw; omega) | (simp [wSub, wRun, wNar, wFil, wCan, wLst, wCar, wDr, wFl, wMq, wRd, wRx, wCr, wTab, wTr, wNew, wKi, wKn, wTn, wOb, wPt, wTl, wOq, wFq] at hw; simp [wSub, wRun, wNar, wFil, wCan, wLst, wCar, wDr, wFl, wMq, wRd, wRx, wCr, wTab, wTr, wNew, wKi, wKn, wTn, wOb, wPt, wTl, wOq, wFq]; omega))
        have k1_0 := fM.ld (o := 1) (j := 0) (by intro hw; first | omega | (dsimp only [wSub, wRun, wNar, wFil, wCan, wLst, wCar, wDr, wFl, wMq, wRd, wRx, wCr, wTab, wTr, wNew, wKi, wKn, wTn, wOb, wPt, wTl, wOq, wFq] at hw; omega) | (simp [wSub, wRun, wNar, wFil, wCan, wLst, wCar, wDr, wFl, wMq, wRd, wRx, wCr, wTab, wTr, wNew, wKi, wKn, wTn, wOb, wPt, wTl, wOq, wFq] at hw; done) | (simp [wSub, wRun, wNar, wFil, wCan, wLst, wCar, wDr, wFl, wMq, wRd, wRx, wCr, wTab, wTr, wNew, wKi, wKn, wTn, wOb, wPt, wTl, wOq, wFq] at hw; omega))
        refine uX11_against_75 ?_
        exact kont _ _ fM 
      · skip
        refine uX11_against_53 ?_
        exact kont _ _ fM 
    · skip
      refine uX11_against_14 ?_
      exact kont _ _ fM 
theorem n11_carried {d : Nat} {Q : Int → yM → Prop} {M : yM} {x1 : Int} {x2 : Int}  (hk : 1 ≤ ld M 1 0 ∧ ld M 1 0 ≤ 8) (r1 : yR x1) (r2 : yR x2) (kont : ∀ (v : Int) (M' : yM), fr (wCar) M M' → Q v M') : XCi (d + 34) 106 [.inr (.inr 0), .inl x1, .inl x2] M Q := by
  refine eX11_carried ?_
  have fM : fr (wCar) M M := fr.rf
  refine uX11_carried_0 (by first | omega | assumption | with_reducible exact rng_ld _ _ _ | with_reducible exact rng_yand _ _ | with_reducible exact rng_yor _ _ | with_reducible exact rng_zcmp _ _ | with_reducible exact yand7 _ | with_reducible exact rng_toInt _ | with_reducible exact yarr23 (by omega) | with_reducible exact yarr57 (by omega) | with_reducible exact Or.inl rfl | with_reducible exact Or.inr rfl) (fun hc => ?_) (fun hc => ?_)
  · skip
    refine uX11_carried_17 ?_
    exact kont _ _ fM 
  · skip
    refine uX11_carried_5 (by first | omega | assumption | with_reducible exact rng_ld _ _ _ | with_reducible exact rng_yand _ _ | with_reducible exact rng_yor _ _ | with_reducible exact rng_zcmp _ _ | with_reducible exact yand7 _ | with_reducible exact rng_toInt _ | with_reducible exact yarr23 (by omega) | with_reducible exact yarr57 (by omega) | with_reducible exact Or.inl rfl | with_reducible exact Or.inr rfl) (fun hc => ?_) (fun hc => ?_)
    · skip
      refine uX11_carried_17 ?_
      exact kont _ _ fM 
    · skip
      refine uX11_carried_10 ?_
      refine c11_isChoice  (by first | omega | assumption | with_reducible exact rng_ld _ _ _ | with_reducible exact rng_yand _ _ | with_reducible exact rng_yor _ _ | with_reducible exact rng_zcmp _ _ | with_reducible exact yand7 _ | with_reducible exact rng_toInt _ | with_reducible exact yarr23 (by omega) | with_reducible exact yarr57 (by omega) | with_reducible exact Or.inl rfl | with_reducible exact Or.inr rfl) (fun v1 p1a => ?_)
      refine uX11_carried_14 (by first | omega | assumption | with_reducible exact rng_ld _ _ _ | with_reducible exact rng_yand _ _ | with_reducible exact rng_yor _ _ | with_reducible exact rng_zcmp _ _ | with_reducible exact yand7 _ | with_reducible exact rng_toInt _ | with_reducible exact yarr23 (by omega) | with_reducible exact yarr57 (by omega) | with_reducible exact Or.inl rfl | with_reducible exact Or.inr rfl) (fun hc => ?_) (fun hc => ?_)
      · skip
        refine uX11_carried_19 ?_
        refine XC.deep (c0_rowsOf  (d := 0) (by first | omega | assumption | with_reducible exact rng_ld _ _ _ | with_reducible exact rng_yand _ _ | with_reducible exact rng_yor _ _ | with_reducible exact rng_zcmp _ _ | with_reducible exact yand7 _ | with_reducible exact rng_toInt _ | with_reducible exact yarr23 (by omega) | with_reducible exact yarr57 (by omega) | with_reducible exact Or.inl rfl | with_reducible exact Or.inr rfl) (by first | omega | assumption | with_reducible exact rng_ld _ _ _ | with_reducible exact rng_yand _ _ | with_reducible exact rng_yor _ _ | with_reducible exact rng_zcmp _ _ | with_reducible exact yand7 _ | with_reducible exact rng_toInt _ | with_reducible exact yarr23 (by omega) | with_reducible exact yarr57 (by omega) | with_reducible exact Or.inl rfl | with_reducible exact Or.inr rfl) (fun v2 M2 fM2 p2a => ?_)) (by omega)
        replace fM := fM.tr fM2 (by intro o j hw; first | omega | exact hw | (dsimp only [wSub, wRun, wNar, wFil, wCan, wLst, wCar, wDr, wFl, wMq, wRd, wRx, wCr, wTab, wTr, wNew, wKi, wKn, wTn, wOb, wPt, wTl, wOq, wFq] at hw; dsimp only [wSub, wRun, wNar, wFil, wCan, wLst, wCar, wDr, wFl, wMq, wRd, wRx, wCr, wTab, wTr, wNew, wKi, wKn, wTn, wOb, wPt, wTl, wOq, wFq]; omega) | (dsimp only [wSub, wRun, wNar, wFil, wCan, wLst, wCar, wDr, wFl, wMq, wRd, wRx, wCr, wTab, wTr, wNew, wKi, wKn, wTn, wOb, wPt, wTl, wOq, wFq]; omega) | (dsimp only [wSub, wRun, wNar, wFil, wCan, wLst, wCar, wDr, wFl, wMq, wRd, wRx, wCr, wTab, wTr, wNew, wKi, wKn, wTn, wOb, wPt, wTl, wOq, wFq] at hw; omega) | (simp [wSub, wRun, wNar, wFil, wCan, wLst, wCar, wDr, wFl, wMq, wRd, wRx, wCr, wTab, wTr, wNew, wKi, wKn, wTn, wOb, wPt, wTl, wOq, wFq] at hw; simp [wSub, wRun, wNar, wFil, wCan, wLst, wCar, wDr, wFl, wMq, wRd, wRx, wCr, wTab, wTr, wNew, wKi, wKn, wTn, wOb, wPt, wTl, wOq, wFq]; omega))
        have k1_0 := fM.ld (o := 1) (j := 0) (by intro hw; first | omega | (dsimp only [wSub, wRun, wNar, wFil, wCan, wLst, wCar, wDr, wFl, wMq, wRd, wRx, wCr, wTab, wTr, wNew, wKi, wKn, wTn, wOb, wPt, wTl, wOq, wFq] at hw; omega) | (simp [wSub, wRun, wNar, wFil, wCan, wLst, wCar, wDr, wFl, wMq, wRd, wRx, wCr, wTab, wTr, wNew, wKi, wKn, wTn, wOb, wPt, wTl, wOq, wFq] at hw; done) | (simp [wSub, wRun, wNar, wFil, wCan, wLst, wCar, wDr, wFl, wMq, wRd, wRx, wCr, wTab, wTr, wNew, wKi, wKn, wTn, wOb, wPt, wTl, wOq, wFq] at hw; omega))
        refine uX11_carried_27 (by first | omega | assumption | with_reducible exact rng_ld _ _ _ | with_reducible exact rng_yand _ _ | with_reducible exact rng_yor _ _ | with_reducible exact rng_zcmp _ _ | with_reducible exact yand7 _ | with_reducible exact rng_toInt _ | with_reducible exact yarr23 (by omega) | with_reducible exact yarr57 (by omega) | with_reducible exact Or.inl rfl | with_reducible exact Or.inr rfl) (fun hc => ?_) (fun hc => ?_)
        · skip
          refine uX11_carried_38 (by first | omega | assumption | with_reducible exact rng_ld _ _ _ | with_reducible exact rng_yand _ _ | with_reducible exact rng_yor _ _ | with_reducible exact rng_zcmp _ _ | with_reducible exact yand7 _ | with_reducible exact rng_toInt _ | with_reducible exact yarr23 (by omega) | with_reducible exact yarr57 (by omega) | with_reducible exact Or.inl rfl | with_reducible exact Or.inr rfl) (fun hc => ?_) (fun hc => ?_)
          · skip
            refine uX11_carried_46 ?_
            refine XC.deep (c0_wholesOf  (d := 0) (by first | omega | assumption | with_reducible exact rng_ld _ _ _ | with_reducible exact rng_yand _ _ | with_reducible exact rng_yor _ _ | with_reducible exact rng_zcmp _ _ | with_reducible exact yand7 _ | with_reducible exact rng_toInt _ | with_reducible exact yarr23 (by omega) | with_reducible exact yarr57 (by omega) | with_reducible exact Or.inl rfl | with_reducible exact Or.inr rfl) (by first | omega | assumption | with_reducible exact rng_ld _ _ _ | with_reducible exact rng_yand _ _ | with_reducible exact rng_yor _ _ | with_reducible exact rng_zcmp _ _ | with_reducible exact yand7 _ | with_reducible exact rng_toInt _ | with_reducible exact yarr23 (by omega) | with_reducible exact yarr57 (by omega) | with_reducible exact Or.inl rfl | with_reducible exact Or.inr rfl) (fun v3 M3 fM3 p3a => ?_)) (by omega)
            replace fM := fM.tr fM3 (by intro o j hw; first | omega | exact hw | (dsimp only [wSub, wRun, wNar, wFil, wCan, wLst, wCar, wDr, wFl, wMq, wRd, wRx, wCr, wTab, wTr, wNew, wKi, wKn, wTn, wOb, wPt, wTl, wOq, wFq] at hw; dsimp only [wSub, wRun, wNar, wFil, wCan, wLst, wCar, wDr, wFl, wMq, wRd, wRx, wCr, wTab, wTr, wNew, wKi, wKn, wTn, wOb, wPt, wTl, wOq, wFq]; omega) | (dsimp only [wSub, wRun, wNar, wFil, wCan, wLst, wCar, wDr, wFl, wMq, wRd, wRx, wCr, wTab, wTr, wNew, wKi, wKn, wTn, wOb, wPt, wTl, wOq, wFq]; omega) | (dsimp only [wSub, wRun, wNar, wFil, wCan, wLst, wCar, wDr, wFl, wMq, wRd, wRx, wCr, wTab, wTr, wNew, wKi, wKn, wTn, wOb, wPt, wTl, wOq, wFq] at hw; omega) | (simp [wSub, wRun, wNar, wFil, wCan, wLst, wCar, wDr, wFl, wMq, wRd, wRx, wCr, wTab, wTr, wNew, wKi, wKn, wTn, wOb, wPt, wTl, wOq, wFq] at hw; simp [wSub, wRun, wNar, wFil, wCan, wLst, wCar, wDr, wFl, wMq, wRd, wRx, wCr, wTab, wTr, wNew, wKi, wKn, wTn, wOb, wPt, wTl, wOq, wFq]; omega))
            have k1_0 := fM.ld (o := 1) (j := 0) (by intro hw; first | omega | (dsimp only [wSub, wRun, wNar, wFil, wCan, wLst, wCar, wDr, wFl, wMq, wRd, wRx, wCr, wTab, wTr, wNew, wKi, wKn, wTn, wOb, wPt, wTl, wOq, wFq] at hw; omega) | (simp [wSub, wRun, wNar, wFil, wCan, wLst, wCar, wDr, wFl, wMq, wRd, wRx, wCr, wTab, wTr, wNew, wKi, wKn, wTn, wOb, wPt, wTl, wOq, wFq] at hw; done) | (simp [wSub, wRun, wNar, wFil, wCan, wLst, wCar, wDr, wFl, wMq, wRd, wRx, wCr, wTab, wTr, wNew, wKi, wKn, wTn, wOb, wPt, wTl, wOq, wFq] at hw; omega))
            refine uX11_carried_54 ?_
            exact kont _ _ fM 
          · skip
            refine uX11_carried_42 ?_
            refine uX11_carried_54 ?_
            exact kont _ _ fM 
        · skip
          refine uX11_carried_35 ?_
          exact kont _ _ fM 
      · skip
        refine uX11_carried_17 ?_
        exact kont _ _ fM 
abbrev wRsn (o : Nat) (j : Int) : Prop := (69 ≤ o ∧ o ≤ 72) ∨ (24 ≤ o ∧ o ≤ 55) ∨ (o = 22 ∧ 6 ≤ j)
theorem n11_reason {d : Nat} {Q : Int → yM → Prop} {M : yM} {x1 : Int}  (hk : 1 ≤ ld M 1 0 ∧ ld M 1 0 ≤ 8) (hn : 1 ≤ ld M 19 0 ∧ ld M 19 0 ≤ 8) (r1 : yR x1) (kont : ∀ (v : Int) (M' : yM), fr (wRsn) M M' → Q v M') : XCi (d + 35) 100 [.inr (.inr 0), .inl x1] M Q := by
  refine eX11_reason ?_
  have fM : fr (wRsn) M M := fr.rf
  refine uX11_reason_0 ?_
  refine c11_isChoice  (by first | omega | assumption | with_reducible exact rng_ld _ _ _ | with_reducible exact rng_yand _ _ | with_reducible exact rng_yor _ _ | with_reducible exact rng_zcmp _ _ | with_reducible exact yand7 _ | with_reducible exact rng_toInt _ | with_reducible exact yarr23 (by omega) | with_reducible exact yarr57 (by omega) | with_reducible exact Or.inl rfl | with_reducible exact Or.inr rfl) (fun v1 p1a => ?_)
  refine uX11_reason_4 (by first | omega | assumption | with_reducible exact rng_ld _ _ _ | with_reducible exact rng_yand _ _ | with_reducible exact rng_yor _ _ | with_reducible exact rng_zcmp _ _ | with_reducible exact yand7 _ | with_reducible exact rng_toInt _ | with_reducible exact yarr23 (by omega) | with_reducible exact yarr57 (by omega) | with_reducible exact Or.inl rfl | with_reducible exact Or.inr rfl) (fun hc => ?_) (fun hc => ?_)
  · skip
    refine uX11_reason_9 ?_
    refine XC.deep (c6_listPairs  (d := 0) (by first | omega | assumption | with_reducible exact rng_ld _ _ _ | with_reducible exact rng_yand _ _ | with_reducible exact rng_yor _ _ | with_reducible exact rng_zcmp _ _ | with_reducible exact yand7 _ | with_reducible exact rng_toInt _ | with_reducible exact yarr23 (by omega) | with_reducible exact yarr57 (by omega) | with_reducible exact Or.inl rfl | with_reducible exact Or.inr rfl) (by first | omega | assumption | with_reducible exact rng_ld _ _ _ | with_reducible exact rng_yand _ _ | with_reducible exact rng_yor _ _ | with_reducible exact rng_zcmp _ _ | with_reducible exact yand7 _ | with_reducible exact rng_toInt _ | with_reducible exact yarr23 (by omega) | with_reducible exact yarr57 (by omega) | with_reducible exact Or.inl rfl | with_reducible exact Or.inr rfl) (fun v2 M2 fM2 p2a p2b p2c => ?_)) (by omega)
    replace fM := fM.tr fM2 (by intro o j hw; first | omega | exact hw | (dsimp only [wSub, wRun, wNar, wFil, wCan, wLst, wCar, wDr, wFl, wMq, wRd, wRx, wCr, wTab, wTr, wNew, wKi, wKn, wTn, wOb, wPt, wTl, wOq, wFq, wRsn] at hw; dsimp only [wSub, wRun, wNar, wFil, wCan, wLst, wCar, wDr, wFl, wMq, wRd, wRx, wCr, wTab, wTr, wNew, wKi, wKn, wTn, wOb, wPt, wTl, wOq, wFq, wRsn]; omega) | (dsimp only [wSub, wRun, wNar, wFil, wCan, wLst, wCar, wDr, wFl, wMq, wRd, wRx, wCr, wTab, wTr, wNew, wKi, wKn, wTn, wOb, wPt, wTl, wOq, wFq, wRsn]; omega) | (dsimp only [wSub, wRun, wNar, wFil, wCan, wLst, wCar, wDr, wFl, wMq, wRd, wRx, wCr, wTab, wTr, wNew, wKi, wKn, wTn, wOb, wPt, wTl, wOq, wFq, wRsn] at hw; omega) | (simp [wSub, wRun, wNar, wFil, wCan, wLst, wCar, wDr, wFl, wMq, wRd, wRx, wCr, wTab, wTr, wNew, wKi, wKn, wTn, wOb, wPt, wTl, wOq, wFq, wRsn] at hw; simp [wSub, wRun, wNar, wFil, wCan, wLst, wCar, wDr, wFl, wMq, wRd, wRx, wCr, wTab, wTr, wNew, wKi, wKn, wTn, wOb, wPt, wTl, wOq, wFq, wRsn]; omega))
    have k19_0 := fM.ld (o := 19) (j := 0) (by intro hw; first | omega | (dsimp only [wSub, wRun, wNar, wFil, wCan, wLst, wCar, wDr, wFl, wMq, wRd, wRx, wCr, wTab, wTr, wNew, wKi, wKn, wTn, wOb, wPt, wTl, wOq, wFq, wRsn] at hw; omega) | (simp [wSub, wRun, wNar, wFil, wCan, wLst, wCar, wDr, wFl, wMq, wRd, wRx, wCr, wTab, wTr, wNew, wKi, wKn, wTn, wOb, wPt, wTl, wOq, wFq, wRsn] at hw; done) | (simp [wSub, wRun, wNar, wFil, wCan, wLst, wCar, wDr, wFl, wMq, wRd, wRx, wCr, wTab, wTr, wNew, wKi, wKn, wTn, wOb, wPt, wTl, wOq, wFq, wRsn] at hw; omega))
    have k1_0 := fM.ld (o := 1) (j := 0) (by intro hw; first | omega | (dsimp only [wSub, wRun, wNar, wFil, wCan, wLst, wCar, wDr, wFl, wMq, wRd, wRx, wCr, wTab, wTr, wNew, wKi, wKn, wTn, wOb, wPt, wTl, wOq, wFq, wRsn] at hw; omega) | (simp [wSub, wRun, wNar, wFil, wCan, wLst, wCar, wDr, wFl, wMq, wRd, wRx, wCr, wTab, wTr, wNew, wKi, wKn, wTn, wOb, wPt, wTl, wOq, wFq, wRsn] at hw; done) | (simp [wSub, wRun, wNar, wFil, wCan, wLst, wCar, wDr, wFl, wMq, wRd, wRx, wCr, wTab, wTr, wNew, wKi, wKn, wTn, wOb, wPt, wTl, wOq, wFq, wRsn] at hw; omega))
    refine uX11_reason_16 (by first | omega | assumption | with_reducible exact rng_ld _ _ _ | with_reducible exact rng_yand _ _ | with_reducible exact rng_yor _ _ | with_reducible exact rng_zcmp _ _ | with_reducible exact yand7 _ | with_reducible exact rng_toInt _ | with_reducible exact yarr23 (by omega) | with_reducible exact yarr57 (by omega) | with_reducible exact Or.inl rfl | with_reducible exact Or.inr rfl) (fun hc => ?_) (fun hc => ?_)
    · skip
      refine uX11_reason_22 ?_
      refine XC.deep (c6_leastSet  (d := 0) (by first | omega | assumption | with_reducible exact rng_ld _ _ _ | with_reducible exact rng_yand _ _ | with_reducible exact rng_yor _ _ | with_reducible exact rng_zcmp _ _ | with_reducible exact yand7 _ | with_reducible exact rng_toInt _ | with_reducible exact yarr23 (by omega) | with_reducible exact yarr57 (by omega) | with_reducible exact Or.inl rfl | with_reducible exact Or.inr rfl) (by first | omega | assumption | with_reducible exact rng_ld _ _ _ | with_reducible exact rng_yand _ _ | with_reducible exact rng_yor _ _ | with_reducible exact rng_zcmp _ _ | with_reducible exact yand7 _ | with_reducible exact rng_toInt _ | with_reducible exact yarr23 (by omega) | with_reducible exact yarr57 (by omega) | with_reducible exact Or.inl rfl | with_reducible exact Or.inr rfl) (by first | omega | assumption | with_reducible exact rng_ld _ _ _ | with_reducible exact rng_yand _ _ | with_reducible exact rng_yor _ _ | with_reducible exact rng_zcmp _ _ | with_reducible exact yand7 _ | with_reducible exact rng_toInt _ | with_reducible exact yarr23 (by omega) | with_reducible exact yarr57 (by omega) | with_reducible exact Or.inl rfl | with_reducible exact Or.inr rfl) (by first | omega | assumption | with_reducible exact rng_ld _ _ _ | with_reducible exact rng_yand _ _ | with_reducible exact rng_yor _ _ | with_reducible exact rng_zcmp _ _ | with_reducible exact yand7 _ | with_reducible exact rng_toInt _ | with_reducible exact yarr23 (by omega) | with_reducible exact yarr57 (by omega) | with_reducible exact Or.inl rfl | with_reducible exact Or.inr rfl) (fun v3 M3 fM3 p3a => ?_)) (by omega)
      replace fM := fM.tr fM3 (by intro o j hw; first | omega | exact hw | (dsimp only [wSub, wRun, wNar, wFil, wCan, wLst, wCar, wDr, wFl, wMq, wRd, wRx, wCr, wTab, wTr, wNew, wKi, wKn, wTn, wOb, wPt, wTl, wOq, wFq, wRsn] at hw; dsimp only [wSub, wRun, wNar, wFil, wCan, wLst, wCar, wDr, wFl, wMq, wRd, wRx, wCr, wTab, wTr, wNew, wKi, wKn, wTn, wOb, wPt, wTl, wOq, wFq, wRsn]; omega) | (dsimp only [wSub, wRun, wNar, wFil, wCan, wLst, wCar, wDr, wFl, wMq, wRd, wRx, wCr, wTab, wTr, wNew, wKi, wKn, wTn, wOb, wPt, wTl, wOq, wFq, wRsn]; omega) | (dsimp only [wSub, wRun, wNar, wFil, wCan, wLst, wCar, wDr, wFl, wMq, wRd, wRx, wCr, wTab, wTr, wNew, wKi, wKn, wTn, wOb, wPt, wTl, wOq, wFq, wRsn] at hw; omega) | (simp [wSub, wRun, wNar, wFil, wCan, wLst, wCar, wDr, wFl, wMq, wRd, wRx, wCr, wTab, wTr, wNew, wKi, wKn, wTn, wOb, wPt, wTl, wOq, wFq, wRsn] at hw; simp [wSub, wRun, wNar, wFil, wCan, wLst, wCar, wDr, wFl, wMq, wRd, wRx, wCr, wTab, wTr, wNew, wKi, wKn, wTn, wOb, wPt, wTl, wOq, wFq, wRsn]; omega))
      have k19_0 := fM.ld (o := 19) (j := 0) (by intro hw; first | omega | (dsimp only [wSub, wRun, wNar, wFil, wCan, wLst, wCar, wDr, wFl, wMq, wRd, wRx, wCr, wTab, wTr, wNew, wKi, wKn, wTn, wOb, wPt, wTl, wOq, wFq, wRsn] at hw; omega) | (simp [wSub, wRun, wNar, wFil, wCan, wLst, wCar, wDr, wFl, wMq, wRd, wRx, wCr, wTab, wTr, wNew, wKi, wKn, wTn, wOb, wPt, wTl, wOq, wFq, wRsn] at hw; done) | (simp [wSub, wRun, wNar, wFil, wCan, wLst, wCar, wDr, wFl, wMq, wRd, wRx, wCr, wTab, wTr, wNew, wKi, wKn, wTn, wOb, wPt, wTl, wOq, wFq, wRsn] at hw; omega))
      have k1_0 := fM.ld (o := 1) (j := 0) (by intro hw; first | omega | (dsimp only [wSub, wRun, wNar, wFil, wCan, wLst, wCar, wDr, wFl, wMq, wRd, wRx, wCr, wTab, wTr, wNew, wKi, wKn, wTn, wOb, wPt, wTl, wOq, wFq, wRsn] at hw; omega) | (simp [wSub, wRun, wNar, wFil, wCan, wLst, wCar, wDr, wFl, wMq, wRd, wRx, wCr, wTab, wTr, wNew, wKi, wKn, wTn, wOb, wPt, wTl, wOq, wFq, wRsn] at hw; done) | (simp [wSub, wRun, wNar, wFil, wCan, wLst, wCar, wDr, wFl, wMq, wRd, wRx, wCr, wTab, wTr, wNew, wKi, wKn, wTn, wOb, wPt, wTl, wOq, wFq, wRsn] at hw; omega))
      refine uX11_reason_29 (by first | omega | assumption | with_reducible exact rng_ld _ _ _ | with_reducible exact rng_yand _ _ | with_reducible exact rng_yor _ _ | with_reducible exact rng_zcmp _ _ | with_reducible exact yand7 _ | with_reducible exact rng_toInt _ | with_reducible exact yarr23 (by omega) | with_reducible exact yarr57 (by omega) | with_reducible exact Or.inl rfl | with_reducible exact Or.inr rfl) (fun hc => ?_) (fun hc => ?_)
      · skip
        refine uX11_reason_39 (by first | omega | assumption | with_reducible exact rng_ld _ _ _ | with_reducible exact rng_yand _ _ | with_reducible exact rng_yor _ _ | with_reducible exact rng_zcmp _ _ | with_reducible exact yand7 _ | with_reducible exact rng_toInt _ | with_reducible exact yarr23 (by omega) | with_reducible exact yarr57 (by omega) | with_reducible exact Or.inl rfl | with_reducible exact Or.inr rfl) (fun hc => ?_) (fun hc => ?_)
        · skip
          refine uX11_reason_50 ?_
          refine uX11_reason_51 ?_
          exact kont _ _ fM 
        · skip
          refine uX11_reason_43 ?_
          refine cJ6   ?_
          refine uX11_reason_47 ?_
          refine uX11_reason_51 ?_
          exact kont _ _ fM 
      · skip
        refine uX11_reason_36 ?_
        exact kont _ _ fM 
    · skip
      refine uX11_reason_19 ?_
      exact kont _ _ fM 
  · skip
    refine uX11_reason_7 ?_
    exact kont _ _ fM 
