/-! CLASS: NARROWING EXACTLY -/
theorem i64_r (x : Int64) : Int64.ofInt x.toInt = x := Int64.ofInt_toInt x
/-- a bit of a long -/
def lbt (x p : Int) : Bool := (Int64.ofInt x).toBitVec.getLsbD p.toNat
theorem lbt_zor (a b p : Int) : lbt (zor a b) p = (lbt a p || lbt b p) := by
  unfold lbt zor
  rw [i64_r, Int64.toBitVec_or, BitVec.getLsbD_or]
theorem lbt_zand (a b p : Int) : lbt (zand a b) p = (lbt a p && lbt b p) := by
  unfold lbt zand
  rw [i64_r, Int64.toBitVec_and, BitVec.getLsbD_and]
theorem lbt_0 (p : Int) : lbt 0 p = false := by
  unfold lbt
  rw [show (Int64.ofInt 0).toBitVec = 0#64 from rfl, BitVec.getLsbD_zero]
theorem zsh_k : ∀ q : Nat, q < 64 → (Int64.ofInt (zshl 1 (q : Int))).toBitVec = BitVec.twoPow 64 q := by decide +kernel
theorem lbt_one {q : Int} (hq : 0 ≤ q ∧ q < 64) {p : Int} (hp : 0 ≤ p) : lbt (zshl 1 q) p = decide (p = q) := by
  obtain ⟨n, rfl⟩ := Int.eq_ofNat_of_zero_le hq.1
  unfold lbt
  rw [zsh_k n (by omega), BitVec.getLsbD_twoPow]
  by_cases e : p = n
  · rw [decide_eq_true e]
    simp only [Bool.and_eq_true, decide_eq_true_eq]
    omega
  · rw [decide_eq_false e]
    simp only [Bool.and_eq_false_imp, decide_eq_true_eq, decide_eq_false_iff_not]
    omega
theorem lbt_pb {a b : Int} (ha : 0 ≤ a ∧ a < 8) (hb : 0 ≤ b ∧ b < 8) {p : Int} (hp : 0 ≤ p) : lbt (pbit a b) p = decide (p = if a < b then 8 * a + b else 8 * b + a) := by
  unfold pbit
  exact lbt_one (by split <;> omega) hp
theorem bv_pred (x : BitVec 64) : x - 1#64 = ~~~(-x) := by
  apply BitVec.eq_of_toNat_eq
  simp only [BitVec.toNat_sub, BitVec.toNat_not, BitVec.toNat_neg, BitVec.toNat_ofNat]
  have := x.isLt
  omega
/-- the lowest bit is found and goes -/
theorem low64x (x : BitVec 64) (h : x ≠ 0#64) : ∃ t : Nat, t < 64 ∧ x &&& -x = BitVec.twoPow 64 t ∧ x.getLsbD t = true ∧ ∀ i, i < 64 → (x &&& (x - 1#64)).getLsbD i = (x.getLsbD i && !decide (i = t)) := by
  have h1 : ∃ i, x.getLsbD i = true := by
    apply Classical.byContradiction
    intro q
    apply h
    apply BitVec.eq_of_getLsbD_eq
    intro i hi
    simp only [BitVec.getLsbD_zero]
    cases hx : x.getLsbD i with
    | false => rfl
    | true => exact absurd ⟨i, hx⟩ q
  have h2 : ∃ t, x.getLsbD t = true ∧ ∀ j, j < t → x.getLsbD j = false := by
    obtain ⟨i, hi⟩ := h1
    induction i using Nat.strongRecOn with
    | ind i ih =>
      by_cases q : ∃ j, j < i ∧ x.getLsbD j = true
      · obtain ⟨j, hj, hx⟩ := q
        exact ih j hj hx
      · refine ⟨i, hi, fun j hj => ?_⟩
        cases hx : x.getLsbD j with
        | false => rfl
        | true => exact absurd ⟨j, hj, hx⟩ q
  obtain ⟨t, ht, hlow⟩ := h2
  have ht64 : t < 64 := by
    apply Classical.byContradiction
    intro q
    rw [BitVec.getLsbD_of_ge x t (by omega)] at ht
    cases ht
  have key : ∀ i, i < 64 → (-x).getLsbD i = (if i < t then false else if i = t then true else !x.getLsbD i) := by
    intro i hi
    rw [BitVec.getLsbD_neg]
    by_cases l : i < t
    · have : ¬ ∃ j, j < i ∧ x.getLsbD j = true := fun ⟨j, hj, hx⟩ => by rw [hlow j (by omega)] at hx; cases hx
      rw [if_pos l, hlow i l]
      simp [this]
    · by_cases e : i = t
      · have : ¬ ∃ j, j < i ∧ x.getLsbD j = true := fun ⟨j, hj, hx⟩ => by rw [hlow j (by omega)] at hx; cases hx
        rw [if_neg l, if_pos e]
        subst e
        simp [ht, hi, this]
      · have : ∃ j, j < i ∧ x.getLsbD j = true := ⟨t, by omega, ht⟩
        rw [if_neg l, if_neg e]
        simp [this, hi]
  refine ⟨t, ht64, ?_, ht, fun i hi => ?_⟩
  · apply BitVec.eq_of_getLsbD_eq
    intro i hi
    rw [BitVec.getLsbD_and, key i hi, BitVec.getLsbD_twoPow]
    by_cases l : i < t
    · rw [if_pos l]
      have : ¬ t = i := by omega
      simp [this]
    · by_cases e : i = t
      · subst e
        simp [ht, hi]
      · rw [if_neg l, if_neg e]
        have : ¬ t = i := fun q => e q.symm
        simp [this]
  · rw [bv_pred, BitVec.getLsbD_and, BitVec.getLsbD_not, key i hi]
    by_cases l : i < t
    · rw [if_pos l, hlow i l]
      simp
    · by_cases e : i = t
      · subst e
        simp
      · rw [if_neg l, if_neg e]
        simp [hi, e]
theorem low_x {x : Int} (h : zcmp x 0 ≠ 0) : (0 ≤ bcL (zand x (-x) - 1) ∧ bcL (zand x (-x) - 1) < 64) ∧ lbt x (bcL (zand x (-x) - 1)) = true ∧ ∀ p : Int, 0 ≤ p → p < 64 → lbt (zand x (x - 1)) p = (lbt x p && !decide (p = bcL (zand x (-x) - 1))) := by
  have h0 : (Int64.ofInt x).toBitVec ≠ 0#64 := by
    intro q
    apply h
    have : Int64.ofInt x = Int64.ofInt 0 := Int64.toBitVec_inj.mp (by rw [q]; rfl)
    unfold zcmp
    rw [this]
    decide
  obtain ⟨t, ht, e, e2, e3⟩ := low64x _ h0
  have e4 : zand x (-x) = (Int64.ofBitVec (BitVec.twoPow 64 t)).toInt := by
    unfold zand
    rw [← e, Int64.ofInt_neg]
    rfl
  rw [e4, bcL_low t ht]
  refine ⟨by omega, ?_, fun p p1 p2 => ?_⟩
  · unfold lbt
    rw [Int.toNat_natCast]
    exact e2
  · have w := e3 p.toNat (by omega)
    have e5 : (Int64.ofInt (zand x (x - 1))).toBitVec = (Int64.ofInt x).toBitVec &&& ((Int64.ofInt x).toBitVec - 1#64) := by
      unfold zand
      rw [i64_r, Int64.toBitVec_and, Int64.ofInt_sub]
      rfl
    unfold lbt
    rw [e5, w]
    congr 2
    by_cases q : p = t
    · rw [decide_eq_true q, decide_eq_true (by omega)]
    · rw [decide_eq_false q, decide_eq_false (by omega)]
theorem zcmp_z {x : Int} (h : zcmp x 0 = 0) (p : Int) : lbt x p = false := by
  unfold lbt
  rw [zcmp_0 h]
  exact lbt_0 p
/-- what the class's table says to narrowing -/
def CT (M : yM) (T f : Int → Int) (k : Int) : Prop := ld M 1 0 = k ∧ TH T f k ∧ (∀ a b : Int, Se k a → Se k b → jn M a b = jP T k a b) ∧ ∀ s : Int, Se k s → ld M 4 (yand s 255) = tP f k s
theorem CT.fr {W : Nat → Int → Prop} {M M' : yM} {T f : Int → Int} {k : Int} (h : CT M T f k) (fM : fr W M M') (h1 : ¬ W 1 0) (h4 : ∀ j, ¬ W 4 j) (h5 : ∀ j, ¬ W 5 j) : CT M' T f k := by
  refine ⟨by rw [fM.ld h1]; exact h.1, h.2.1, fun a b ha hb => ?_, fun s hs => by rw [fM.ld (h4 _)]; exact h.2.2.2 s hs⟩
  rw [← h.2.2.1 a b ha hb]
  unfold jn
  rw [fM.ld (h5 _), fM.ld (h5 _), fM.ld (h5 _), fM.ld (h5 _)]
theorem onC_k {T f : Int → Int} {k n i j c : Int} {N : Int → Int} (h : c < n) (q : j = i ∨ j = c) : onL T f k N (lC n i j c) = onL T f k N (lC n i j (c + 1)) := by
  rw [lC_s h]
  simp only [onL]
  rw [if_pos q]
theorem onC_p {T f : Int → Int} {k n i j c v : Int} {N N' : Int → Int} (h : c < n) (q1 : j ≠ i) (q2 : j ≠ c) (hp : PSp T f k N N' i j c v) (hv : v ≠ 0) : onL T f k N (lC n i j c) = onL T f k N' (lC n i j (c + 1)) := by
  rw [lC_s h]
  simp only [onL]
  rw [if_neg (fun q => q.elim q1 q2)]
  rcases hp with ⟨_, e1, e⟩ | ⟨e0, e1, e⟩
  · rw [if_pos e1, e]
  · rw [if_neg e1, if_neg (fun q => hv (by rw [e0, q])), e]
theorem onC_z {T f : Int → Int} {k n i j c v : Int} {N N' : Int → Int} (h : c < n) (q1 : j ≠ i) (q2 : j ≠ c) (hp : PSp T f k N N' i j c v) (hv : v = 0) : onL T f k N (lC n i j c) = N' := by
  rw [lC_s h]
  simp only [onL]
  rw [if_neg (fun q => q.elim q1 q2)]
  rcases hp with ⟨e0, _, _⟩ | ⟨e0, e1, e⟩
  · omega
  · rw [if_neg e1, if_pos (by rw [← e0, hv]), e]
theorem stp_r (T : Int → Int) (k : Int) (N : Int → Int) (i j c : Int) : -2147483648 ≤ stp T k N i j c ∧ stp T k N i j c < 2147483648 := rng_yand _ _
theorem PSp.y {T f : Int → Int} {k i j c v : Int} {X X' : Int → Int} (h : PSp T f k X X' i j c v) : -2147483648 ≤ v ∧ v < 2147483648 := by
  rcases h with ⟨e, _⟩ | ⟨e, _⟩
  · omega
  · rw [e]; exact stp_r _ _ _ _ _ _
theorem he_s {N : Int → Int} {x1 x2 x3 : Int} (h : ∀ i c : Int, 0 ≤ i → i < c → c < x1 → (i < x2 ∨ i = x2 ∧ c < x3) → N (8 * i + c) ≠ 0) (q : N (8 * x2 + x3) ≠ 0) : ∀ i c : Int, 0 ≤ i → i < c → c < x1 → (i < x2 ∨ i = x2 ∧ c < x3 + 1) → N (8 * i + c) ≠ 0 := fun i c a1 a2 a3 a4 => by
  by_cases e : i = x2 ∧ c = x3
  · rw [e.1, e.2]; exact q
  · exact h i c a1 a2 a3 (by omega)
theorem df_s {N N' : Int → Int} {x : Int} (h : ∀ j : Int, 0 ≤ j → j < x → N j = N' j) (q : N x = N' x) : ∀ j : Int, 0 ≤ j → j < x + 1 → N j = N' j := fun j a1 a2 => by
  by_cases e : j = x
  · rw [e]; exact q
  · exact h j a1 (by omega)
theorem n8_pass {d : Nat} {Q : Int → yM → Prop} {M : yM} {x1 : Nat} {x2 : Int} {x3 : Int} {x4 : Int} {T f : Int → Int} {k n : Int} (hA : arrSh x1 64) (p2 : 0 ≤ x2 ∧ x2 < n) (p3 : 0 ≤ x3 ∧ x3 < n) (p4 : 0 ≤ x4 ∧ x4 < n) (p23 : x2 ≠ x3) (p34 : x3 ≠ x4) (p24 : x2 ≠ x4) (hn8 : 1 ≤ n ∧ n ≤ 8) (hx20 : 20 ≤ x1) (hCT : CT M T f k) (hSN : SN f k n (ld M x1)) (kont : ∀ (v : Int) (M' : yM), fr (fun o _ => o = x1) M M' → (v = -1 ∧ stp T k (ld M x1) x2 x3 x4 = ld M x1 (8 * x2 + x4) ∧ ld M' x1 = ld M x1 ∨ v = stp T k (ld M x1) x2 x3 x4 ∧ stp T k (ld M x1) x2 x3 x4 ≠ ld M x1 (8 * x2 + x4) ∧ ld M' x1 = up2 (ld M x1) x2 x4 (stp T k (ld M x1) x2 x3 x4) (tP f k (stp T k (ld M x1) x2 x3 x4))) → Q v M') : XCi (d + 1) 56 [.inr (.inr 21), .inr (.inr x1), .inl x2, .inl x3, .inl x4] M Q := by
  refine eX8_pass ?_
  have fM : fr (fun o _ => o = x1) M M := fr.rf
  have a24 := hSN x2 x4 p2.1 p2.2 p4.1 p4.2 p24
  have a23 := hSN x2 x3 p2.1 p2.2 p3.1 p3.2 p23
  have a34 := hSN x3 x4 p3.1 p3.2 p4.1 p4.2 p34
  have ss := stp_se (T := T) (j := x3) hCT.2.1.1 hSN p2 p4 p24
  have h8 := al_le hCT.2.1.1
  have e37 : yand (ld M x1 (8 * x2 + x4)) (jn M (ld M x1 (8 * x2 + x3)) (ld M x1 (8 * x3 + x4))) = stp T k (ld M x1) x2 x3 x4 := by unfold stp; rw [hCT.2.2.1 _ _ a23.1 a34.1]
  have sr := stp_r T k (ld M x1) x2 x3 x4
  refine uX8_pass_0 (by first | assumption | exact ⟨rfl, Nat.le_of_ble_eq_true rfl⟩ | with_reducible exact yarr23 (by omega) | with_reducible exact yarr57 (by omega)) (by first | omega | assumption | with_reducible exact rng_ld _ _ _ | with_reducible exact rng_yand _ _ | with_reducible exact rng_yor _ _ | with_reducible exact rng_zcmp _ _ | with_reducible exact yand7 _ | with_reducible exact rng_toInt _ | with_reducible exact yarr23 (by omega) | with_reducible exact yarr57 (by omega) | with_reducible exact Or.inl rfl | with_reducible exact Or.inr rfl) (by first | omega | assumption | with_reducible exact rng_ld _ _ _ | with_reducible exact rng_yand _ _ | with_reducible exact rng_yor _ _ | with_reducible exact rng_zcmp _ _ | with_reducible exact yand7 _ | with_reducible exact rng_toInt _ | with_reducible exact yarr23 (by omega) | with_reducible exact yarr57 (by omega) | with_reducible exact Or.inl rfl | with_reducible exact Or.inr rfl) (by first | omega | assumption | with_reducible exact rng_ld _ _ _ | with_reducible exact rng_yand _ _ | with_reducible exact rng_yor _ _ | with_reducible exact rng_zcmp _ _ | with_reducible exact yand7 _ | with_reducible exact rng_toInt _ | with_reducible exact yarr23 (by omega) | with_reducible exact yarr57 (by omega) | with_reducible exact Or.inl rfl | with_reducible exact Or.inr rfl) ?_
  refine c9_joinSets   ?_
  refine uX8_pass_37 (by first | omega | assumption | with_reducible exact rng_ld _ _ _ | with_reducible exact rng_yand _ _ | with_reducible exact rng_yor _ _ | with_reducible exact rng_zcmp _ _ | with_reducible exact yand7 _ | with_reducible exact rng_toInt _ | with_reducible exact yarr23 (by omega) | with_reducible exact yarr57 (by omega) | with_reducible exact Or.inl rfl | with_reducible exact Or.inr rfl) (fun hc => ?_) (fun hc => ?_)
  · skip
    rw [e37] at hc ⊢
    refine uX8_pass_49 (by first | assumption | exact ⟨rfl, Nat.le_of_ble_eq_true rfl⟩ | with_reducible exact yarr23 (by omega) | with_reducible exact yarr57 (by omega)) (by first | omega | assumption | with_reducible exact rng_ld _ _ _ | with_reducible exact rng_yand _ _ | with_reducible exact rng_yor _ _ | with_reducible exact rng_zcmp _ _ | with_reducible exact yand7 _ | with_reducible exact rng_toInt _ | with_reducible exact yarr23 (by omega) | with_reducible exact yarr57 (by omega) | with_reducible exact Or.inl rfl | with_reducible exact Or.inr rfl) ?_
    intro M2 hM2
    replace fM := fr.put fM hM2 (by first | omega | (dsimp only [wSub, wRun, wNar, wFil, wCan, wLst, wCar, wDr, wFl, wMq, wRd, wRx, wCr, wTab, wTr, wNew, wKi, wKn, wTn, wOb, wPt, wTl, wOq]; done) | (dsimp only [wSub, wRun, wNar, wFil, wCan, wLst, wCar, wDr, wFl, wMq, wRd, wRx, wCr, wTab, wTr, wNew, wKi, wKn, wTn, wOb, wPt, wTl, wOq]; omega) | (simp [wSub, wRun, wNar, wFil, wCan, wLst, wCar, wDr, wFl, wMq, wRd, wRx, wCr, wTab, wTr, wNew, wKi, wKn, wTn, wOb, wPt, wTl, wOq]; done) | (simp [wSub, wRun, wNar, wFil, wCan, wLst, wCar, wDr, wFl, wMq, wRd, wRx, wCr, wTab, wTr, wNew, wKi, wKn, wTn, wOb, wPt, wTl, wOq]; omega))
    have e49 := hM2
    have t4 : ld M2 4 (yand (stp T k (ld M x1) x2 x3 x4) 255) = tP f k (stp T k (ld M x1) x2 x3 x4) := by rw [fM.ld (by omega)]; exact hCT.2.2.2 _ ss
    refine uX8_pass_60 ?_
    refine c9_turnSet   ?_
    refine uX8_pass_77 (by first | assumption | exact ⟨rfl, Nat.le_of_ble_eq_true rfl⟩ | with_reducible exact yarr23 (by omega) | with_reducible exact yarr57 (by omega)) (by first | omega | assumption | with_reducible exact rng_ld _ _ _ | with_reducible exact rng_yand _ _ | with_reducible exact rng_yor _ _ | with_reducible exact rng_zcmp _ _ | with_reducible exact yand7 _ | with_reducible exact rng_toInt _ | with_reducible exact yarr23 (by omega) | with_reducible exact yarr57 (by omega) | with_reducible exact Or.inl rfl | with_reducible exact Or.inr rfl) ?_
    intro M4 hM4
    replace fM := fr.put fM hM4 (by first | omega | (dsimp only [wSub, wRun, wNar, wFil, wCan, wLst, wCar, wDr, wFl, wMq, wRd, wRx, wCr, wTab, wTr, wNew, wKi, wKn, wTn, wOb, wPt, wTl, wOq]; done) | (dsimp only [wSub, wRun, wNar, wFil, wCan, wLst, wCar, wDr, wFl, wMq, wRd, wRx, wCr, wTab, wTr, wNew, wKi, wKn, wTn, wOb, wPt, wTl, wOq]; omega) | (simp [wSub, wRun, wNar, wFil, wCan, wLst, wCar, wDr, wFl, wMq, wRd, wRx, wCr, wTab, wTr, wNew, wKi, wKn, wTn, wOb, wPt, wTl, wOq]; done) | (simp [wSub, wRun, wNar, wFil, wCan, wLst, wCar, wDr, wFl, wMq, wRd, wRx, wCr, wTab, wTr, wNew, wKi, wKn, wTn, wOb, wPt, wTl, wOq]; omega))
    rw [t4] at hM4
    have e77 : ld M4 x1 = up2 (ld M x1) x2 x4 (stp T k (ld M x1) x2 x3 x4) (tP f k (stp T k (ld M x1) x2 x3 x4)) := funext fun j => by
      rw [hM4, ld_put (tOf_rng _ _ _), e49, ld_put sr]
      unfold up2
      simp only [true_and]
    refine uX8_pass_78 ?_
    exact kont _ _ fM (Or.inr ⟨rfl, by assumption, e77⟩)
  · skip
    rw [e37] at hc ⊢
    refine uX8_pass_47 ?_
    exact kont _ _ fM (Or.inl ⟨rfl, by assumption, rfl⟩)
theorem n11_hasEmpty {d : Nat} {Q : Int → yM → Prop} {M : yM} {x0 : Nat} {x1 : Int}  (hA : arrSh x0 64) (h8 : 0 ≤ x1 ∧ x1 ≤ 8) (kont : ∀ (v : Int), (v = 1 ∧ emB x1 (ld M x0) = true ∨ v = 0 ∧ emB x1 (ld M x0) = false) → Q v M) : XCi d 117 [.inr (.inr x0), .inl x1] M Q := by
  refine eX11_hasEmpty ?_
  have go : ∀ N : Nat, (∀ (x2 : Int) (wx3 : Option yV), (0 ≤ x2 ∧ x2 ≤ 8) → (∀ i c : Int, 0 ≤ i → i < c → c < x1 → i < x2 → ld M x0 (8 * i + c) ≠ 0) → ((8 - x2) * 40 + 20 < (N : Int)) → XW kX11_hasEmpty d (some .boolean) (wQi Q) 2 [some (.inr (.inr x0)), some (.inl x1), some (.inl x2), wx3] [] M) ∧ (∀ (x2 : Int) (x3 : Int), (0 ≤ x2 ∧ x2 < 8) → (x2 < x3 ∧ x3 ≤ 8) → (∀ i c : Int, 0 ≤ i → i < c → c < x1 → (i < x2 ∨ i = x2 ∧ c < x3) → ld M x0 (8 * i + c) ≠ 0) → ((8 - x2) * 40 + 8 - x3 < (N : Int)) → XW kX11_hasEmpty d (some .boolean) (wQi Q) 11 [some (.inr (.inr x0)), some (.inl x1), some (.inl x2), some (.inl x3)] [] M) := by
    intro N
    induction N with
    | zero => refine ⟨?_, ?_⟩ <;> (intros; exfalso; omega)
    | succ N ih =>
      obtain ⟨ih0, ih1⟩ := ih
      refine ⟨?_, ?_⟩
      · skip
        skip
        intro x2 wx3 i0 i1 hm
        refine uX11_hasEmpty_2 (by first | omega | assumption | with_reducible exact rng_ld _ _ _ | with_reducible exact rng_yand _ _ | with_reducible exact rng_yor _ _ | with_reducible exact rng_zcmp _ _ | with_reducible exact yand7 _ | with_reducible exact rng_toInt _ | with_reducible exact yarr23 (by omega) | with_reducible exact yarr57 (by omega) | with_reducible exact Or.inl rfl | with_reducible exact Or.inr rfl) (by first | omega | assumption | with_reducible exact rng_ld _ _ _ | with_reducible exact rng_yand _ _ | with_reducible exact rng_yor _ _ | with_reducible exact rng_zcmp _ _ | with_reducible exact yand7 _ | with_reducible exact rng_toInt _ | with_reducible exact yarr23 (by omega) | with_reducible exact yarr57 (by omega) | with_reducible exact Or.inl rfl | with_reducible exact Or.inr rfl) (fun hc => ?_) (fun hc => ?_)
        · skip
          refine uX11_hasEmpty_41 ?_
          exact kont _ (Or.inr ⟨rfl, emB_f h8.2 (fun i c a1 a2 a3 => i1 i c a1 a2 a3 (by omega))⟩)
        · skip
          refine uX11_hasEmpty_7 ?_
          exact ih1 _ _  (by first | omega | assumption | with_reducible exact rng_ld _ _ _ | with_reducible exact rng_yand _ _ | with_reducible exact rng_yor _ _ | with_reducible exact rng_zcmp _ _ | with_reducible exact yand7 _ | with_reducible exact rng_toInt _ | with_reducible exact yarr23 (by omega) | with_reducible exact yarr57 (by omega) | with_reducible exact Or.inl rfl | with_reducible exact Or.inr rfl) (by first | omega | assumption | with_reducible exact rng_ld _ _ _ | with_reducible exact rng_yand _ _ | with_reducible exact rng_yor _ _ | with_reducible exact rng_zcmp _ _ | with_reducible exact yand7 _ | with_reducible exact rng_toInt _ | with_reducible exact yarr23 (by omega) | with_reducible exact yarr57 (by omega) | with_reducible exact Or.inl rfl | with_reducible exact Or.inr rfl) (by first | exact he_s i2 (by assumption) | exact (fun i c a1 a2 a3 a4 => i1 i c a1 a2 a3 (by omega))) (by omega)
      · skip
        skip
        intro x2 x3 i0 i1 i2 hm
        refine uX11_hasEmpty_11 (by first | omega | assumption | with_reducible exact rng_ld _ _ _ | with_reducible exact rng_yand _ _ | with_reducible exact rng_yor _ _ | with_reducible exact rng_zcmp _ _ | with_reducible exact yand7 _ | with_reducible exact rng_toInt _ | with_reducible exact yarr23 (by omega) | with_reducible exact yarr57 (by omega) | with_reducible exact Or.inl rfl | with_reducible exact Or.inr rfl) (by first | omega | assumption | with_reducible exact rng_ld _ _ _ | with_reducible exact rng_yand _ _ | with_reducible exact rng_yor _ _ | with_reducible exact rng_zcmp _ _ | with_reducible exact yand7 _ | with_reducible exact rng_toInt _ | with_reducible exact yarr23 (by omega) | with_reducible exact yarr57 (by omega) | with_reducible exact Or.inl rfl | with_reducible exact Or.inr rfl) (fun hc => ?_) (fun hc => ?_)
        · skip
          refine uX11_hasEmpty_35 ?_
          exact ih0 _ _  (by first | omega | assumption | with_reducible exact rng_ld _ _ _ | with_reducible exact rng_yand _ _ | with_reducible exact rng_yor _ _ | with_reducible exact rng_zcmp _ _ | with_reducible exact yand7 _ | with_reducible exact rng_toInt _ | with_reducible exact yarr23 (by omega) | with_reducible exact yarr57 (by omega) | with_reducible exact Or.inl rfl | with_reducible exact Or.inr rfl) (by first | exact (fun i c a1 a2 a3 a4 => i2 i c a1 a2 a3 (by omega)) | exact (fun i c a1 a2 a3 a4 => absurd a4 (by omega))) (by omega)
        · skip
          refine uX11_hasEmpty_16 (by first | assumption | exact ⟨rfl, Nat.le_of_ble_eq_true rfl⟩ | with_reducible exact yarr23 (by omega) | with_reducible exact yarr57 (by omega)) (by first | omega | assumption | with_reducible exact rng_ld _ _ _ | with_reducible exact rng_yand _ _ | with_reducible exact rng_yor _ _ | with_reducible exact rng_zcmp _ _ | with_reducible exact yand7 _ | with_reducible exact rng_toInt _ | with_reducible exact yarr23 (by omega) | with_reducible exact yarr57 (by omega) | with_reducible exact Or.inl rfl | with_reducible exact Or.inr rfl) (fun hc => ?_) (fun hc => ?_)
          · skip
            refine uX11_hasEmpty_29 ?_
            exact ih1 _ _  (by first | omega | assumption | with_reducible exact rng_ld _ _ _ | with_reducible exact rng_yand _ _ | with_reducible exact rng_yor _ _ | with_reducible exact rng_zcmp _ _ | with_reducible exact yand7 _ | with_reducible exact rng_toInt _ | with_reducible exact yarr23 (by omega) | with_reducible exact yarr57 (by omega) | with_reducible exact Or.inl rfl | with_reducible exact Or.inr rfl) (by first | omega | assumption | with_reducible exact rng_ld _ _ _ | with_reducible exact rng_yand _ _ | with_reducible exact rng_yor _ _ | with_reducible exact rng_zcmp _ _ | with_reducible exact yand7 _ | with_reducible exact rng_toInt _ | with_reducible exact yarr23 (by omega) | with_reducible exact yarr57 (by omega) | with_reducible exact Or.inl rfl | with_reducible exact Or.inr rfl) (by first | exact he_s i2 (by assumption) | exact (fun i c a1 a2 a3 a4 => i1 i c a1 a2 a3 (by omega))) (by omega)
          · skip
            refine uX11_hasEmpty_27 ?_
            exact kont _ (Or.inl ⟨rfl, (emB_iff h8.2).mpr ⟨x2, x3, by omega, by omega, by omega, by assumption⟩⟩)
  refine uX11_hasEmpty_0 ?_
  exact (go 1000000).1 _ _  (by first | omega | assumption | with_reducible exact rng_ld _ _ _ | with_reducible exact rng_yand _ _ | with_reducible exact rng_yor _ _ | with_reducible exact rng_zcmp _ _ | with_reducible exact yand7 _ | with_reducible exact rng_toInt _ | with_reducible exact yarr23 (by omega) | with_reducible exact yarr57 (by omega) | with_reducible exact Or.inl rfl | with_reducible exact Or.inr rfl) (by first | exact (fun i c a1 a2 a3 a4 => i2 i c a1 a2 a3 (by omega)) | exact (fun i c a1 a2 a3 a4 => absurd a4 (by omega))) (by omega)
theorem n4_once {d : Nat} {Q : Int → yM → Prop} {M : yM} {x1 : Nat} {T f : Int → Int} {k n : Int} (hA : arrSh x1 64) (hn : ld M 19 0 = n) (hn8 : 1 ≤ n ∧ n ≤ 8) (hx20 : 20 ≤ x1) (hCT : CT M T f k) (hSN : SN f k n (ld M x1)) (kont : ∀ (v : Int) (M' : yM), fr (fun o _ => o = x1) M M' → (v = 1) → (ld M' x1 = onceP T f k n (ld M x1)) → Q v M') : XCi (d + 2) 29 [.inr (.inr 56), .inr (.inr x1)] M Q := by
  refine eX4_once ?_
  have fM : fr (fun o _ => o = x1) M M := fr.rf
  have hk8 := hCT.2.1.1
  have go : ∀ N : Nat, (∀ (x2 : Int) (x3 : Int) (wx4 : Option yV) (wx5 : Option yV) (M9 : yM), fr (fun o _ => o = x1) M M9 → (x2 = n) → (0 ≤ x3 ∧ x3 ≤ n) → (SN f k n (ld M9 x1)) → (onL T f k (ld M x1) (lI n 0) = onL T f k (ld M9 x1) (lI n x3)) → (emB n (ld M x1) = false) → ((8 - x3) * 10000 + 5000 < (N : Int)) → XW kX4_once (d + 2) (some .int) (wQi Q) 20 [some (.inr (.inr 56)), some (.inr (.inr x1)), some (.inl x2), some (.inl x3), wx4, wx5] [] M9) ∧ (∀ (x2 : Int) (x3 : Int) (x4 : Int) (wx5 : Option yV) (M9 : yM), fr (fun o _ => o = x1) M M9 → (x2 = n) → (0 ≤ x3 ∧ x3 < n) → (0 ≤ x4 ∧ x4 ≤ n) → (SN f k n (ld M9 x1)) → (onL T f k (ld M x1) (lI n 0) = onL T f k (ld M9 x1) (lJ n x3 x4)) → (emB n (ld M x1) = false) → ((8 - x3) * 10000 + (8 - x4) * 100 + 50 < (N : Int)) → XW kX4_once (d + 2) (some .int) (wQi Q) 28 [some (.inr (.inr 56)), some (.inr (.inr x1)), some (.inl x2), some (.inl x3), some (.inl x4), wx5] [] M9) ∧ (∀ (x2 : Int) (x3 : Int) (x4 : Int) (x5 : Int) (M9 : yM), fr (fun o _ => o = x1) M M9 → (x2 = n) → (0 ≤ x3 ∧ x3 < n) → (0 ≤ x4 ∧ x4 < n) → (x3 < x5 ∧ x5 ≤ n) → (SN f k n (ld M9 x1)) → (onL T f k (ld M x1) (lI n 0) = onL T f k (ld M9 x1) (lC n x3 x4 x5)) → (emB n (ld M x1) = false) → ((8 - x3) * 10000 + (8 - x4) * 100 + 8 - x5 < (N : Int)) → XW kX4_once (d + 2) (some .int) (wQi Q) 39 [some (.inr (.inr 56)), some (.inr (.inr x1)), some (.inl x2), some (.inl x3), some (.inl x4), some (.inl x5)] [] M9) := by
    intro N
    induction N with
    | zero => refine ⟨?_, ?_, ?_⟩ <;> (intros; exfalso; omega)
    | succ N ih =>
      obtain ⟨ih0, ih1, ih2⟩ := ih
      refine ⟨?_, ?_, ?_⟩
      · skip
        clear fM
        intro x2 x3 wx4 wx5 M1 fM i0 i1 i2 i3 i4 hm
        refine uX4_once_20 (by first | omega | assumption | with_reducible exact rng_ld _ _ _ | with_reducible exact rng_yand _ _ | with_reducible exact rng_yor _ _ | with_reducible exact rng_zcmp _ _ | with_reducible exact yand7 _ | with_reducible exact rng_toInt _ | with_reducible exact yarr23 (by omega) | with_reducible exact yarr57 (by omega) | with_reducible exact Or.inl rfl | with_reducible exact Or.inr rfl) (by first | omega | assumption | with_reducible exact rng_ld _ _ _ | with_reducible exact rng_yand _ _ | with_reducible exact rng_yor _ _ | with_reducible exact rng_zcmp _ _ | with_reducible exact yand7 _ | with_reducible exact rng_toInt _ | with_reducible exact yarr23 (by omega) | with_reducible exact yarr57 (by omega) | with_reducible exact Or.inl rfl | with_reducible exact Or.inr rfl) (fun hc => ?_) (fun hc => ?_)
        · skip
          refine uX4_once_94 ?_
          exact kont _ _ fM (by first | omega | assumption | with_reducible exact rng_ld _ _ _ | with_reducible exact rng_yand _ _ | with_reducible exact rng_yor _ _ | with_reducible exact rng_zcmp _ _ | with_reducible exact yand7 _ | with_reducible exact rng_toInt _ | with_reducible exact yarr23 (by omega) | with_reducible exact yarr57 (by omega) | with_reducible exact Or.inl rfl | with_reducible exact Or.inr rfl) (by unfold onceP; rw [if_neg (by rw [i4]; decide), i3, lI_e (by omega)]; rfl)
        · skip
          refine uX4_once_25 ?_
          exact ih1 _ _ _ _ M1 fM (by first | omega | assumption | with_reducible exact rng_ld _ _ _ | with_reducible exact rng_yand _ _ | with_reducible exact rng_yor _ _ | with_reducible exact rng_zcmp _ _ | with_reducible exact yand7 _ | with_reducible exact rng_toInt _ | with_reducible exact yarr23 (by omega) | with_reducible exact yarr57 (by omega) | with_reducible exact Or.inl rfl | with_reducible exact Or.inr rfl) (by first | omega | assumption | with_reducible exact rng_ld _ _ _ | with_reducible exact rng_yand _ _ | with_reducible exact rng_yor _ _ | with_reducible exact rng_zcmp _ _ | with_reducible exact yand7 _ | with_reducible exact rng_toInt _ | with_reducible exact yarr23 (by omega) | with_reducible exact yarr57 (by omega) | with_reducible exact Or.inl rfl | with_reducible exact Or.inr rfl) (by first | omega | assumption | with_reducible exact rng_ld _ _ _ | with_reducible exact rng_yand _ _ | with_reducible exact rng_yor _ _ | with_reducible exact rng_zcmp _ _ | with_reducible exact yand7 _ | with_reducible exact rng_toInt _ | with_reducible exact yarr23 (by omega) | with_reducible exact yarr57 (by omega) | with_reducible exact Or.inl rfl | with_reducible exact Or.inr rfl) (by assumption) (by first | (rw [← lI_s (by omega)]; assumption) | (rw [← lC_e (n := n) (i := x3) (j := x4) (c := x5) (by omega)]; assumption)) (by first | omega | assumption | with_reducible exact rng_ld _ _ _ | with_reducible exact rng_yand _ _ | with_reducible exact rng_yor _ _ | with_reducible exact rng_zcmp _ _ | with_reducible exact yand7 _ | with_reducible exact rng_toInt _ | with_reducible exact yarr23 (by omega) | with_reducible exact yarr57 (by omega) | with_reducible exact Or.inl rfl | with_reducible exact Or.inr rfl) (by omega)
      · skip
        clear fM
        intro x2 x3 x4 wx5 M2 fM i0 i1 i2 i3 i4 i5 hm
        refine uX4_once_28 (by first | omega | assumption | with_reducible exact rng_ld _ _ _ | with_reducible exact rng_yand _ _ | with_reducible exact rng_yor _ _ | with_reducible exact rng_zcmp _ _ | with_reducible exact yand7 _ | with_reducible exact rng_toInt _ | with_reducible exact yarr23 (by omega) | with_reducible exact yarr57 (by omega) | with_reducible exact Or.inl rfl | with_reducible exact Or.inr rfl) (by first | omega | assumption | with_reducible exact rng_ld _ _ _ | with_reducible exact rng_yand _ _ | with_reducible exact rng_yor _ _ | with_reducible exact rng_zcmp _ _ | with_reducible exact yand7 _ | with_reducible exact rng_toInt _ | with_reducible exact yarr23 (by omega) | with_reducible exact yarr57 (by omega) | with_reducible exact Or.inl rfl | with_reducible exact Or.inr rfl) (fun hc => ?_) (fun hc => ?_)
        · skip
          refine uX4_once_88 ?_
          exact ih0 _ _ _ _ M2 fM (by first | omega | assumption | with_reducible exact rng_ld _ _ _ | with_reducible exact rng_yand _ _ | with_reducible exact rng_yor _ _ | with_reducible exact rng_zcmp _ _ | with_reducible exact yand7 _ | with_reducible exact rng_toInt _ | with_reducible exact yarr23 (by omega) | with_reducible exact yarr57 (by omega) | with_reducible exact Or.inl rfl | with_reducible exact Or.inr rfl) (by first | omega | assumption | with_reducible exact rng_ld _ _ _ | with_reducible exact rng_yand _ _ | with_reducible exact rng_yor _ _ | with_reducible exact rng_zcmp _ _ | with_reducible exact yand7 _ | with_reducible exact rng_toInt _ | with_reducible exact yarr23 (by omega) | with_reducible exact yarr57 (by omega) | with_reducible exact Or.inl rfl | with_reducible exact Or.inr rfl) (by first | exact hSN | assumption) (by first | rfl | (rw [← lJ_e (n := n) (i := x3) (j := x4) (by omega)]; assumption)) (by first | omega | assumption | with_reducible exact rng_ld _ _ _ | with_reducible exact rng_yand _ _ | with_reducible exact rng_yor _ _ | with_reducible exact rng_zcmp _ _ | with_reducible exact yand7 _ | with_reducible exact rng_toInt _ | with_reducible exact yarr23 (by omega) | with_reducible exact yarr57 (by omega) | with_reducible exact Or.inl rfl | with_reducible exact Or.inr rfl) (by omega)
        · skip
          refine uX4_once_34 ?_
          exact ih2 _ _ _ _ M2 fM (by first | omega | assumption | with_reducible exact rng_ld _ _ _ | with_reducible exact rng_yand _ _ | with_reducible exact rng_yor _ _ | with_reducible exact rng_zcmp _ _ | with_reducible exact yand7 _ | with_reducible exact rng_toInt _ | with_reducible exact yarr23 (by omega) | with_reducible exact yarr57 (by omega) | with_reducible exact Or.inl rfl | with_reducible exact Or.inr rfl) (by first | omega | assumption | with_reducible exact rng_ld _ _ _ | with_reducible exact rng_yand _ _ | with_reducible exact rng_yor _ _ | with_reducible exact rng_zcmp _ _ | with_reducible exact yand7 _ | with_reducible exact rng_toInt _ | with_reducible exact yarr23 (by omega) | with_reducible exact yarr57 (by omega) | with_reducible exact Or.inl rfl | with_reducible exact Or.inr rfl) (by first | omega | assumption | with_reducible exact rng_ld _ _ _ | with_reducible exact rng_yand _ _ | with_reducible exact rng_yor _ _ | with_reducible exact rng_zcmp _ _ | with_reducible exact yand7 _ | with_reducible exact rng_toInt _ | with_reducible exact yarr23 (by omega) | with_reducible exact yarr57 (by omega) | with_reducible exact Or.inl rfl | with_reducible exact Or.inr rfl) (by first | omega | assumption | with_reducible exact rng_ld _ _ _ | with_reducible exact rng_yand _ _ | with_reducible exact rng_yor _ _ | with_reducible exact rng_zcmp _ _ | with_reducible exact yand7 _ | with_reducible exact rng_toInt _ | with_reducible exact yarr23 (by omega) | with_reducible exact yarr57 (by omega) | with_reducible exact Or.inl rfl | with_reducible exact Or.inr rfl) (by first | exact s58 | assumption) (by first | (rw [← lJ_s (by omega)]; assumption) | exact e58 (by assumption) | exact i5.trans (onC_k (by omega) (by omega))) (by first | omega | assumption | with_reducible exact rng_ld _ _ _ | with_reducible exact rng_yand _ _ | with_reducible exact rng_yor _ _ | with_reducible exact rng_zcmp _ _ | with_reducible exact yand7 _ | with_reducible exact rng_toInt _ | with_reducible exact yarr23 (by omega) | with_reducible exact yarr57 (by omega) | with_reducible exact Or.inl rfl | with_reducible exact Or.inr rfl) (by omega)
      · skip
        clear fM
        intro x2 x3 x4 x5 M3 fM i0 i1 i2 i3 i4 i5 i6 hm
        refine uX4_once_39 (by first | omega | assumption | with_reducible exact rng_ld _ _ _ | with_reducible exact rng_yand _ _ | with_reducible exact rng_yor _ _ | with_reducible exact rng_zcmp _ _ | with_reducible exact yand7 _ | with_reducible exact rng_toInt _ | with_reducible exact yarr23 (by omega) | with_reducible exact yarr57 (by omega) | with_reducible exact Or.inl rfl | with_reducible exact Or.inr rfl) (by first | omega | assumption | with_reducible exact rng_ld _ _ _ | with_reducible exact rng_yand _ _ | with_reducible exact rng_yor _ _ | with_reducible exact rng_zcmp _ _ | with_reducible exact yand7 _ | with_reducible exact rng_toInt _ | with_reducible exact yarr23 (by omega) | with_reducible exact yarr57 (by omega) | with_reducible exact Or.inl rfl | with_reducible exact Or.inr rfl) (fun hc => ?_) (fun hc => ?_)
        · skip
          refine uX4_once_82 ?_
          exact ih1 _ _ _ _ M3 fM (by first | omega | assumption | with_reducible exact rng_ld _ _ _ | with_reducible exact rng_yand _ _ | with_reducible exact rng_yor _ _ | with_reducible exact rng_zcmp _ _ | with_reducible exact yand7 _ | with_reducible exact rng_toInt _ | with_reducible exact yarr23 (by omega) | with_reducible exact yarr57 (by omega) | with_reducible exact Or.inl rfl | with_reducible exact Or.inr rfl) (by first | omega | assumption | with_reducible exact rng_ld _ _ _ | with_reducible exact rng_yand _ _ | with_reducible exact rng_yor _ _ | with_reducible exact rng_zcmp _ _ | with_reducible exact yand7 _ | with_reducible exact rng_toInt _ | with_reducible exact yarr23 (by omega) | with_reducible exact yarr57 (by omega) | with_reducible exact Or.inl rfl | with_reducible exact Or.inr rfl) (by first | omega | assumption | with_reducible exact rng_ld _ _ _ | with_reducible exact rng_yand _ _ | with_reducible exact rng_yor _ _ | with_reducible exact rng_zcmp _ _ | with_reducible exact yand7 _ | with_reducible exact rng_toInt _ | with_reducible exact yarr23 (by omega) | with_reducible exact yarr57 (by omega) | with_reducible exact Or.inl rfl | with_reducible exact Or.inr rfl) (by assumption) (by first | (rw [← lI_s (by omega)]; assumption) | (rw [← lC_e (n := n) (i := x3) (j := x4) (c := x5) (by omega)]; assumption)) (by first | omega | assumption | with_reducible exact rng_ld _ _ _ | with_reducible exact rng_yand _ _ | with_reducible exact rng_yor _ _ | with_reducible exact rng_zcmp _ _ | with_reducible exact yand7 _ | with_reducible exact rng_toInt _ | with_reducible exact yarr23 (by omega) | with_reducible exact yarr57 (by omega) | with_reducible exact Or.inl rfl | with_reducible exact Or.inr rfl) (by omega)
        · skip
          refine uX4_once_45 (by first | omega | assumption | with_reducible exact rng_ld _ _ _ | with_reducible exact rng_yand _ _ | with_reducible exact rng_yor _ _ | with_reducible exact rng_zcmp _ _ | with_reducible exact yand7 _ | with_reducible exact rng_toInt _ | with_reducible exact yarr23 (by omega) | with_reducible exact yarr57 (by omega) | with_reducible exact Or.inl rfl | with_reducible exact Or.inr rfl) (by first | omega | assumption | with_reducible exact rng_ld _ _ _ | with_reducible exact rng_yand _ _ | with_reducible exact rng_yor _ _ | with_reducible exact rng_zcmp _ _ | with_reducible exact yand7 _ | with_reducible exact rng_toInt _ | with_reducible exact yarr23 (by omega) | with_reducible exact yarr57 (by omega) | with_reducible exact Or.inl rfl | with_reducible exact Or.inr rfl) (fun hc => ?_) (fun hc => ?_)
          · skip
            refine uX4_once_76 ?_
            exact ih2 _ _ _ _ M3 fM (by first | omega | assumption | with_reducible exact rng_ld _ _ _ | with_reducible exact rng_yand _ _ | with_reducible exact rng_yor _ _ | with_reducible exact rng_zcmp _ _ | with_reducible exact yand7 _ | with_reducible exact rng_toInt _ | with_reducible exact yarr23 (by omega) | with_reducible exact yarr57 (by omega) | with_reducible exact Or.inl rfl | with_reducible exact Or.inr rfl) (by first | omega | assumption | with_reducible exact rng_ld _ _ _ | with_reducible exact rng_yand _ _ | with_reducible exact rng_yor _ _ | with_reducible exact rng_zcmp _ _ | with_reducible exact yand7 _ | with_reducible exact rng_toInt _ | with_reducible exact yarr23 (by omega) | with_reducible exact yarr57 (by omega) | with_reducible exact Or.inl rfl | with_reducible exact Or.inr rfl) (by first | omega | assumption | with_reducible exact rng_ld _ _ _ | with_reducible exact rng_yand _ _ | with_reducible exact rng_yor _ _ | with_reducible exact rng_zcmp _ _ | with_reducible exact yand7 _ | with_reducible exact rng_toInt _ | with_reducible exact yarr23 (by omega) | with_reducible exact yarr57 (by omega) | with_reducible exact Or.inl rfl | with_reducible exact Or.inr rfl) (by first | omega | assumption | with_reducible exact rng_ld _ _ _ | with_reducible exact rng_yand _ _ | with_reducible exact rng_yor _ _ | with_reducible exact rng_zcmp _ _ | with_reducible exact yand7 _ | with_reducible exact rng_toInt _ | with_reducible exact yarr23 (by omega) | with_reducible exact yarr57 (by omega) | with_reducible exact Or.inl rfl | with_reducible exact Or.inr rfl) (by first | exact s58 | assumption) (by first | (rw [← lJ_s (by omega)]; assumption) | exact e58 (by assumption) | exact i5.trans (onC_k (by omega) (by omega))) (by first | omega | assumption | with_reducible exact rng_ld _ _ _ | with_reducible exact rng_yand _ _ | with_reducible exact rng_yor _ _ | with_reducible exact rng_zcmp _ _ | with_reducible exact yand7 _ | with_reducible exact rng_toInt _ | with_reducible exact yarr23 (by omega) | with_reducible exact yarr57 (by omega) | with_reducible exact Or.inl rfl | with_reducible exact Or.inr rfl) (by omega)
          · skip
            refine uX4_once_51 (by first | omega | assumption | with_reducible exact rng_ld _ _ _ | with_reducible exact rng_yand _ _ | with_reducible exact rng_yor _ _ | with_reducible exact rng_zcmp _ _ | with_reducible exact yand7 _ | with_reducible exact rng_toInt _ | with_reducible exact yarr23 (by omega) | with_reducible exact yarr57 (by omega) | with_reducible exact Or.inl rfl | with_reducible exact Or.inr rfl) (by first | omega | assumption | with_reducible exact rng_ld _ _ _ | with_reducible exact rng_yand _ _ | with_reducible exact rng_yor _ _ | with_reducible exact rng_zcmp _ _ | with_reducible exact yand7 _ | with_reducible exact rng_toInt _ | with_reducible exact yarr23 (by omega) | with_reducible exact yarr57 (by omega) | with_reducible exact Or.inl rfl | with_reducible exact Or.inr rfl) (fun hc => ?_) (fun hc => ?_)
            · skip
              refine uX4_once_76 ?_
              exact ih2 _ _ _ _ M3 fM (by first | omega | assumption | with_reducible exact rng_ld _ _ _ | with_reducible exact rng_yand _ _ | with_reducible exact rng_yor _ _ | with_reducible exact rng_zcmp _ _ | with_reducible exact yand7 _ | with_reducible exact rng_toInt _ | with_reducible exact yarr23 (by omega) | with_reducible exact yarr57 (by omega) | with_reducible exact Or.inl rfl | with_reducible exact Or.inr rfl) (by first | omega | assumption | with_reducible exact rng_ld _ _ _ | with_reducible exact rng_yand _ _ | with_reducible exact rng_yor _ _ | with_reducible exact rng_zcmp _ _ | with_reducible exact yand7 _ | with_reducible exact rng_toInt _ | with_reducible exact yarr23 (by omega) | with_reducible exact yarr57 (by omega) | with_reducible exact Or.inl rfl | with_reducible exact Or.inr rfl) (by first | omega | assumption | with_reducible exact rng_ld _ _ _ | with_reducible exact rng_yand _ _ | with_reducible exact rng_yor _ _ | with_reducible exact rng_zcmp _ _ | with_reducible exact yand7 _ | with_reducible exact rng_toInt _ | with_reducible exact yarr23 (by omega) | with_reducible exact yarr57 (by omega) | with_reducible exact Or.inl rfl | with_reducible exact Or.inr rfl) (by first | omega | assumption | with_reducible exact rng_ld _ _ _ | with_reducible exact rng_yand _ _ | with_reducible exact rng_yor _ _ | with_reducible exact rng_zcmp _ _ | with_reducible exact yand7 _ | with_reducible exact rng_toInt _ | with_reducible exact yarr23 (by omega) | with_reducible exact yarr57 (by omega) | with_reducible exact Or.inl rfl | with_reducible exact Or.inr rfl) (by first | exact s58 | assumption) (by first | (rw [← lJ_s (by omega)]; assumption) | exact e58 (by assumption) | exact i5.trans (onC_k (by omega) (by omega))) (by first | omega | assumption | with_reducible exact rng_ld _ _ _ | with_reducible exact rng_yand _ _ | with_reducible exact rng_yor _ _ | with_reducible exact rng_zcmp _ _ | with_reducible exact yand7 _ | with_reducible exact rng_toInt _ | with_reducible exact yarr23 (by omega) | with_reducible exact yarr57 (by omega) | with_reducible exact Or.inl rfl | with_reducible exact Or.inr rfl) (by omega)
            · skip
              refine uX4_once_58 ?_
              refine XC.deep (n8_pass  (d := 0) (by first | assumption | exact ⟨rfl, Nat.le_of_ble_eq_true rfl⟩ | with_reducible exact yarr23 (by omega) | with_reducible exact yarr57 (by omega)) (by first | omega | assumption | with_reducible exact rng_ld _ _ _ | with_reducible exact rng_yand _ _ | with_reducible exact rng_yor _ _ | with_reducible exact rng_zcmp _ _ | with_reducible exact yand7 _ | with_reducible exact rng_toInt _ | with_reducible exact yarr23 (by omega) | with_reducible exact yarr57 (by omega) | with_reducible exact Or.inl rfl | with_reducible exact Or.inr rfl) (by first | omega | assumption | with_reducible exact rng_ld _ _ _ | with_reducible exact rng_yand _ _ | with_reducible exact rng_yor _ _ | with_reducible exact rng_zcmp _ _ | with_reducible exact yand7 _ | with_reducible exact rng_toInt _ | with_reducible exact yarr23 (by omega) | with_reducible exact yarr57 (by omega) | with_reducible exact Or.inl rfl | with_reducible exact Or.inr rfl) (by first | omega | assumption | with_reducible exact rng_ld _ _ _ | with_reducible exact rng_yand _ _ | with_reducible exact rng_yor _ _ | with_reducible exact rng_zcmp _ _ | with_reducible exact yand7 _ | with_reducible exact rng_toInt _ | with_reducible exact yarr23 (by omega) | with_reducible exact yarr57 (by omega) | with_reducible exact Or.inl rfl | with_reducible exact Or.inr rfl) (by first | omega | assumption | with_reducible exact rng_ld _ _ _ | with_reducible exact rng_yand _ _ | with_reducible exact rng_yor _ _ | with_reducible exact rng_zcmp _ _ | with_reducible exact yand7 _ | with_reducible exact rng_toInt _ | with_reducible exact yarr23 (by omega) | with_reducible exact yarr57 (by omega) | with_reducible exact Or.inl rfl | with_reducible exact Or.inr rfl) (by first | omega | assumption | with_reducible exact rng_ld _ _ _ | with_reducible exact rng_yand _ _ | with_reducible exact rng_yor _ _ | with_reducible exact rng_zcmp _ _ | with_reducible exact yand7 _ | with_reducible exact rng_toInt _ | with_reducible exact yarr23 (by omega) | with_reducible exact yarr57 (by omega) | with_reducible exact Or.inl rfl | with_reducible exact Or.inr rfl) (by first | omega | assumption | with_reducible exact rng_ld _ _ _ | with_reducible exact rng_yand _ _ | with_reducible exact rng_yor _ _ | with_reducible exact rng_zcmp _ _ | with_reducible exact yand7 _ | with_reducible exact rng_toInt _ | with_reducible exact yarr23 (by omega) | with_reducible exact yarr57 (by omega) | with_reducible exact Or.inl rfl | with_reducible exact Or.inr rfl) (by first | omega | assumption | with_reducible exact rng_ld _ _ _ | with_reducible exact rng_yand _ _ | with_reducible exact rng_yor _ _ | with_reducible exact rng_zcmp _ _ | with_reducible exact yand7 _ | with_reducible exact rng_toInt _ | with_reducible exact yarr23 (by omega) | with_reducible exact yarr57 (by omega) | with_reducible exact Or.inl rfl | with_reducible exact Or.inr rfl) (by first | omega | assumption | with_reducible exact rng_ld _ _ _ | with_reducible exact rng_yand _ _ | with_reducible exact rng_yor _ _ | with_reducible exact rng_zcmp _ _ | with_reducible exact yand7 _ | with_reducible exact rng_toInt _ | with_reducible exact yarr23 (by omega) | with_reducible exact yarr57 (by omega) | with_reducible exact Or.inl rfl | with_reducible exact Or.inr rfl) (hCT.fr fM (by (first | (dsimp only [wNo]; omega) | omega)) (fun _ => by (first | (dsimp only [wNo]; omega) | omega)) (fun _ => by (first | (dsimp only [wNo]; omega) | omega))) i4 (fun v58 M4 fM4 p4a => ?_)) (by omega)
              replace fM := fM.tr fM4 (by intro o j hw; first | omega | exact hw | (dsimp only [wSub, wRun, wNar, wFil, wCan, wLst, wCar, wDr, wFl, wMq, wRd, wRx, wCr, wTab, wTr, wNew, wKi, wKn, wTn, wOb, wPt, wTl, wOq] at hw; dsimp only [wSub, wRun, wNar, wFil, wCan, wLst, wCar, wDr, wFl, wMq, wRd, wRx, wCr, wTab, wTr, wNew, wKi, wKn, wTn, wOb, wPt, wTl, wOq]; omega) | (dsimp only [wSub, wRun, wNar, wFil, wCan, wLst, wCar, wDr, wFl, wMq, wRd, wRx, wCr, wTab, wTr, wNew, wKi, wKn, wTn, wOb, wPt, wTl, wOq]; omega) | (dsimp only [wSub, wRun, wNar, wFil, wCan, wLst, wCar, wDr, wFl, wMq, wRd, wRx, wCr, wTab, wTr, wNew, wKi, wKn, wTn, wOb, wPt, wTl, wOq] at hw; omega) | (simp [wSub, wRun, wNar, wFil, wCan, wLst, wCar, wDr, wFl, wMq, wRd, wRx, wCr, wTab, wTr, wNew, wKi, wKn, wTn, wOb, wPt, wTl, wOq] at hw; simp [wSub, wRun, wNar, wFil, wCan, wLst, wCar, wDr, wFl, wMq, wRd, wRx, wCr, wTab, wTr, wNew, wKi, wKn, wTn, wOb, wPt, wTl, wOq]; omega))
              have g58 : PSp T f k (ld M3 x1) (ld M4 x1) x3 x4 x5 v58 := p4a
              have y58 := g58.y
              have s58 : SN f k n (ld M4 x1) := g58.sn hCT.2.1 hn8.2 i4 (by omega) (by omega) (by omega)
              have e58 : v58 ≠ 0 → onL T f k (ld M x1) (lI n 0) = onL T f k (ld M4 x1) (lC n x3 x4 (x5 + 1)) := fun q => i5.trans (onC_p (by omega) (by omega) (by omega) g58 q)
              have z58 : v58 = 0 → onL T f k (ld M x1) (lI n 0) = ld M4 x1 := fun q => i5.trans (onC_z (by omega) (by omega) (by omega) g58 q)
              refine uX4_once_71 (by first | omega | assumption | with_reducible exact rng_ld _ _ _ | with_reducible exact rng_yand _ _ | with_reducible exact rng_yor _ _ | with_reducible exact rng_zcmp _ _ | with_reducible exact yand7 _ | with_reducible exact rng_toInt _ | with_reducible exact yarr23 (by omega) | with_reducible exact yarr57 (by omega) | with_reducible exact Or.inl rfl | with_reducible exact Or.inr rfl) (fun hc => ?_) (fun hc => ?_)
              · skip
                refine uX4_once_76 ?_
                exact ih2 _ _ _ _ M4 fM (by first | omega | assumption | with_reducible exact rng_ld _ _ _ | with_reducible exact rng_yand _ _ | with_reducible exact rng_yor _ _ | with_reducible exact rng_zcmp _ _ | with_reducible exact yand7 _ | with_reducible exact rng_toInt _ | with_reducible exact yarr23 (by omega) | with_reducible exact yarr57 (by omega) | with_reducible exact Or.inl rfl | with_reducible exact Or.inr rfl) (by first | omega | assumption | with_reducible exact rng_ld _ _ _ | with_reducible exact rng_yand _ _ | with_reducible exact rng_yor _ _ | with_reducible exact rng_zcmp _ _ | with_reducible exact yand7 _ | with_reducible exact rng_toInt _ | with_reducible exact yarr23 (by omega) | with_reducible exact yarr57 (by omega) | with_reducible exact Or.inl rfl | with_reducible exact Or.inr rfl) (by first | omega | assumption | with_reducible exact rng_ld _ _ _ | with_reducible exact rng_yand _ _ | with_reducible exact rng_yor _ _ | with_reducible exact rng_zcmp _ _ | with_reducible exact yand7 _ | with_reducible exact rng_toInt _ | with_reducible exact yarr23 (by omega) | with_reducible exact yarr57 (by omega) | with_reducible exact Or.inl rfl | with_reducible exact Or.inr rfl) (by first | omega | assumption | with_reducible exact rng_ld _ _ _ | with_reducible exact rng_yand _ _ | with_reducible exact rng_yor _ _ | with_reducible exact rng_zcmp _ _ | with_reducible exact yand7 _ | with_reducible exact rng_toInt _ | with_reducible exact yarr23 (by omega) | with_reducible exact yarr57 (by omega) | with_reducible exact Or.inl rfl | with_reducible exact Or.inr rfl) (by first | exact s58 | assumption) (by first | (rw [← lJ_s (by omega)]; assumption) | exact e58 (by assumption) | exact i5.trans (onC_k (by omega) (by omega))) (by first | omega | assumption | with_reducible exact rng_ld _ _ _ | with_reducible exact rng_yand _ _ | with_reducible exact rng_yor _ _ | with_reducible exact rng_zcmp _ _ | with_reducible exact yand7 _ | with_reducible exact rng_toInt _ | with_reducible exact yarr23 (by omega) | with_reducible exact yarr57 (by omega) | with_reducible exact Or.inl rfl | with_reducible exact Or.inr rfl) (by omega)
              · skip
                refine uX4_once_74 ?_
                exact kont _ _ fM (by first | omega | assumption | with_reducible exact rng_ld _ _ _ | with_reducible exact rng_yand _ _ | with_reducible exact rng_yor _ _ | with_reducible exact rng_zcmp _ _ | with_reducible exact yand7 _ | with_reducible exact rng_toInt _ | with_reducible exact yarr23 (by omega) | with_reducible exact yarr57 (by omega) | with_reducible exact Or.inl rfl | with_reducible exact Or.inr rfl) (by unfold onceP; rw [if_neg (by rw [i6]; decide)]; exact (z58 (by assumption)).symm)
  refine uX4_once_0 ?_
  refine n11_hasEmpty  (by first | assumption | exact ⟨rfl, Nat.le_of_ble_eq_true rfl⟩ | with_reducible exact yarr23 (by omega) | with_reducible exact yarr57 (by omega)) (by first | omega | assumption | with_reducible exact rng_ld _ _ _ | with_reducible exact rng_yand _ _ | with_reducible exact rng_yor _ _ | with_reducible exact rng_zcmp _ _ | with_reducible exact yand7 _ | with_reducible exact rng_toInt _ | with_reducible exact yarr23 (by omega) | with_reducible exact yarr57 (by omega) | with_reducible exact Or.inl rfl | with_reducible exact Or.inr rfl) (fun v0 p5a => ?_)
  have r0 := p5a
  rw [hn] at r0
  refine uX4_once_13 (by first | omega | assumption | with_reducible exact rng_ld _ _ _ | with_reducible exact rng_yand _ _ | with_reducible exact rng_yor _ _ | with_reducible exact rng_zcmp _ _ | with_reducible exact yand7 _ | with_reducible exact rng_toInt _ | with_reducible exact yarr23 (by omega) | with_reducible exact yarr57 (by omega) | with_reducible exact Or.inl rfl | with_reducible exact Or.inr rfl) (fun hc => ?_) (fun hc => ?_)
  · skip
    have he : emB n (ld M x1) = false := r0.elim (fun q => absurd q.1 (by omega)) (fun q => q.2)
    refine uX4_once_18 ?_
    exact (go 1000000).1 _ _ _ _ M fM (by first | omega | assumption | with_reducible exact rng_ld _ _ _ | with_reducible exact rng_yand _ _ | with_reducible exact rng_yor _ _ | with_reducible exact rng_zcmp _ _ | with_reducible exact yand7 _ | with_reducible exact rng_toInt _ | with_reducible exact yarr23 (by omega) | with_reducible exact yarr57 (by omega) | with_reducible exact Or.inl rfl | with_reducible exact Or.inr rfl) (by first | omega | assumption | with_reducible exact rng_ld _ _ _ | with_reducible exact rng_yand _ _ | with_reducible exact rng_yor _ _ | with_reducible exact rng_zcmp _ _ | with_reducible exact yand7 _ | with_reducible exact rng_toInt _ | with_reducible exact yarr23 (by omega) | with_reducible exact yarr57 (by omega) | with_reducible exact Or.inl rfl | with_reducible exact Or.inr rfl) (by first | exact hSN | assumption) (by first | rfl | (rw [← lJ_e (n := n) (i := x3) (j := x4) (by omega)]; assumption)) (by first | omega | assumption | with_reducible exact rng_ld _ _ _ | with_reducible exact rng_yand _ _ | with_reducible exact rng_yor _ _ | with_reducible exact rng_zcmp _ _ | with_reducible exact yand7 _ | with_reducible exact rng_toInt _ | with_reducible exact yarr23 (by omega) | with_reducible exact yarr57 (by omega) | with_reducible exact Or.inl rfl | with_reducible exact Or.inr rfl) (by omega)
  · skip
    refine uX4_once_16 ?_
    exact kont _ _ fM (by first | omega | assumption | with_reducible exact rng_ld _ _ _ | with_reducible exact rng_yand _ _ | with_reducible exact rng_yor _ _ | with_reducible exact rng_zcmp _ _ | with_reducible exact yand7 _ | with_reducible exact rng_toInt _ | with_reducible exact yarr23 (by omega) | with_reducible exact yarr57 (by omega) | with_reducible exact Or.inl rfl | with_reducible exact Or.inr rfl) (by unfold onceP; rw [if_pos (r0.elim (fun q => q.2) (fun q => absurd q.1 (by assumption)))])
theorem n4_differs {d : Nat} {Q : Int → yM → Prop} {M : yM} {x1 : Nat}  (hA : arrSh x1 64) (kont : ∀ (v : Int), (v = 1 ∧ ¬ EqN (ld M x1) (ld M 63) ∨ v = 0 ∧ EqN (ld M x1) (ld M 63)) → Q v M) : XCi d 31 [.inr (.inr 56), .inr (.inr x1)] M Q := by
  refine eX4_differs ?_
  have go : ∀ N : Nat, (∀ (x2 : Int), (0 ≤ x2 ∧ x2 ≤ 64) → (∀ j : Int, 0 ≤ j → j < x2 → ld M x1 j = ld M 63 j) → (64 - x2 < (N : Int)) → XW kX4_differs d (some .boolean) (wQi Q) 2 [some (.inr (.inr 56)), some (.inr (.inr x1)), some (.inl x2)] [] M) := by
    intro N
    induction N with
    | zero => intros; exfalso; omega
    | succ N ih =>
      have ih0 := ih
      skip
      intro x2 i0 i1 hm
      refine uX4_differs_2 (by first | omega | assumption | with_reducible exact rng_ld _ _ _ | with_reducible exact rng_yand _ _ | with_reducible exact rng_yor _ _ | with_reducible exact rng_zcmp _ _ | with_reducible exact yand7 _ | with_reducible exact rng_toInt _ | with_reducible exact yarr23 (by omega) | with_reducible exact yarr57 (by omega) | with_reducible exact Or.inl rfl | with_reducible exact Or.inr rfl) (fun hc => ?_) (fun hc => ?_)
      · skip
        refine uX4_differs_28 ?_
        exact kont _ (Or.inr ⟨rfl, fun j a1 a2 => i1 j a1 (by omega)⟩)
      · skip
        refine uX4_differs_8 (by first | assumption | exact ⟨rfl, Nat.le_of_ble_eq_true rfl⟩ | with_reducible exact yarr23 (by omega) | with_reducible exact yarr57 (by omega)) (by first | omega | assumption | with_reducible exact rng_ld _ _ _ | with_reducible exact rng_yand _ _ | with_reducible exact rng_yor _ _ | with_reducible exact rng_zcmp _ _ | with_reducible exact yand7 _ | with_reducible exact rng_toInt _ | with_reducible exact yarr23 (by omega) | with_reducible exact yarr57 (by omega) | with_reducible exact Or.inl rfl | with_reducible exact Or.inr rfl) (by first | omega | assumption | with_reducible exact rng_ld _ _ _ | with_reducible exact rng_yand _ _ | with_reducible exact rng_yor _ _ | with_reducible exact rng_zcmp _ _ | with_reducible exact yand7 _ | with_reducible exact rng_toInt _ | with_reducible exact yarr23 (by omega) | with_reducible exact yarr57 (by omega) | with_reducible exact Or.inl rfl | with_reducible exact Or.inr rfl) (fun hc => ?_) (fun hc => ?_)
        · skip
          refine uX4_differs_22 ?_
          exact ih0 _  (by first | omega | assumption | with_reducible exact rng_ld _ _ _ | with_reducible exact rng_yand _ _ | with_reducible exact rng_yor _ _ | with_reducible exact rng_zcmp _ _ | with_reducible exact yand7 _ | with_reducible exact rng_toInt _ | with_reducible exact yarr23 (by omega) | with_reducible exact yarr57 (by omega) | with_reducible exact Or.inl rfl | with_reducible exact Or.inr rfl) (by first | exact df_s i1 (by assumption) | exact (fun j a1 a2 => absurd a2 (by omega))) (by omega)
        · skip
          refine uX4_differs_20 ?_
          exact kont _ (Or.inl ⟨rfl, fun q => absurd (q x2 (by omega) (by omega)) (by assumption)⟩)
  refine uX4_differs_0 ?_
  exact (go 1000000) _  (by first | omega | assumption | with_reducible exact rng_ld _ _ _ | with_reducible exact rng_yand _ _ | with_reducible exact rng_yor _ _ | with_reducible exact rng_zcmp _ _ | with_reducible exact yand7 _ | with_reducible exact rng_toInt _ | with_reducible exact yarr23 (by omega) | with_reducible exact yarr57 (by omega) | with_reducible exact Or.inl rfl | with_reducible exact Or.inr rfl) (by first | exact df_s i1 (by assumption) | exact (fun j a1 a2 => absurd a2 (by omega))) (by omega)
theorem fu_s {T f : Int → Int} {k n : Int} (m : Nat) (N : Int → Int) : fu T f k n (m + 1) N = onceP T f k n (fu T f k n m N) := fu_add m 1 N
theorem fu_n {T f : Int → Int} {k n x : Int} {N X X' : Int → Int} (hx : 0 ≤ x) (h : fu T f k n x.toNat N = X) (e : X' = onceP T f k n X) : fu T f k n (x + 1).toNat N = X' := by
  rw [show (x + 1).toNat = x.toNat + 1 by omega, fu_s, h, e]
/-- a round of FULL -/
theorem full_r {T f : Int → Int} {k n x : Int} {X X' B : Int → Int} (hT : TH T f k) (hn : 0 ≤ n ∧ n ≤ 8) (hX : SN f k n X) (hp : x + pcs n X ≤ 224) (e : X' = onceP T f k n X) (hB : EqN B X) : SN f k n X' ∧ (¬ EqN X' B → x + 1 + pcs n X' ≤ 224) ∧ ((EqN X' B ∨ emB n X' = true) → onceP T f k n X' = X') := by
  have o := onceP_ok (T := T) hT.1 hT.2.1 hn hX
  refine ⟨by rw [e]; exact o.1, fun q => ?_, fun q => ?_⟩
  · rcases o.2.1 with w | w
    · exact absurd (by rw [e, w]; exact hB.sy) q
    · rw [e]; omega
  · rcases q with q | q
    · have w : X' = X := eqn_out (q.tr hB) (fun y hy => by rw [e]; exact o.2.2 y hy)
      rw [w]
      rw [w] at e
      exact e.symm
    · unfold onceP
      rw [if_pos q]
theorem n4_full {d : Nat} {Q : Int → yM → Prop} {M : yM} {x1 : Nat} {T f : Int → Int} {k n : Int} (hA : arrSh x1 64) (hn : ld M 19 0 = n) (hn8 : 1 ≤ n ∧ n ≤ 8) (hx20 : 20 ≤ x1) (hx63 : x1 ≠ 63) (hCT : CT M T f k) (hSN : SN f k n (ld M x1)) (kont : ∀ (v : Int) (M' : yM), fr (fun o _ => o = x1 ∨ o = 63) M M' → (ld M' x1 = fullP T f k n (ld M x1)) → Q v M') : XCi (d + 3) 30 [.inr (.inr 56), .inr (.inr x1)] M Q := by
  refine eX4_full ?_
  have fM : fr (fun o _ => o = x1 ∨ o = 63) M M := fr.rf
  have go : ∀ N : Nat, (∀ (x2 : Int) (x3 : Int) (x4 : Int) (M9 : yM), fr (fun o _ => o = x1 ∨ o = 63) M M9 → (x3 = 0 ∨ x3 = 1) → (0 ≤ x4 ∧ x4 ≤ 1000) → (SN f k n (ld M9 x1)) → (fu T f k n x4.toNat (ld M x1) = ld M9 x1) → (x3 = 1 → x4 + pcs n (ld M9 x1) ≤ 224) → (x3 = 0 → onceP T f k n (ld M9 x1) = ld M9 x1) → (1000 - x4 < (N : Int)) → XW kX4_full (d + 3) (some .int) (wQi Q) 26 [some (.inr (.inr 56)), some (.inr (.inr x1)), some (.inl x2), some (.inl x3), some (.inl x4)] [] M9) := by
    intro N
    induction N with
    | zero => intros; exfalso; omega
    | succ N ih =>
      have ih0 := ih
      clear fM
      intro x2 x3 x4 M1 fM i0 i1 i2 i3 i4 i5 hm
      have k19_0 := fM.ld (o := 19) (j := 0) (by intro hw; first | omega | (dsimp only [wSub, wRun, wNar, wFil, wCan, wLst, wCar, wDr, wFl, wMq, wRd, wRx, wCr, wTab, wTr, wNew, wKi, wKn, wTn, wOb, wPt, wTl, wOq] at hw; omega) | (simp [wSub, wRun, wNar, wFil, wCan, wLst, wCar, wDr, wFl, wMq, wRd, wRx, wCr, wTab, wTr, wNew, wKi, wKn, wTn, wOb, wPt, wTl, wOq] at hw; done) | (simp [wSub, wRun, wNar, wFil, wCan, wLst, wCar, wDr, wFl, wMq, wRd, wRx, wCr, wTab, wTr, wNew, wKi, wKn, wTn, wOb, wPt, wTl, wOq] at hw; omega))
      refine uX4_full_26 (by first | omega | assumption | with_reducible exact rng_ld _ _ _ | with_reducible exact rng_yand _ _ | with_reducible exact rng_yor _ _ | with_reducible exact rng_zcmp _ _ | with_reducible exact yand7 _ | with_reducible exact rng_toInt _ | with_reducible exact yarr23 (by omega) | with_reducible exact yarr57 (by omega) | with_reducible exact Or.inl rfl | with_reducible exact Or.inr rfl) (fun hc => ?_) (fun hc => ?_)
      · skip
        have pz := (pcs_b n (ld M1 x1)).1
        refine uX4_full_92 ?_
        exact kont _ _ fM (by first | exact i3.symm.trans (fullP_eq (r := x4.toNat) hCT.2.1.1 hCT.2.1.2.1 (by omega) hSN (by rw [i3]; exact i5 (by assumption))) | (exfalso; have := i4 (by omega); omega))
      · skip
        refine uX4_full_30 (by first | omega | assumption | with_reducible exact rng_ld _ _ _ | with_reducible exact rng_yand _ _ | with_reducible exact rng_yor _ _ | with_reducible exact rng_zcmp _ _ | with_reducible exact yand7 _ | with_reducible exact rng_toInt _ | with_reducible exact yarr23 (by omega) | with_reducible exact yarr57 (by omega) | with_reducible exact Or.inl rfl | with_reducible exact Or.inr rfl) (fun hc => ?_) (fun hc => ?_)
        · skip
          have pz := (pcs_b n (ld M1 x1)).1
          refine uX4_full_92 ?_
          exact kont _ _ fM (by first | exact i3.symm.trans (fullP_eq (r := x4.toNat) hCT.2.1.1 hCT.2.1.2.1 (by omega) hSN (by rw [i3]; exact i5 (by assumption))) | (exfalso; have := i4 (by omega); omega))
        · skip
          refine uX4_full_38 (by first | assumption | exact ⟨rfl, Nat.le_of_ble_eq_true rfl⟩ | with_reducible exact yarr23 (by omega) | with_reducible exact yarr57 (by omega)) ?_
          intro M2 hM2
          replace fM := fr.cpy fM hM2 (by intro j hj1 hj2; exact (by first | omega | (dsimp only [wSub, wRun, wNar, wFil, wCan, wLst, wCar, wDr, wFl, wMq, wRd, wRx, wCr, wTab, wTr, wNew, wKi, wKn, wTn, wOb, wPt, wTl, wOq]; done) | (dsimp only [wSub, wRun, wNar, wFil, wCan, wLst, wCar, wDr, wFl, wMq, wRd, wRx, wCr, wTab, wTr, wNew, wKi, wKn, wTn, wOb, wPt, wTl, wOq]; omega) | (simp [wSub, wRun, wNar, wFil, wCan, wLst, wCar, wDr, wFl, wMq, wRd, wRx, wCr, wTab, wTr, wNew, wKi, wKn, wTn, wOb, wPt, wTl, wOq]; done) | (simp [wSub, wRun, wNar, wFil, wCan, wLst, wCar, wDr, wFl, wMq, wRd, wRx, wCr, wTab, wTr, wNew, wKi, wKn, wTn, wOb, wPt, wTl, wOq]; omega)))
          have k19_0 := fM.ld (o := 19) (j := 0) (by intro hw; first | omega | (dsimp only [wSub, wRun, wNar, wFil, wCan, wLst, wCar, wDr, wFl, wMq, wRd, wRx, wCr, wTab, wTr, wNew, wKi, wKn, wTn, wOb, wPt, wTl, wOq] at hw; omega) | (simp [wSub, wRun, wNar, wFil, wCan, wLst, wCar, wDr, wFl, wMq, wRd, wRx, wCr, wTab, wTr, wNew, wKi, wKn, wTn, wOb, wPt, wTl, wOq] at hw; done) | (simp [wSub, wRun, wNar, wFil, wCan, wLst, wCar, wDr, wFl, wMq, wRd, wRx, wCr, wTab, wTr, wNew, wKi, wKn, wTn, wOb, wPt, wTl, wOq] at hw; omega))
          have e38 : ld M2 x1 = ld M1 x1 := funext fun j => by rw [hM2, ld_cpyne (by omega)]
          have b38 : EqN (ld M2 63) (ld M1 x1) := fun j a1 a2 => by
            rw [hM2, ld_cpy, if_pos ⟨rfl, a1, by omega⟩]
            congr 1
            omega
          have s38 : SN f k n (ld M2 x1) := by rw [e38]; exact i2
          refine uX4_full_50 ?_
          refine XC.deep (n4_once  (d := 0) (by first | assumption | exact ⟨rfl, Nat.le_of_ble_eq_true rfl⟩ | with_reducible exact yarr23 (by omega) | with_reducible exact yarr57 (by omega)) (by first | omega | assumption | with_reducible exact rng_ld _ _ _ | with_reducible exact rng_yand _ _ | with_reducible exact rng_yor _ _ | with_reducible exact rng_zcmp _ _ | with_reducible exact yand7 _ | with_reducible exact rng_toInt _ | with_reducible exact yarr23 (by omega) | with_reducible exact yarr57 (by omega) | with_reducible exact Or.inl rfl | with_reducible exact Or.inr rfl) (by first | omega | assumption | with_reducible exact rng_ld _ _ _ | with_reducible exact rng_yand _ _ | with_reducible exact rng_yor _ _ | with_reducible exact rng_zcmp _ _ | with_reducible exact yand7 _ | with_reducible exact rng_toInt _ | with_reducible exact yarr23 (by omega) | with_reducible exact yarr57 (by omega) | with_reducible exact Or.inl rfl | with_reducible exact Or.inr rfl) (by first | omega | assumption | with_reducible exact rng_ld _ _ _ | with_reducible exact rng_yand _ _ | with_reducible exact rng_yor _ _ | with_reducible exact rng_zcmp _ _ | with_reducible exact yand7 _ | with_reducible exact rng_toInt _ | with_reducible exact yarr23 (by omega) | with_reducible exact yarr57 (by omega) | with_reducible exact Or.inl rfl | with_reducible exact Or.inr rfl) (hCT.fr fM (by (first | (dsimp only [wNo]; omega) | omega)) (fun _ => by (first | (dsimp only [wNo]; omega) | omega)) (fun _ => by (first | (dsimp only [wNo]; omega) | omega))) s38 (fun v50 M3 fM3 p3a p3b => ?_)) (by omega)
          replace fM := fM.tr fM3 (by intro o j hw; first | omega | exact hw | (dsimp only [wSub, wRun, wNar, wFil, wCan, wLst, wCar, wDr, wFl, wMq, wRd, wRx, wCr, wTab, wTr, wNew, wKi, wKn, wTn, wOb, wPt, wTl, wOq] at hw; dsimp only [wSub, wRun, wNar, wFil, wCan, wLst, wCar, wDr, wFl, wMq, wRd, wRx, wCr, wTab, wTr, wNew, wKi, wKn, wTn, wOb, wPt, wTl, wOq]; omega) | (dsimp only [wSub, wRun, wNar, wFil, wCan, wLst, wCar, wDr, wFl, wMq, wRd, wRx, wCr, wTab, wTr, wNew, wKi, wKn, wTn, wOb, wPt, wTl, wOq]; omega) | (dsimp only [wSub, wRun, wNar, wFil, wCan, wLst, wCar, wDr, wFl, wMq, wRd, wRx, wCr, wTab, wTr, wNew, wKi, wKn, wTn, wOb, wPt, wTl, wOq] at hw; omega) | (simp [wSub, wRun, wNar, wFil, wCan, wLst, wCar, wDr, wFl, wMq, wRd, wRx, wCr, wTab, wTr, wNew, wKi, wKn, wTn, wOb, wPt, wTl, wOq] at hw; simp [wSub, wRun, wNar, wFil, wCan, wLst, wCar, wDr, wFl, wMq, wRd, wRx, wCr, wTab, wTr, wNew, wKi, wKn, wTn, wOb, wPt, wTl, wOq]; omega))
          have k19_0 := fM.ld (o := 19) (j := 0) (by intro hw; first | omega | (dsimp only [wSub, wRun, wNar, wFil, wCan, wLst, wCar, wDr, wFl, wMq, wRd, wRx, wCr, wTab, wTr, wNew, wKi, wKn, wTn, wOb, wPt, wTl, wOq] at hw; omega) | (simp [wSub, wRun, wNar, wFil, wCan, wLst, wCar, wDr, wFl, wMq, wRd, wRx, wCr, wTab, wTr, wNew, wKi, wKn, wTn, wOb, wPt, wTl, wOq] at hw; done) | (simp [wSub, wRun, wNar, wFil, wCan, wLst, wCar, wDr, wFl, wMq, wRd, wRx, wCr, wTab, wTr, wNew, wKi, wKn, wTn, wOb, wPt, wTl, wOq] at hw; omega))
          have e50 := p3b
          rw [e38] at e50
          have r56 := full_r hCT.2.1 (by omega) i2 (i4 (by omega)) e50 (B := ld M3 63) (by rw [show ld M3 63 = ld M2 63 from funext fun j => fM3.ld (by omega)]; exact b38)
          refine uX4_full_56 ?_
          refine n11_hasEmpty  (by first | assumption | exact ⟨rfl, Nat.le_of_ble_eq_true rfl⟩ | with_reducible exact yarr23 (by omega) | with_reducible exact yarr57 (by omega)) (by first | omega | assumption | with_reducible exact rng_ld _ _ _ | with_reducible exact rng_yand _ _ | with_reducible exact rng_yor _ _ | with_reducible exact rng_zcmp _ _ | with_reducible exact yand7 _ | with_reducible exact rng_toInt _ | with_reducible exact yarr23 (by omega) | with_reducible exact yarr57 (by omega) | with_reducible exact Or.inl rfl | with_reducible exact Or.inr rfl) (fun v56 p4a => ?_)
          have q56 := p4a
          rw [k19_0, hn] at q56
          have s56 : v56 ≠ 0 → _ := fun w => r56.2.2 (Or.inr (q56.elim (fun q => q.2) (fun q => absurd q.1 w)))
          refine uX4_full_69 (by first | omega | assumption | with_reducible exact rng_ld _ _ _ | with_reducible exact rng_yand _ _ | with_reducible exact rng_yor _ _ | with_reducible exact rng_zcmp _ _ | with_reducible exact yand7 _ | with_reducible exact rng_toInt _ | with_reducible exact yarr23 (by omega) | with_reducible exact yarr57 (by omega) | with_reducible exact Or.inl rfl | with_reducible exact Or.inr rfl) (fun hc => ?_) (fun hc => ?_)
          · skip
            refine uX4_full_84 ?_
            refine uX4_full_85 ?_
            exact ih0 _ _ _ M3 fM (by first | omega | assumption | with_reducible exact rng_ld _ _ _ | with_reducible exact rng_yand _ _ | with_reducible exact rng_yor _ _ | with_reducible exact rng_zcmp _ _ | with_reducible exact yand7 _ | with_reducible exact rng_toInt _ | with_reducible exact yarr23 (by omega) | with_reducible exact yarr57 (by omega) | with_reducible exact Or.inl rfl | with_reducible exact Or.inr rfl) (by first | omega | assumption | with_reducible exact rng_ld _ _ _ | with_reducible exact rng_yand _ _ | with_reducible exact rng_yor _ _ | with_reducible exact rng_zcmp _ _ | with_reducible exact yand7 _ | with_reducible exact rng_toInt _ | with_reducible exact yarr23 (by omega) | with_reducible exact yarr57 (by omega) | with_reducible exact Or.inl rfl | with_reducible exact Or.inr rfl) (by first | exact hSN | exact r56.1) (by first | rfl | exact fu_n (by omega) i3 e50) (by first | exact (fun _ => by have := (pcs_b n (ld M x1)).2; omega) | exact (fun _ => r72 (by omega)) | exact (fun q => absurd q (by omega))) (by first | exact (fun q => absurd q (by omega)) | exact (fun _ => r0 (by omega)) | exact (fun _ => s72 (by omega)) | exact (fun _ => s56 (by omega))) (by omega)
          · skip
            refine uX4_full_72 ?_
            refine n4_differs  (by first | assumption | exact ⟨rfl, Nat.le_of_ble_eq_true rfl⟩ | with_reducible exact yarr23 (by omega) | with_reducible exact yarr57 (by omega)) (fun v72 p5a => ?_)
            have q72 := p5a
            have r72 : v72 ≠ 0 → _ := fun w => r56.2.1 (q72.elim (fun q => q.2) (fun q => absurd q.1 w))
            have s72 : v72 = 0 → _ := fun w => r56.2.2 (Or.inl (q72.elim (fun q => absurd q.1 (by omega)) (fun q => q.2)))
            refine uX4_full_77 (by first | omega | assumption | with_reducible exact rng_ld _ _ _ | with_reducible exact rng_yand _ _ | with_reducible exact rng_yor _ _ | with_reducible exact rng_zcmp _ _ | with_reducible exact yand7 _ | with_reducible exact rng_toInt _ | with_reducible exact yarr23 (by omega) | with_reducible exact yarr57 (by omega) | with_reducible exact Or.inl rfl | with_reducible exact Or.inr rfl) (fun hc => ?_) (fun hc => ?_)
            · skip
              refine uX4_full_84 ?_
              refine uX4_full_85 ?_
              exact ih0 _ _ _ M3 fM (by first | omega | assumption | with_reducible exact rng_ld _ _ _ | with_reducible exact rng_yand _ _ | with_reducible exact rng_yor _ _ | with_reducible exact rng_zcmp _ _ | with_reducible exact yand7 _ | with_reducible exact rng_toInt _ | with_reducible exact yarr23 (by omega) | with_reducible exact yarr57 (by omega) | with_reducible exact Or.inl rfl | with_reducible exact Or.inr rfl) (by first | omega | assumption | with_reducible exact rng_ld _ _ _ | with_reducible exact rng_yand _ _ | with_reducible exact rng_yor _ _ | with_reducible exact rng_zcmp _ _ | with_reducible exact yand7 _ | with_reducible exact rng_toInt _ | with_reducible exact yarr23 (by omega) | with_reducible exact yarr57 (by omega) | with_reducible exact Or.inl rfl | with_reducible exact Or.inr rfl) (by first | exact hSN | exact r56.1) (by first | rfl | exact fu_n (by omega) i3 e50) (by first | exact (fun _ => by have := (pcs_b n (ld M x1)).2; omega) | exact (fun _ => r72 (by omega)) | exact (fun q => absurd q (by omega))) (by first | exact (fun q => absurd q (by omega)) | exact (fun _ => r0 (by omega)) | exact (fun _ => s72 (by omega)) | exact (fun _ => s56 (by omega))) (by omega)
            · skip
              refine uX4_full_80 ?_
              refine uX4_full_85 ?_
              exact ih0 _ _ _ M3 fM (by first | omega | assumption | with_reducible exact rng_ld _ _ _ | with_reducible exact rng_yand _ _ | with_reducible exact rng_yor _ _ | with_reducible exact rng_zcmp _ _ | with_reducible exact yand7 _ | with_reducible exact rng_toInt _ | with_reducible exact yarr23 (by omega) | with_reducible exact yarr57 (by omega) | with_reducible exact Or.inl rfl | with_reducible exact Or.inr rfl) (by first | omega | assumption | with_reducible exact rng_ld _ _ _ | with_reducible exact rng_yand _ _ | with_reducible exact rng_yor _ _ | with_reducible exact rng_zcmp _ _ | with_reducible exact yand7 _ | with_reducible exact rng_toInt _ | with_reducible exact yarr23 (by omega) | with_reducible exact yarr57 (by omega) | with_reducible exact Or.inl rfl | with_reducible exact Or.inr rfl) (by first | exact hSN | exact r56.1) (by first | rfl | exact fu_n (by omega) i3 e50) (by first | exact (fun _ => by have := (pcs_b n (ld M x1)).2; omega) | exact (fun _ => r72 (by omega)) | exact (fun q => absurd q (by omega))) (by first | exact (fun q => absurd q (by omega)) | exact (fun _ => r0 (by omega)) | exact (fun _ => s72 (by omega)) | exact (fun _ => s56 (by omega))) (by omega)
  refine uX4_full_0 ?_
  refine n11_hasEmpty  (by first | assumption | exact ⟨rfl, Nat.le_of_ble_eq_true rfl⟩ | with_reducible exact yarr23 (by omega) | with_reducible exact yarr57 (by omega)) (by first | omega | assumption | with_reducible exact rng_ld _ _ _ | with_reducible exact rng_yand _ _ | with_reducible exact rng_yor _ _ | with_reducible exact rng_zcmp _ _ | with_reducible exact yand7 _ | with_reducible exact rng_toInt _ | with_reducible exact yarr23 (by omega) | with_reducible exact yarr57 (by omega) | with_reducible exact Or.inl rfl | with_reducible exact Or.inr rfl) (fun v0 p6a => ?_)
  have q0 := p6a
  rw [hn] at q0
  have r0 : v0 ≠ 0 → onceP T f k n (ld M x1) = ld M x1 := fun w => by unfold onceP; rw [if_pos (q0.elim (fun q => q.2) (fun q => absurd q.1 w))]
  refine uX4_full_14 (by first | omega | assumption | with_reducible exact rng_ld _ _ _ | with_reducible exact rng_yand _ _ | with_reducible exact rng_yor _ _ | with_reducible exact rng_zcmp _ _ | with_reducible exact yand7 _ | with_reducible exact rng_toInt _ | with_reducible exact yarr23 (by omega) | with_reducible exact yarr57 (by omega) | with_reducible exact Or.inl rfl | with_reducible exact Or.inr rfl) (fun hc => ?_) (fun hc => ?_)
  · skip
    refine uX4_full_21 ?_
    refine uX4_full_22 ?_
    exact (go 1000000) _ _ _ M fM (by first | omega | assumption | with_reducible exact rng_ld _ _ _ | with_reducible exact rng_yand _ _ | with_reducible exact rng_yor _ _ | with_reducible exact rng_zcmp _ _ | with_reducible exact yand7 _ | with_reducible exact rng_toInt _ | with_reducible exact yarr23 (by omega) | with_reducible exact yarr57 (by omega) | with_reducible exact Or.inl rfl | with_reducible exact Or.inr rfl) (by first | omega | assumption | with_reducible exact rng_ld _ _ _ | with_reducible exact rng_yand _ _ | with_reducible exact rng_yor _ _ | with_reducible exact rng_zcmp _ _ | with_reducible exact yand7 _ | with_reducible exact rng_toInt _ | with_reducible exact yarr23 (by omega) | with_reducible exact yarr57 (by omega) | with_reducible exact Or.inl rfl | with_reducible exact Or.inr rfl) (by first | exact hSN | exact r56.1) (by first | rfl | exact fu_n (by omega) i3 e50) (by first | exact (fun _ => by have := (pcs_b n (ld M x1)).2; omega) | exact (fun _ => r72 (by omega)) | exact (fun q => absurd q (by omega))) (by first | exact (fun q => absurd q (by omega)) | exact (fun _ => r0 (by omega)) | exact (fun _ => s72 (by omega)) | exact (fun _ => s56 (by omega))) (by omega)
  · skip
    refine uX4_full_17 ?_
    refine uX4_full_22 ?_
    exact (go 1000000) _ _ _ M fM (by first | omega | assumption | with_reducible exact rng_ld _ _ _ | with_reducible exact rng_yand _ _ | with_reducible exact rng_yor _ _ | with_reducible exact rng_zcmp _ _ | with_reducible exact yand7 _ | with_reducible exact rng_toInt _ | with_reducible exact yarr23 (by omega) | with_reducible exact yarr57 (by omega) | with_reducible exact Or.inl rfl | with_reducible exact Or.inr rfl) (by first | omega | assumption | with_reducible exact rng_ld _ _ _ | with_reducible exact rng_yand _ _ | with_reducible exact rng_yor _ _ | with_reducible exact rng_zcmp _ _ | with_reducible exact yand7 _ | with_reducible exact rng_toInt _ | with_reducible exact yarr23 (by omega) | with_reducible exact yarr57 (by omega) | with_reducible exact Or.inl rfl | with_reducible exact Or.inr rfl) (by first | exact hSN | exact r56.1) (by first | rfl | exact fu_n (by omega) i3 e50) (by first | exact (fun _ => by have := (pcs_b n (ld M x1)).2; omega) | exact (fun _ => r72 (by omega)) | exact (fun q => absurd q (by omega))) (by first | exact (fun q => absurd q (by omega)) | exact (fun _ => r0 (by omega)) | exact (fun _ => s72 (by omega)) | exact (fun _ => s56 (by omega))) (by omega)
/-- what settling leaves -/
def SOK (T f : Int → Int) (k n : Int) (X X' : Int → Int) : Prop := SN f k n X' ∧ Cl T k n X' ∧ Ne n X' ∧ Sb n X' X ∧ (∀ Y, SN f k n Y → Cl T k n Y → Sb n Y X → Sb n Y X') ∧ ∀ d : Int, 0 ≤ d → d < 8 → X' (8 * d + d) = X (8 * d + d)
theorem PSp.dg {T f : Int → Int} {k i j c v : Int} {X X' : Int → Int} (h : PSp T f k X X' i j c v) (hi : 0 ≤ i ∧ i < 8) (hc : 0 ≤ c ∧ c < 8) (ic : i ≠ c) (d : Int) (d1 : 0 ≤ d) (d2 : d < 8) : X' (8 * d + d) = X (8 * d + d) := h.at hi hc ic ⟨d1, d2⟩ ⟨d1, d2⟩ (fun q => ic (q.1.symm.trans q.2)) (fun q => ic (q.2.symm.trans q.1))
/-- on the way there -/
def SIN (T f : Int → Int) (k n : Int) (X0 X : Int → Int) : Prop := SN f k n X ∧ Ne n X ∧ Sb n X X0 ∧ (∀ Y, SN f k n Y → Cl T k n Y → Sb n Y X0 → Sb n Y X) ∧ ∀ d : Int, 0 ≤ d → d < 8 → X (8 * d + d) = X0 (8 * d + d)
theorem SIN.ps {T f : Int → Int} {k n : Int} {X0 X X' : Int → Int} {i j c v : Int} (h : SIN T f k n X0 X) (hT : TH T f k) (hn : n ≤ 8) (s : PSp T f k X X' i j c v) (hi : 0 ≤ i ∧ i < n) (hj : 0 ≤ j ∧ j < n) (hc : 0 ≤ c ∧ c < n) (ij : i ≠ j) (jc : j ≠ c) (ic : i ≠ c) (hv : v ≠ 0) : SIN T f k n X0 X' := by
  have b := s.sb hT hn h.1 hi hj hc ij jc ic
  have sn := s.sn hT hn h.1 hi hc ic
  exact ⟨sn, s.ne hT hn h.1 h.2.1 hi hc ic hv, Sb.tr hT.1 sn b.1 h.2.2.1, fun Y hY hC hs => b.2 Y hY hC (h.2.2.2.1 Y hY hC hs), fun d d1 d2 => (s.dg (by omega) (by omega) ic d d1 d2).trans (h.2.2.2.2 d d1 d2)⟩
theorem SIN.no {T f : Int → Int} {k n : Int} {X0 X X' : Int → Int} {i j c v : Int} (h : SIN T f k n X0 X) (hT : TH T f k) (hn : n ≤ 8) (s : PSp T f k X X' i j c v) (hi : 0 ≤ i ∧ i < n) (hj : 0 ≤ j ∧ j < n) (hc : 0 ≤ c ∧ c < n) (ij : i ≠ j) (jc : j ≠ c) (ic : i ≠ c) (hv : v = 0) : ¬ Good T f k n X0 := by
  have b := s.sb hT hn h.1 hi hj hc ij jc ic
  exact good_dn (fun Y hY hC hs => b.2 Y hY hC (h.2.2.2.1 Y hY hC hs)) (no_good hT hi hc ic (s.em (by omega) (by omega) ic hv))
theorem SIN.sn {T f : Int → Int} {k n : Int} {X0 X : Int → Int} (h : SIN T f k n X0 X) : SN f k n X := h.1
/-- the marks behind both passes -/
theorem mk_D {n : Int} {x i l m v1 v2 : Int} (hn : n ≤ 8) (hi : 0 ≤ i ∧ i < n) (hl : 0 ≤ l ∧ l < n) (hm : 0 ≤ m ∧ m < n) {y : Int} (e : (0 < v1 ∧ 0 < v2 ∧ y = zor (zor x (pbit i m)) (pbit l m)) ∨ (0 < v1 ∧ ¬ 0 < v2 ∧ y = zor x (pbit i m)) ∨ (¬ 0 < v1 ∧ 0 < v2 ∧ y = zor x (pbit l m)) ∨ (¬ 0 < v1 ∧ ¬ 0 < v2 ∧ y = x)) : ∀ p : Int, 0 ≤ p → p < 64 → lbt y p = (lbt x p || (decide (0 < v1) && decide (p = pi2 i m)) || (decide (0 < v2) && decide (p = pi2 l m))) := fun p p1 p2 => by
  have a := lbt_pb (a := i) (b := m) (by omega) (by omega) p1
  have b := lbt_pb (a := l) (b := m) (by omega) (by omega) p1
  have a' : lbt (pbit i m) p = decide (p = pi2 i m) := a
  have b' : lbt (pbit l m) p = decide (p = pi2 l m) := b
  rcases e with ⟨h1, h2, e⟩ | ⟨h1, h2, e⟩ | ⟨h1, h2, e⟩ | ⟨h1, h2, e⟩
  · rw [e, lbt_zor, lbt_zor, a', b', decide_eq_true h1, decide_eq_true h2]; simp
  · rw [e, lbt_zor, a', decide_eq_true h1, decide_eq_false h2]; simp
  · rw [e, lbt_zor, b', decide_eq_false h1, decide_eq_true h2]; simp
  · rw [e, decide_eq_false h1, decide_eq_false h2]; simp
theorem tv_pi {n a b : Int} (ha : 0 ≤ a ∧ a < n) (hb : 0 ≤ b ∧ b < n) (ab : a ≠ b) : ∃ i c : Int, 0 ≤ i ∧ i < c ∧ c < n ∧ pi2 a b = 8 * i + c := by
  unfold pi2
  split
  · exact ⟨a, b, by omega, by omega, by omega, rfl⟩
  · exact ⟨b, a, by omega, by omega, by omega, rfl⟩
theorem up_pi {n a b : Int} (hn : n ≤ 8) (ha : 0 ≤ a ∧ a < n) (hb : 0 ≤ b ∧ b < n) (ab : a ≠ b) : ∃ p ∈ up28, 8 * p.1 + p.2 = pi2 a b := by
  obtain ⟨i, c, h1, h2, h3, h4⟩ := tv_pi ha hb ab
  have m := up28_in c.toNat (by omega) i.toNat (by omega)
  rw [show ((i.toNat : Nat) : Int) = i by omega, show ((c.toNat : Nat) : Int) = c by omega] at m
  exact ⟨(i, c), m, h4.symm⟩
/-- a turn of the inner loop -/
theorem set_go {T f : Int → Int} {k n : Int} {X0 X X1 X2 : Int → Int} {x y i l m v1 v2 s : Int} (hT : TH T f k) (hn : n ≤ 8) (h : SIN T f k n X0 X) (hV : VSe T k n X (lbt x) i l m) (hTV : TV n (lbt x)) (hp : s + 2 * pcs n X + tcn n (lbt x) ≤ 476) (hi : 0 ≤ i ∧ i < n) (hl : 0 ≤ l ∧ l < n) (hm : 0 ≤ m ∧ m < n) (il : i ≠ l) (mi : m ≠ i) (ml : m ≠ l) (s1 : PSp T f k X X1 i l m v1) (s2 : PSp T f k X1 X2 l i m v2) (z1 : v1 ≠ 0) (z2 : v2 ≠ 0) (e : (0 < v1 ∧ 0 < v2 ∧ y = zor (zor x (pbit i m)) (pbit l m)) ∨ (0 < v1 ∧ ¬ 0 < v2 ∧ y = zor x (pbit i m)) ∨ (¬ 0 < v1 ∧ 0 < v2 ∧ y = zor x (pbit l m)) ∨ (¬ 0 < v1 ∧ ¬ 0 < v2 ∧ y = x)) : SIN T f k n X0 X2 ∧ VSe T k n X2 (lbt y) i l (m + 1) ∧ TV n (lbt y) ∧ s + 2 * pcs n X2 + tcn n (lbt y) ≤ 476 := by
  have hD := mk_D (n := n) hn hi hl hm e
  have h1 := h.ps hT hn s1 hi hl hm il (fun q => ml q.symm) (fun q => mi q.symm) z1
  have h2 := h1.ps hT hn s2 hl hi hm (fun q => il q.symm) (fun q => mi q.symm) (fun q => ml q.symm) z2
  refine ⟨h2, VSe.go hT hn h.1 hV hi hl hm il mi ml s1 s2 (fun p p1 p2 q => ?_) z1 z2, fun p p1 p2 q => ?_, ?_⟩
  · rw [hD p p1 p2] at q
    simp only [Bool.or_eq_false_iff, Bool.and_eq_false_imp, decide_eq_true_eq, decide_eq_false_iff_not] at q
    exact ⟨q.1.1, q.1.2, q.2⟩
  · rw [hD p p1 p2] at q
    simp only [Bool.or_eq_true, Bool.and_eq_true, decide_eq_true_eq] at q
    rcases q with (q | q) | q
    · exact hTV p p1 p2 q
    · rw [q.2]; exact tv_pi hi hm (fun w => mi w.symm)
    · rw [q.2]; exact tv_pi hl hm (fun w => ml w.symm)
  · have c1 := s1.pc hT hn h.1 hi hm (fun q => mi q.symm)
    have c2 := s2.pc hT hn h1.1 hl hm (fun q => ml q.symm)
    have b1 : pcs n X1 ≤ pcs n X ∧ (0 < v1 → pcs n X1 < pcs n X) := by
      rcases c1 with ⟨e1, e2⟩ | ⟨e1, e2⟩
      · exact ⟨by rw [e2]; omega, fun w => absurd w (by omega)⟩
      · exact ⟨by omega, fun _ => e2⟩
    have b2 : pcs n X2 ≤ pcs n X1 ∧ (0 < v2 → pcs n X2 < pcs n X1) := by
      rcases c2 with ⟨e1, e2⟩ | ⟨e1, e2⟩
      · exact ⟨by rw [e2]; omega, fun w => absurd w (by omega)⟩
      · exact ⟨by omega, fun _ => e2⟩
    have t1 := up_pi hn hi hm (fun w => mi w.symm)
    have t2 := up_pi hn hl hm (fun w => ml w.symm)
    have a1 := tcn_or (n := n) (D := lbt x) (D' := fun p => lbt x p || (decide (0 < v1) && decide (p = pi2 i m))) t1 (fun p _ _ q => by simp [q])
    have a2 := tcn_or (n := n) (D := fun p => lbt x p || (decide (0 < v1) && decide (p = pi2 i m))) (D' := lbt y) t2 (fun p p1 p2 q => by rw [hD p p1 p2]; simp [q])
    by_cases w1 : 0 < v1
    · by_cases w2 : 0 < v2
      · have := b1.2 w1; have := b2.2 w2; omega
      · have e2 : tcn n (lbt y) ≤ tcn n (fun p => lbt x p || (decide (0 < v1) && decide (p = pi2 i m))) := by
          refine ms_le _ (fun p hp _ => ?_)
          have q := up28_of p hp
          show (if lbt y (8 * p.1 + p.2) = true then (1 : Int) else 0) ≤ _
          rw [hD _ (by omega) (by omega), decide_eq_false w2]
          simp
        have := b1.2 w1
        omega
    · have e1 : tcn n (fun p => lbt x p || (decide (0 < v1) && decide (p = pi2 i m))) ≤ tcn n (lbt x) := by
        refine ms_le _ (fun p hp _ => ?_)
        show (if (lbt x (8 * p.1 + p.2) || (decide (0 < v1) && decide (8 * p.1 + p.2 = pi2 i m))) = true then (1 : Int) else 0) ≤ _
        rw [decide_eq_false w1]
        simp
      by_cases w2 : 0 < v2
      · have := b2.2 w2; omega
      · have e2 : tcn n (lbt y) ≤ tcn n (fun p => lbt x p || (decide (0 < v1) && decide (p = pi2 i m))) := by
          refine ms_le _ (fun p hp _ => ?_)
          have q := up28_of p hp
          show (if lbt y (8 * p.1 + p.2) = true then (1 : Int) else 0) ≤ _
          rw [hD _ (by omega) (by omega), decide_eq_false w2]
          simp
        omega
theorem sh_k : ∀ p : Nat, p < 64 → yshr (p : Int) 3 = ((p / 8 : Nat) : Int) ∧ yand (p : Int) 7 = ((p % 8 : Nat) : Int) := by decide +kernel
theorem sh_p {i c : Int} (hi : 0 ≤ i ∧ i < 8) (hc : 0 ≤ c ∧ c < 8) : yshr (8 * i + c) 3 = i ∧ yand (8 * i + c) 7 = c := by
  obtain ⟨p, e⟩ := Int.eq_ofNat_of_zero_le (show 0 ≤ 8 * i + c by omega)
  have := sh_k p (by omega)
  rw [e]
  omega
/-- the lowest pair that is marked is taken -/
theorem set_pop {T f : Int → Int} {k n : Int} {X0 X : Int → Int} {x s : Int} (hn : n ≤ 8) (h : SIN T f k n X0 X) (hV : VS T k n X (lbt x)) (hTV : TV n (lbt x)) (hp : s + 2 * pcs n X + tcn n (lbt x) ≤ 476) (hz : zcmp x 0 ≠ 0) {t : Int} (ht : t = bcL (zand x (-x) - 1)) : ∃ i l : Int, (0 ≤ i ∧ i < l ∧ l < n) ∧ yshr t 3 = i ∧ yand t 7 = l ∧ VSe T k n X (lbt (zand x (x - 1))) i l 0 ∧ TV n (lbt (zand x (x - 1))) ∧ s + 1 + 2 * pcs n X + tcn n (lbt (zand x (x - 1))) ≤ 476 := by
  obtain ⟨r1, r2, r3⟩ := low_x hz
  rw [← ht] at r1 r2 r3
  obtain ⟨i, l, h1, h2, h3, h4⟩ := hTV t r1.1 r1.2 r2
  have sp := sh_p (i := i) (c := l) (by omega) (by omega)
  rw [← h4] at sp
  have e : pi2 i l = t := by unfold pi2; rw [if_pos h2, h4]
  have lt := tcn_pop (n := n) (D := lbt x) (D' := lbt (zand x (x - 1))) (i := i) (c := l) ⟨h1, h2, h3, hn⟩ (by rw [← h4]; exact r2) (fun p p1 p2 => by rw [r3 p p1 p2, h4])
  refine ⟨i, l, ⟨h1, h2, h3⟩, sp.1, sp.2, VS.pop hn hV (by omega) (by omega) (fun p p1 p2 => by rw [r3 p p1 p2, e]), fun p p1 p2 q => ?_, by omega⟩
  rw [r3 p p1 p2, Bool.and_eq_true] at q
  exact hTV p p1 p2 q.1
theorem n8_settles {d : Nat} {Q : Int → yM → Prop} {M : yM} {x1 : Nat} {x2 : Int} {x3 : Int} {T f : Int → Int} {k n : Int} (hA : arrSh x1 64) (h2 : x2 = n) (hn8 : 1 ≤ n ∧ n ≤ 8) (hx20 : 20 ≤ x1) (hCT : CT M T f k) (hSN : SN f k n (ld M x1)) (hNe : Ne n (ld M x1)) (hVS : VS T k n (ld M x1) (lbt x3)) (hTV : TV n (lbt x3)) (kont : ∀ (v : Int) (M' : yM), fr (fun o _ => o = x1) M M' → (v = 1 ∧ SOK T f k n (ld M x1) (ld M' x1) ∨ v = 0 ∧ ¬ Good T f k n (ld M x1)) → Q v M') : XCi (d + 2) 57 [.inr (.inr 21), .inr (.inr x1), .inl x2, .inr (.inl x3)] M Q := by
  refine eX8_settles ?_
  have fM : fr (fun o _ => o = x1) M M := fr.rf
  have go : ∀ N : Nat, (∀ (x5 : Int) (x7 : Int) (wx8 : Option yV) (wx9 : Option yV) (wx10 : Option yV) (wx11 : Option yV) (wx12 : Option yV) (wx13 : Option yV) (M9 : yM), fr (fun o _ => o = x1) M M9 → (0 ≤ x7 ∧ x7 ≤ 1000) → (SIN T f k n (ld M x1) (ld M9 x1)) → (VS T k n (ld M9 x1) (lbt x5)) → (TV n (lbt x5)) → (x7 + 2 * pcs n (ld M9 x1) + tcn n (lbt x5) ≤ 476) → (20 * (1000 - x7) + 10 < (N : Int)) → XW kX8_settles (d + 2) (some .boolean) (wQi Q) 6 [some (.inr (.inr 21)), some (.inr (.inr x1)), some (.inl x2), some (.inr (.inl x3)), none, some (.inr (.inl x5)), none, some (.inl x7), wx8, wx9, wx10, wx11, wx12, wx13] [] M9) ∧ (∀ (x5 : Int) (x7 : Int) (x8 : Int) (x9 : Int) (x10 : Int) (x11 : Int) (wx12 : Option yV) (wx13 : Option yV) (M9 : yM), fr (fun o _ => o = x1) M M9 → (0 ≤ x7 ∧ x7 < 1000) → (0 ≤ x9 ∧ x9 < n) → (0 ≤ x10 ∧ x10 < n) → (x9 ≠ x10) → (0 ≤ x11 ∧ x11 ≤ 8) → (SIN T f k n (ld M x1) (ld M9 x1)) → (VSe T k n (ld M9 x1) (lbt x5) x9 x10 x11) → (TV n (lbt x5)) → (x7 + 1 + 2 * pcs n (ld M9 x1) + tcn n (lbt x5) ≤ 476) → (20 * (1000 - x7) + 9 - x11 < (N : Int)) → XW kX8_settles (d + 2) (some .boolean) (wQi Q) 59 [some (.inr (.inr 21)), some (.inr (.inr x1)), some (.inl x2), some (.inr (.inl x3)), none, some (.inr (.inl x5)), none, some (.inl x7), some (.inl x8), some (.inl x9), some (.inl x10), some (.inl x11), wx12, wx13] [] M9) := by
    intro N
    induction N with
    | zero => refine ⟨?_, ?_⟩ <;> (intros; exfalso; omega)
    | succ N ih =>
      obtain ⟨ih0, ih1⟩ := ih
      refine ⟨?_, ?_⟩
      · skip
        clear fM
        intro x5 x7 wx8 wx9 wx10 wx11 wx12 wx13 M1 fM i0 i1 i2 i3 i4 hm
        refine uX8_settles_6 (rng_zcmp _ _) (fun hc => ?_) (fun hc => ?_)
        · skip
          have pz := (pcs_b n (ld M1 x1)).1
          have tz := (tcn_b n (lbt x5)).1
          refine uX8_settles_166 ?_
          exact kont _ _ fM (by first | exact Or.inl ⟨rfl, i1.1, i2.cl (fun p => zcmp_z (by assumption) p), i1.2.1, i1.2.2.1, i1.2.2.2⟩ | (exfalso; omega))
        · skip
          refine uX8_settles_13 (by first | omega | assumption | with_reducible exact rng_ld _ _ _ | with_reducible exact rng_yand _ _ | with_reducible exact rng_yor _ _ | with_reducible exact rng_zcmp _ _ | with_reducible exact yand7 _ | with_reducible exact rng_toInt _ | with_reducible exact yarr23 (by omega) | with_reducible exact yarr57 (by omega) | with_reducible exact Or.inl rfl | with_reducible exact Or.inr rfl) (fun hc => ?_) (fun hc => ?_)
          · skip
            have pz := (pcs_b n (ld M1 x1)).1
            have tz := (tcn_b n (lbt x5)).1
            refine uX8_settles_166 ?_
            exact kont _ _ fM (by first | exact Or.inl ⟨rfl, i1.1, i2.cl (fun p => zcmp_z (by assumption) p), i1.2.1, i1.2.2.1, i1.2.2.2⟩ | (exfalso; omega))
          · skip
            refine uX8_settles_21 ?_
            refine cJ13   ?_
            obtain ⟨ii, ll, w0, w1, w2, w3, w4, w5⟩ := set_pop (by omega) i1 i2 i3 i4 (by assumption) rfl
            refine uX8_settles_32 ?_
            exact ih1 _ _ _ _ _ _ _ _ M1 fM (by first | omega | assumption | with_reducible exact rng_ld _ _ _ | with_reducible exact rng_yand _ _ | with_reducible exact rng_yor _ _ | with_reducible exact rng_zcmp _ _ | with_reducible exact yand7 _ | with_reducible exact rng_toInt _ | with_reducible exact yarr23 (by omega) | with_reducible exact yarr57 (by omega) | with_reducible exact Or.inl rfl | with_reducible exact Or.inr rfl) (by first | omega | assumption | with_reducible exact rng_ld _ _ _ | with_reducible exact rng_yand _ _ | with_reducible exact rng_yor _ _ | with_reducible exact rng_zcmp _ _ | with_reducible exact yand7 _ | with_reducible exact rng_toInt _ | with_reducible exact yarr23 (by omega) | with_reducible exact yarr57 (by omega) | with_reducible exact Or.inl rfl | with_reducible exact Or.inr rfl) (by first | omega | assumption | with_reducible exact rng_ld _ _ _ | with_reducible exact rng_yand _ _ | with_reducible exact rng_yor _ _ | with_reducible exact rng_zcmp _ _ | with_reducible exact yand7 _ | with_reducible exact rng_toInt _ | with_reducible exact yarr23 (by omega) | with_reducible exact yarr57 (by omega) | with_reducible exact Or.inl rfl | with_reducible exact Or.inr rfl) (by first | omega | assumption | with_reducible exact rng_ld _ _ _ | with_reducible exact rng_yand _ _ | with_reducible exact rng_yor _ _ | with_reducible exact rng_zcmp _ _ | with_reducible exact yand7 _ | with_reducible exact rng_toInt _ | with_reducible exact yarr23 (by omega) | with_reducible exact yarr57 (by omega) | with_reducible exact Or.inl rfl | with_reducible exact Or.inr rfl) (by first | omega | assumption | with_reducible exact rng_ld _ _ _ | with_reducible exact rng_yand _ _ | with_reducible exact rng_yor _ _ | with_reducible exact rng_zcmp _ _ | with_reducible exact yand7 _ | with_reducible exact rng_toInt _ | with_reducible exact yarr23 (by omega) | with_reducible exact yarr57 (by omega) | with_reducible exact Or.inl rfl | with_reducible exact Or.inr rfl) (by first | exact (set_go hCT.2.1 (by omega) i5 i6 i7 i8 (by omega) (by omega) (by omega) (by omega) (by omega) (by omega) g82 g93 (by assumption) (by assumption) (by first | exact Or.inl ⟨by omega, by omega, rfl⟩ | exact Or.inr (Or.inl ⟨by omega, by omega, rfl⟩) | exact Or.inr (Or.inr (Or.inl ⟨by omega, by omega, rfl⟩)) | exact Or.inr (Or.inr (Or.inr ⟨by omega, by omega, rfl⟩)))).1 | assumption) (by first | exact (set_go hCT.2.1 (by omega) i5 i6 i7 i8 (by omega) (by omega) (by omega) (by omega) (by omega) (by omega) g82 g93 (by assumption) (by assumption) (by first | exact Or.inl ⟨by omega, by omega, rfl⟩ | exact Or.inr (Or.inl ⟨by omega, by omega, rfl⟩) | exact Or.inr (Or.inr (Or.inl ⟨by omega, by omega, rfl⟩)) | exact Or.inr (Or.inr (Or.inr ⟨by omega, by omega, rfl⟩)))).2.1 | exact i6.sk (by omega) | exact (by rw [w1, w2]; exact w3)) (by first | exact (set_go hCT.2.1 (by omega) i5 i6 i7 i8 (by omega) (by omega) (by omega) (by omega) (by omega) (by omega) g82 g93 (by assumption) (by assumption) (by first | exact Or.inl ⟨by omega, by omega, rfl⟩ | exact Or.inr (Or.inl ⟨by omega, by omega, rfl⟩) | exact Or.inr (Or.inr (Or.inl ⟨by omega, by omega, rfl⟩)) | exact Or.inr (Or.inr (Or.inr ⟨by omega, by omega, rfl⟩)))).2.2.1 | exact w4 | assumption) (by first | exact (set_go hCT.2.1 (by omega) i5 i6 i7 i8 (by omega) (by omega) (by omega) (by omega) (by omega) (by omega) g82 g93 (by assumption) (by assumption) (by first | exact Or.inl ⟨by omega, by omega, rfl⟩ | exact Or.inr (Or.inl ⟨by omega, by omega, rfl⟩) | exact Or.inr (Or.inr (Or.inl ⟨by omega, by omega, rfl⟩)) | exact Or.inr (Or.inr (Or.inr ⟨by omega, by omega, rfl⟩)))).2.2.2 | omega) (by omega)
      · skip
        clear fM
        intro x5 x7 x8 x9 x10 x11 wx12 wx13 M3 fM i0 i1 i2 i3 i4 i5 i6 i7 i8 hm
        refine uX8_settles_59 (by first | omega | assumption | with_reducible exact rng_ld _ _ _ | with_reducible exact rng_yand _ _ | with_reducible exact rng_yor _ _ | with_reducible exact rng_zcmp _ _ | with_reducible exact yand7 _ | with_reducible exact rng_toInt _ | with_reducible exact yarr23 (by omega) | with_reducible exact yarr57 (by omega) | with_reducible exact Or.inl rfl | with_reducible exact Or.inr rfl) (by first | omega | assumption | with_reducible exact rng_ld _ _ _ | with_reducible exact rng_yand _ _ | with_reducible exact rng_yor _ _ | with_reducible exact rng_zcmp _ _ | with_reducible exact yand7 _ | with_reducible exact rng_toInt _ | with_reducible exact yarr23 (by omega) | with_reducible exact yarr57 (by omega) | with_reducible exact Or.inl rfl | with_reducible exact Or.inr rfl) (fun hc => ?_) (fun hc => ?_)
        · skip
          refine uX8_settles_160 ?_
          exact ih0 _ _ _ _ _ _ _ _ M3 fM (by first | omega | assumption | with_reducible exact rng_ld _ _ _ | with_reducible exact rng_yand _ _ | with_reducible exact rng_yor _ _ | with_reducible exact rng_zcmp _ _ | with_reducible exact yand7 _ | with_reducible exact rng_toInt _ | with_reducible exact yarr23 (by omega) | with_reducible exact yarr57 (by omega) | with_reducible exact Or.inl rfl | with_reducible exact Or.inr rfl) (by first | exact ⟨hSN, hNe, Sb.rf hCT.2.1.1 hSN, fun Y _ _ w => w, fun _ _ _ => rfl⟩ | assumption) (by first | exact hVS | exact i6.end (by omega)) (by first | exact hTV | assumption) (by first | (have a := (pcs_b n (ld M x1)).2; have b := (tcn_b n (lbt x3)).2; omega) | omega) (by omega)
        · skip
          refine uX8_settles_65 (by first | omega | assumption | with_reducible exact rng_ld _ _ _ | with_reducible exact rng_yand _ _ | with_reducible exact rng_yor _ _ | with_reducible exact rng_zcmp _ _ | with_reducible exact yand7 _ | with_reducible exact rng_toInt _ | with_reducible exact yarr23 (by omega) | with_reducible exact yarr57 (by omega) | with_reducible exact Or.inl rfl | with_reducible exact Or.inr rfl) (by first | omega | assumption | with_reducible exact rng_ld _ _ _ | with_reducible exact rng_yand _ _ | with_reducible exact rng_yor _ _ | with_reducible exact rng_zcmp _ _ | with_reducible exact yand7 _ | with_reducible exact rng_toInt _ | with_reducible exact yarr23 (by omega) | with_reducible exact yarr57 (by omega) | with_reducible exact Or.inl rfl | with_reducible exact Or.inr rfl) (fun hc => ?_) (fun hc => ?_)
          · skip
            refine uX8_settles_154 ?_
            exact ih1 _ _ _ _ _ _ _ _ M3 fM (by first | omega | assumption | with_reducible exact rng_ld _ _ _ | with_reducible exact rng_yand _ _ | with_reducible exact rng_yor _ _ | with_reducible exact rng_zcmp _ _ | with_reducible exact yand7 _ | with_reducible exact rng_toInt _ | with_reducible exact yarr23 (by omega) | with_reducible exact yarr57 (by omega) | with_reducible exact Or.inl rfl | with_reducible exact Or.inr rfl) (by first | omega | assumption | with_reducible exact rng_ld _ _ _ | with_reducible exact rng_yand _ _ | with_reducible exact rng_yor _ _ | with_reducible exact rng_zcmp _ _ | with_reducible exact yand7 _ | with_reducible exact rng_toInt _ | with_reducible exact yarr23 (by omega) | with_reducible exact yarr57 (by omega) | with_reducible exact Or.inl rfl | with_reducible exact Or.inr rfl) (by first | omega | assumption | with_reducible exact rng_ld _ _ _ | with_reducible exact rng_yand _ _ | with_reducible exact rng_yor _ _ | with_reducible exact rng_zcmp _ _ | with_reducible exact yand7 _ | with_reducible exact rng_toInt _ | with_reducible exact yarr23 (by omega) | with_reducible exact yarr57 (by omega) | with_reducible exact Or.inl rfl | with_reducible exact Or.inr rfl) (by first | omega | assumption | with_reducible exact rng_ld _ _ _ | with_reducible exact rng_yand _ _ | with_reducible exact rng_yor _ _ | with_reducible exact rng_zcmp _ _ | with_reducible exact yand7 _ | with_reducible exact rng_toInt _ | with_reducible exact yarr23 (by omega) | with_reducible exact yarr57 (by omega) | with_reducible exact Or.inl rfl | with_reducible exact Or.inr rfl) (by first | omega | assumption | with_reducible exact rng_ld _ _ _ | with_reducible exact rng_yand _ _ | with_reducible exact rng_yor _ _ | with_reducible exact rng_zcmp _ _ | with_reducible exact yand7 _ | with_reducible exact rng_toInt _ | with_reducible exact yarr23 (by omega) | with_reducible exact yarr57 (by omega) | with_reducible exact Or.inl rfl | with_reducible exact Or.inr rfl) (by first | exact (set_go hCT.2.1 (by omega) i5 i6 i7 i8 (by omega) (by omega) (by omega) (by omega) (by omega) (by omega) g82 g93 (by assumption) (by assumption) (by first | exact Or.inl ⟨by omega, by omega, rfl⟩ | exact Or.inr (Or.inl ⟨by omega, by omega, rfl⟩) | exact Or.inr (Or.inr (Or.inl ⟨by omega, by omega, rfl⟩)) | exact Or.inr (Or.inr (Or.inr ⟨by omega, by omega, rfl⟩)))).1 | assumption) (by first | exact (set_go hCT.2.1 (by omega) i5 i6 i7 i8 (by omega) (by omega) (by omega) (by omega) (by omega) (by omega) g82 g93 (by assumption) (by assumption) (by first | exact Or.inl ⟨by omega, by omega, rfl⟩ | exact Or.inr (Or.inl ⟨by omega, by omega, rfl⟩) | exact Or.inr (Or.inr (Or.inl ⟨by omega, by omega, rfl⟩)) | exact Or.inr (Or.inr (Or.inr ⟨by omega, by omega, rfl⟩)))).2.1 | exact i6.sk (by omega) | exact (by rw [w1, w2]; exact w3)) (by first | exact (set_go hCT.2.1 (by omega) i5 i6 i7 i8 (by omega) (by omega) (by omega) (by omega) (by omega) (by omega) g82 g93 (by assumption) (by assumption) (by first | exact Or.inl ⟨by omega, by omega, rfl⟩ | exact Or.inr (Or.inl ⟨by omega, by omega, rfl⟩) | exact Or.inr (Or.inr (Or.inl ⟨by omega, by omega, rfl⟩)) | exact Or.inr (Or.inr (Or.inr ⟨by omega, by omega, rfl⟩)))).2.2.1 | exact w4 | assumption) (by first | exact (set_go hCT.2.1 (by omega) i5 i6 i7 i8 (by omega) (by omega) (by omega) (by omega) (by omega) (by omega) g82 g93 (by assumption) (by assumption) (by first | exact Or.inl ⟨by omega, by omega, rfl⟩ | exact Or.inr (Or.inl ⟨by omega, by omega, rfl⟩) | exact Or.inr (Or.inr (Or.inl ⟨by omega, by omega, rfl⟩)) | exact Or.inr (Or.inr (Or.inr ⟨by omega, by omega, rfl⟩)))).2.2.2 | omega) (by omega)
          · skip
            refine uX8_settles_72 (by first | omega | assumption | with_reducible exact rng_ld _ _ _ | with_reducible exact rng_yand _ _ | with_reducible exact rng_yor _ _ | with_reducible exact rng_zcmp _ _ | with_reducible exact yand7 _ | with_reducible exact rng_toInt _ | with_reducible exact yarr23 (by omega) | with_reducible exact yarr57 (by omega) | with_reducible exact Or.inl rfl | with_reducible exact Or.inr rfl) (by first | omega | assumption | with_reducible exact rng_ld _ _ _ | with_reducible exact rng_yand _ _ | with_reducible exact rng_yor _ _ | with_reducible exact rng_zcmp _ _ | with_reducible exact yand7 _ | with_reducible exact rng_toInt _ | with_reducible exact yarr23 (by omega) | with_reducible exact yarr57 (by omega) | with_reducible exact Or.inl rfl | with_reducible exact Or.inr rfl) (fun hc => ?_) (fun hc => ?_)
            · skip
              refine uX8_settles_82 ?_
              refine XC.deep (n8_pass  (d := 0) (by first | assumption | exact ⟨rfl, Nat.le_of_ble_eq_true rfl⟩ | with_reducible exact yarr23 (by omega) | with_reducible exact yarr57 (by omega)) (by first | omega | assumption | with_reducible exact rng_ld _ _ _ | with_reducible exact rng_yand _ _ | with_reducible exact rng_yor _ _ | with_reducible exact rng_zcmp _ _ | with_reducible exact yand7 _ | with_reducible exact rng_toInt _ | with_reducible exact yarr23 (by omega) | with_reducible exact yarr57 (by omega) | with_reducible exact Or.inl rfl | with_reducible exact Or.inr rfl) (by first | omega | assumption | with_reducible exact rng_ld _ _ _ | with_reducible exact rng_yand _ _ | with_reducible exact rng_yor _ _ | with_reducible exact rng_zcmp _ _ | with_reducible exact yand7 _ | with_reducible exact rng_toInt _ | with_reducible exact yarr23 (by omega) | with_reducible exact yarr57 (by omega) | with_reducible exact Or.inl rfl | with_reducible exact Or.inr rfl) (by first | omega | assumption | with_reducible exact rng_ld _ _ _ | with_reducible exact rng_yand _ _ | with_reducible exact rng_yor _ _ | with_reducible exact rng_zcmp _ _ | with_reducible exact yand7 _ | with_reducible exact rng_toInt _ | with_reducible exact yarr23 (by omega) | with_reducible exact yarr57 (by omega) | with_reducible exact Or.inl rfl | with_reducible exact Or.inr rfl) (by first | omega | assumption | with_reducible exact rng_ld _ _ _ | with_reducible exact rng_yand _ _ | with_reducible exact rng_yor _ _ | with_reducible exact rng_zcmp _ _ | with_reducible exact yand7 _ | with_reducible exact rng_toInt _ | with_reducible exact yarr23 (by omega) | with_reducible exact yarr57 (by omega) | with_reducible exact Or.inl rfl | with_reducible exact Or.inr rfl) (by first | omega | assumption | with_reducible exact rng_ld _ _ _ | with_reducible exact rng_yand _ _ | with_reducible exact rng_yor _ _ | with_reducible exact rng_zcmp _ _ | with_reducible exact yand7 _ | with_reducible exact rng_toInt _ | with_reducible exact yarr23 (by omega) | with_reducible exact yarr57 (by omega) | with_reducible exact Or.inl rfl | with_reducible exact Or.inr rfl) (by first | omega | assumption | with_reducible exact rng_ld _ _ _ | with_reducible exact rng_yand _ _ | with_reducible exact rng_yor _ _ | with_reducible exact rng_zcmp _ _ | with_reducible exact yand7 _ | with_reducible exact rng_toInt _ | with_reducible exact yarr23 (by omega) | with_reducible exact yarr57 (by omega) | with_reducible exact Or.inl rfl | with_reducible exact Or.inr rfl) (by first | omega | assumption | with_reducible exact rng_ld _ _ _ | with_reducible exact rng_yand _ _ | with_reducible exact rng_yor _ _ | with_reducible exact rng_zcmp _ _ | with_reducible exact yand7 _ | with_reducible exact rng_toInt _ | with_reducible exact yarr23 (by omega) | with_reducible exact yarr57 (by omega) | with_reducible exact Or.inl rfl | with_reducible exact Or.inr rfl) (by first | omega | assumption | with_reducible exact rng_ld _ _ _ | with_reducible exact rng_yand _ _ | with_reducible exact rng_yor _ _ | with_reducible exact rng_zcmp _ _ | with_reducible exact yand7 _ | with_reducible exact rng_toInt _ | with_reducible exact yarr23 (by omega) | with_reducible exact yarr57 (by omega) | with_reducible exact Or.inl rfl | with_reducible exact Or.inr rfl) (hCT.fr fM (by (first | (dsimp only [wNo]; omega) | omega)) (fun _ => by (first | (dsimp only [wNo]; omega) | omega)) (fun _ => by (first | (dsimp only [wNo]; omega) | omega))) i5.1 (fun v82 M4 fM4 p4a => ?_)) (by omega)
              replace fM := fM.tr fM4 (by intro o j hw; first | omega | exact hw | (dsimp only [wSub, wRun, wNar, wFil, wCan, wLst, wCar, wDr, wFl, wMq, wRd, wRx, wCr, wTab, wTr, wNew, wKi, wKn, wTn, wOb, wPt, wTl, wOq] at hw; dsimp only [wSub, wRun, wNar, wFil, wCan, wLst, wCar, wDr, wFl, wMq, wRd, wRx, wCr, wTab, wTr, wNew, wKi, wKn, wTn, wOb, wPt, wTl, wOq]; omega) | (dsimp only [wSub, wRun, wNar, wFil, wCan, wLst, wCar, wDr, wFl, wMq, wRd, wRx, wCr, wTab, wTr, wNew, wKi, wKn, wTn, wOb, wPt, wTl, wOq]; omega) | (dsimp only [wSub, wRun, wNar, wFil, wCan, wLst, wCar, wDr, wFl, wMq, wRd, wRx, wCr, wTab, wTr, wNew, wKi, wKn, wTn, wOb, wPt, wTl, wOq] at hw; omega) | (simp [wSub, wRun, wNar, wFil, wCan, wLst, wCar, wDr, wFl, wMq, wRd, wRx, wCr, wTab, wTr, wNew, wKi, wKn, wTn, wOb, wPt, wTl, wOq] at hw; simp [wSub, wRun, wNar, wFil, wCan, wLst, wCar, wDr, wFl, wMq, wRd, wRx, wCr, wTab, wTr, wNew, wKi, wKn, wTn, wOb, wPt, wTl, wOq]; omega))
              have g82 : PSp T f k (ld M3 x1) (ld M4 x1) x9 x10 x11 v82 := p4a
              have y82 := g82.y
              have s82 : SN f k n (ld M4 x1) := g82.sn hCT.2.1 (by omega) i5.1 (by omega) (by omega) (by omega)
              refine uX8_settles_93 ?_
              refine XC.deep (n8_pass  (d := 0) (by first | assumption | exact ⟨rfl, Nat.le_of_ble_eq_true rfl⟩ | with_reducible exact yarr23 (by omega) | with_reducible exact yarr57 (by omega)) (by first | omega | assumption | with_reducible exact rng_ld _ _ _ | with_reducible exact rng_yand _ _ | with_reducible exact rng_yor _ _ | with_reducible exact rng_zcmp _ _ | with_reducible exact yand7 _ | with_reducible exact rng_toInt _ | with_reducible exact yarr23 (by omega) | with_reducible exact yarr57 (by omega) | with_reducible exact Or.inl rfl | with_reducible exact Or.inr rfl) (by first | omega | assumption | with_reducible exact rng_ld _ _ _ | with_reducible exact rng_yand _ _ | with_reducible exact rng_yor _ _ | with_reducible exact rng_zcmp _ _ | with_reducible exact yand7 _ | with_reducible exact rng_toInt _ | with_reducible exact yarr23 (by omega) | with_reducible exact yarr57 (by omega) | with_reducible exact Or.inl rfl | with_reducible exact Or.inr rfl) (by first | omega | assumption | with_reducible exact rng_ld _ _ _ | with_reducible exact rng_yand _ _ | with_reducible exact rng_yor _ _ | with_reducible exact rng_zcmp _ _ | with_reducible exact yand7 _ | with_reducible exact rng_toInt _ | with_reducible exact yarr23 (by omega) | with_reducible exact yarr57 (by omega) | with_reducible exact Or.inl rfl | with_reducible exact Or.inr rfl) (by first | omega | assumption | with_reducible exact rng_ld _ _ _ | with_reducible exact rng_yand _ _ | with_reducible exact rng_yor _ _ | with_reducible exact rng_zcmp _ _ | with_reducible exact yand7 _ | with_reducible exact rng_toInt _ | with_reducible exact yarr23 (by omega) | with_reducible exact yarr57 (by omega) | with_reducible exact Or.inl rfl | with_reducible exact Or.inr rfl) (by first | omega | assumption | with_reducible exact rng_ld _ _ _ | with_reducible exact rng_yand _ _ | with_reducible exact rng_yor _ _ | with_reducible exact rng_zcmp _ _ | with_reducible exact yand7 _ | with_reducible exact rng_toInt _ | with_reducible exact yarr23 (by omega) | with_reducible exact yarr57 (by omega) | with_reducible exact Or.inl rfl | with_reducible exact Or.inr rfl) (by first | omega | assumption | with_reducible exact rng_ld _ _ _ | with_reducible exact rng_yand _ _ | with_reducible exact rng_yor _ _ | with_reducible exact rng_zcmp _ _ | with_reducible exact yand7 _ | with_reducible exact rng_toInt _ | with_reducible exact yarr23 (by omega) | with_reducible exact yarr57 (by omega) | with_reducible exact Or.inl rfl | with_reducible exact Or.inr rfl) (by first | omega | assumption | with_reducible exact rng_ld _ _ _ | with_reducible exact rng_yand _ _ | with_reducible exact rng_yor _ _ | with_reducible exact rng_zcmp _ _ | with_reducible exact yand7 _ | with_reducible exact rng_toInt _ | with_reducible exact yarr23 (by omega) | with_reducible exact yarr57 (by omega) | with_reducible exact Or.inl rfl | with_reducible exact Or.inr rfl) (by first | omega | assumption | with_reducible exact rng_ld _ _ _ | with_reducible exact rng_yand _ _ | with_reducible exact rng_yor _ _ | with_reducible exact rng_zcmp _ _ | with_reducible exact yand7 _ | with_reducible exact rng_toInt _ | with_reducible exact yarr23 (by omega) | with_reducible exact yarr57 (by omega) | with_reducible exact Or.inl rfl | with_reducible exact Or.inr rfl) (hCT.fr fM (by (first | (dsimp only [wNo]; omega) | omega)) (fun _ => by (first | (dsimp only [wNo]; omega) | omega)) (fun _ => by (first | (dsimp only [wNo]; omega) | omega))) s82 (fun v93 M5 fM5 p5a => ?_)) (by omega)
              replace fM := fM.tr fM5 (by intro o j hw; first | omega | exact hw | (dsimp only [wSub, wRun, wNar, wFil, wCan, wLst, wCar, wDr, wFl, wMq, wRd, wRx, wCr, wTab, wTr, wNew, wKi, wKn, wTn, wOb, wPt, wTl, wOq] at hw; dsimp only [wSub, wRun, wNar, wFil, wCan, wLst, wCar, wDr, wFl, wMq, wRd, wRx, wCr, wTab, wTr, wNew, wKi, wKn, wTn, wOb, wPt, wTl, wOq]; omega) | (dsimp only [wSub, wRun, wNar, wFil, wCan, wLst, wCar, wDr, wFl, wMq, wRd, wRx, wCr, wTab, wTr, wNew, wKi, wKn, wTn, wOb, wPt, wTl, wOq]; omega) | (dsimp only [wSub, wRun, wNar, wFil, wCan, wLst, wCar, wDr, wFl, wMq, wRd, wRx, wCr, wTab, wTr, wNew, wKi, wKn, wTn, wOb, wPt, wTl, wOq] at hw; omega) | (simp [wSub, wRun, wNar, wFil, wCan, wLst, wCar, wDr, wFl, wMq, wRd, wRx, wCr, wTab, wTr, wNew, wKi, wKn, wTn, wOb, wPt, wTl, wOq] at hw; simp [wSub, wRun, wNar, wFil, wCan, wLst, wCar, wDr, wFl, wMq, wRd, wRx, wCr, wTab, wTr, wNew, wKi, wKn, wTn, wOb, wPt, wTl, wOq]; omega))
              have g93 : PSp T f k (ld M4 x1) (ld M5 x1) x10 x9 x11 v93 := p5a
              have y93 := g93.y
              refine uX8_settles_106 (by first | omega | assumption | with_reducible exact rng_ld _ _ _ | with_reducible exact rng_yand _ _ | with_reducible exact rng_yor _ _ | with_reducible exact rng_zcmp _ _ | with_reducible exact yand7 _ | with_reducible exact rng_toInt _ | with_reducible exact yarr23 (by omega) | with_reducible exact yarr57 (by omega) | with_reducible exact Or.inl rfl | with_reducible exact Or.inr rfl) (fun hc => ?_) (fun hc => ?_)
              · skip
                refine uX8_settles_118 ?_
                exact kont _ _ fM (Or.inr ⟨rfl, by first | exact i5.no hCT.2.1 (by omega) g82 (by omega) (by omega) (by omega) (by omega) (by omega) (by omega) (by assumption) | exact (i5.ps hCT.2.1 (by omega) g82 (by omega) (by omega) (by omega) (by omega) (by omega) (by omega) (by assumption)).no hCT.2.1 (by omega) g93 (by omega) (by omega) (by omega) (by omega) (by omega) (by omega) (by assumption)⟩)
              · skip
                refine uX8_settles_113 (by first | omega | assumption | with_reducible exact rng_ld _ _ _ | with_reducible exact rng_yand _ _ | with_reducible exact rng_yor _ _ | with_reducible exact rng_zcmp _ _ | with_reducible exact yand7 _ | with_reducible exact rng_toInt _ | with_reducible exact yarr23 (by omega) | with_reducible exact yarr57 (by omega) | with_reducible exact Or.inl rfl | with_reducible exact Or.inr rfl) (fun hc => ?_) (fun hc => ?_)
                · skip
                  refine uX8_settles_120 (by first | omega | assumption | with_reducible exact rng_ld _ _ _ | with_reducible exact rng_yand _ _ | with_reducible exact rng_yor _ _ | with_reducible exact rng_zcmp _ _ | with_reducible exact yand7 _ | with_reducible exact rng_toInt _ | with_reducible exact yarr23 (by omega) | with_reducible exact yarr57 (by omega) | with_reducible exact Or.inl rfl | with_reducible exact Or.inr rfl) (fun hc => ?_) (fun hc => ?_)
                  · skip
                    refine uX8_settles_137 (by first | omega | assumption | with_reducible exact rng_ld _ _ _ | with_reducible exact rng_yand _ _ | with_reducible exact rng_yor _ _ | with_reducible exact rng_zcmp _ _ | with_reducible exact yand7 _ | with_reducible exact rng_toInt _ | with_reducible exact yarr23 (by omega) | with_reducible exact yarr57 (by omega) | with_reducible exact Or.inl rfl | with_reducible exact Or.inr rfl) (fun hc => ?_) (fun hc => ?_)
                    · skip
                      refine uX8_settles_154 ?_
                      exact ih1 _ _ _ _ _ _ _ _ M5 fM (by first | omega | assumption | with_reducible exact rng_ld _ _ _ | with_reducible exact rng_yand _ _ | with_reducible exact rng_yor _ _ | with_reducible exact rng_zcmp _ _ | with_reducible exact yand7 _ | with_reducible exact rng_toInt _ | with_reducible exact yarr23 (by omega) | with_reducible exact yarr57 (by omega) | with_reducible exact Or.inl rfl | with_reducible exact Or.inr rfl) (by first | omega | assumption | with_reducible exact rng_ld _ _ _ | with_reducible exact rng_yand _ _ | with_reducible exact rng_yor _ _ | with_reducible exact rng_zcmp _ _ | with_reducible exact yand7 _ | with_reducible exact rng_toInt _ | with_reducible exact yarr23 (by omega) | with_reducible exact yarr57 (by omega) | with_reducible exact Or.inl rfl | with_reducible exact Or.inr rfl) (by first | omega | assumption | with_reducible exact rng_ld _ _ _ | with_reducible exact rng_yand _ _ | with_reducible exact rng_yor _ _ | with_reducible exact rng_zcmp _ _ | with_reducible exact yand7 _ | with_reducible exact rng_toInt _ | with_reducible exact yarr23 (by omega) | with_reducible exact yarr57 (by omega) | with_reducible exact Or.inl rfl | with_reducible exact Or.inr rfl) (by first | omega | assumption | with_reducible exact rng_ld _ _ _ | with_reducible exact rng_yand _ _ | with_reducible exact rng_yor _ _ | with_reducible exact rng_zcmp _ _ | with_reducible exact yand7 _ | with_reducible exact rng_toInt _ | with_reducible exact yarr23 (by omega) | with_reducible exact yarr57 (by omega) | with_reducible exact Or.inl rfl | with_reducible exact Or.inr rfl) (by first | omega | assumption | with_reducible exact rng_ld _ _ _ | with_reducible exact rng_yand _ _ | with_reducible exact rng_yor _ _ | with_reducible exact rng_zcmp _ _ | with_reducible exact yand7 _ | with_reducible exact rng_toInt _ | with_reducible exact yarr23 (by omega) | with_reducible exact yarr57 (by omega) | with_reducible exact Or.inl rfl | with_reducible exact Or.inr rfl) (by first | exact (set_go hCT.2.1 (by omega) i5 i6 i7 i8 (by omega) (by omega) (by omega) (by omega) (by omega) (by omega) g82 g93 (by assumption) (by assumption) (by first | exact Or.inl ⟨by omega, by omega, rfl⟩ | exact Or.inr (Or.inl ⟨by omega, by omega, rfl⟩) | exact Or.inr (Or.inr (Or.inl ⟨by omega, by omega, rfl⟩)) | exact Or.inr (Or.inr (Or.inr ⟨by omega, by omega, rfl⟩)))).1 | assumption) (by first | exact (set_go hCT.2.1 (by omega) i5 i6 i7 i8 (by omega) (by omega) (by omega) (by omega) (by omega) (by omega) g82 g93 (by assumption) (by assumption) (by first | exact Or.inl ⟨by omega, by omega, rfl⟩ | exact Or.inr (Or.inl ⟨by omega, by omega, rfl⟩) | exact Or.inr (Or.inr (Or.inl ⟨by omega, by omega, rfl⟩)) | exact Or.inr (Or.inr (Or.inr ⟨by omega, by omega, rfl⟩)))).2.1 | exact i6.sk (by omega) | exact (by rw [w1, w2]; exact w3)) (by first | exact (set_go hCT.2.1 (by omega) i5 i6 i7 i8 (by omega) (by omega) (by omega) (by omega) (by omega) (by omega) g82 g93 (by assumption) (by assumption) (by first | exact Or.inl ⟨by omega, by omega, rfl⟩ | exact Or.inr (Or.inl ⟨by omega, by omega, rfl⟩) | exact Or.inr (Or.inr (Or.inl ⟨by omega, by omega, rfl⟩)) | exact Or.inr (Or.inr (Or.inr ⟨by omega, by omega, rfl⟩)))).2.2.1 | exact w4 | assumption) (by first | exact (set_go hCT.2.1 (by omega) i5 i6 i7 i8 (by omega) (by omega) (by omega) (by omega) (by omega) (by omega) g82 g93 (by assumption) (by assumption) (by first | exact Or.inl ⟨by omega, by omega, rfl⟩ | exact Or.inr (Or.inl ⟨by omega, by omega, rfl⟩) | exact Or.inr (Or.inr (Or.inl ⟨by omega, by omega, rfl⟩)) | exact Or.inr (Or.inr (Or.inr ⟨by omega, by omega, rfl⟩)))).2.2.2 | omega) (by omega)
                    · skip
                      refine uX8_settles_142 ?_
                      refine c11_pairBit  (by first | omega | assumption | with_reducible exact rng_ld _ _ _ | with_reducible exact rng_yand _ _ | with_reducible exact rng_yor _ _ | with_reducible exact rng_zcmp _ _ | with_reducible exact yand7 _ | with_reducible exact rng_toInt _ | with_reducible exact yarr23 (by omega) | with_reducible exact yarr57 (by omega) | with_reducible exact Or.inl rfl | with_reducible exact Or.inr rfl) (by first | omega | assumption | with_reducible exact rng_ld _ _ _ | with_reducible exact rng_yand _ _ | with_reducible exact rng_yor _ _ | with_reducible exact rng_zcmp _ _ | with_reducible exact yand7 _ | with_reducible exact rng_toInt _ | with_reducible exact yarr23 (by omega) | with_reducible exact yarr57 (by omega) | with_reducible exact Or.inl rfl | with_reducible exact Or.inr rfl) ?_
                      refine uX8_settles_151 ?_
                      refine uX8_settles_154 ?_
                      exact ih1 _ _ _ _ _ _ _ _ M5 fM (by first | omega | assumption | with_reducible exact rng_ld _ _ _ | with_reducible exact rng_yand _ _ | with_reducible exact rng_yor _ _ | with_reducible exact rng_zcmp _ _ | with_reducible exact yand7 _ | with_reducible exact rng_toInt _ | with_reducible exact yarr23 (by omega) | with_reducible exact yarr57 (by omega) | with_reducible exact Or.inl rfl | with_reducible exact Or.inr rfl) (by first | omega | assumption | with_reducible exact rng_ld _ _ _ | with_reducible exact rng_yand _ _ | with_reducible exact rng_yor _ _ | with_reducible exact rng_zcmp _ _ | with_reducible exact yand7 _ | with_reducible exact rng_toInt _ | with_reducible exact yarr23 (by omega) | with_reducible exact yarr57 (by omega) | with_reducible exact Or.inl rfl | with_reducible exact Or.inr rfl) (by first | omega | assumption | with_reducible exact rng_ld _ _ _ | with_reducible exact rng_yand _ _ | with_reducible exact rng_yor _ _ | with_reducible exact rng_zcmp _ _ | with_reducible exact yand7 _ | with_reducible exact rng_toInt _ | with_reducible exact yarr23 (by omega) | with_reducible exact yarr57 (by omega) | with_reducible exact Or.inl rfl | with_reducible exact Or.inr rfl) (by first | omega | assumption | with_reducible exact rng_ld _ _ _ | with_reducible exact rng_yand _ _ | with_reducible exact rng_yor _ _ | with_reducible exact rng_zcmp _ _ | with_reducible exact yand7 _ | with_reducible exact rng_toInt _ | with_reducible exact yarr23 (by omega) | with_reducible exact yarr57 (by omega) | with_reducible exact Or.inl rfl | with_reducible exact Or.inr rfl) (by first | omega | assumption | with_reducible exact rng_ld _ _ _ | with_reducible exact rng_yand _ _ | with_reducible exact rng_yor _ _ | with_reducible exact rng_zcmp _ _ | with_reducible exact yand7 _ | with_reducible exact rng_toInt _ | with_reducible exact yarr23 (by omega) | with_reducible exact yarr57 (by omega) | with_reducible exact Or.inl rfl | with_reducible exact Or.inr rfl) (by first | exact (set_go hCT.2.1 (by omega) i5 i6 i7 i8 (by omega) (by omega) (by omega) (by omega) (by omega) (by omega) g82 g93 (by assumption) (by assumption) (by first | exact Or.inl ⟨by omega, by omega, rfl⟩ | exact Or.inr (Or.inl ⟨by omega, by omega, rfl⟩) | exact Or.inr (Or.inr (Or.inl ⟨by omega, by omega, rfl⟩)) | exact Or.inr (Or.inr (Or.inr ⟨by omega, by omega, rfl⟩)))).1 | assumption) (by first | exact (set_go hCT.2.1 (by omega) i5 i6 i7 i8 (by omega) (by omega) (by omega) (by omega) (by omega) (by omega) g82 g93 (by assumption) (by assumption) (by first | exact Or.inl ⟨by omega, by omega, rfl⟩ | exact Or.inr (Or.inl ⟨by omega, by omega, rfl⟩) | exact Or.inr (Or.inr (Or.inl ⟨by omega, by omega, rfl⟩)) | exact Or.inr (Or.inr (Or.inr ⟨by omega, by omega, rfl⟩)))).2.1 | exact i6.sk (by omega) | exact (by rw [w1, w2]; exact w3)) (by first | exact (set_go hCT.2.1 (by omega) i5 i6 i7 i8 (by omega) (by omega) (by omega) (by omega) (by omega) (by omega) g82 g93 (by assumption) (by assumption) (by first | exact Or.inl ⟨by omega, by omega, rfl⟩ | exact Or.inr (Or.inl ⟨by omega, by omega, rfl⟩) | exact Or.inr (Or.inr (Or.inl ⟨by omega, by omega, rfl⟩)) | exact Or.inr (Or.inr (Or.inr ⟨by omega, by omega, rfl⟩)))).2.2.1 | exact w4 | assumption) (by first | exact (set_go hCT.2.1 (by omega) i5 i6 i7 i8 (by omega) (by omega) (by omega) (by omega) (by omega) (by omega) g82 g93 (by assumption) (by assumption) (by first | exact Or.inl ⟨by omega, by omega, rfl⟩ | exact Or.inr (Or.inl ⟨by omega, by omega, rfl⟩) | exact Or.inr (Or.inr (Or.inl ⟨by omega, by omega, rfl⟩)) | exact Or.inr (Or.inr (Or.inr ⟨by omega, by omega, rfl⟩)))).2.2.2 | omega) (by omega)
                  · skip
                    refine uX8_settles_125 ?_
                    refine c11_pairBit  (by first | omega | assumption | with_reducible exact rng_ld _ _ _ | with_reducible exact rng_yand _ _ | with_reducible exact rng_yor _ _ | with_reducible exact rng_zcmp _ _ | with_reducible exact yand7 _ | with_reducible exact rng_toInt _ | with_reducible exact yarr23 (by omega) | with_reducible exact yarr57 (by omega) | with_reducible exact Or.inl rfl | with_reducible exact Or.inr rfl) (by first | omega | assumption | with_reducible exact rng_ld _ _ _ | with_reducible exact rng_yand _ _ | with_reducible exact rng_yor _ _ | with_reducible exact rng_zcmp _ _ | with_reducible exact yand7 _ | with_reducible exact rng_toInt _ | with_reducible exact yarr23 (by omega) | with_reducible exact yarr57 (by omega) | with_reducible exact Or.inl rfl | with_reducible exact Or.inr rfl) ?_
                    refine uX8_settles_134 ?_
                    refine uX8_settles_137 (by first | omega | assumption | with_reducible exact rng_ld _ _ _ | with_reducible exact rng_yand _ _ | with_reducible exact rng_yor _ _ | with_reducible exact rng_zcmp _ _ | with_reducible exact yand7 _ | with_reducible exact rng_toInt _ | with_reducible exact yarr23 (by omega) | with_reducible exact yarr57 (by omega) | with_reducible exact Or.inl rfl | with_reducible exact Or.inr rfl) (fun hc => ?_) (fun hc => ?_)
                    · skip
                      refine uX8_settles_154 ?_
                      exact ih1 _ _ _ _ _ _ _ _ M5 fM (by first | omega | assumption | with_reducible exact rng_ld _ _ _ | with_reducible exact rng_yand _ _ | with_reducible exact rng_yor _ _ | with_reducible exact rng_zcmp _ _ | with_reducible exact yand7 _ | with_reducible exact rng_toInt _ | with_reducible exact yarr23 (by omega) | with_reducible exact yarr57 (by omega) | with_reducible exact Or.inl rfl | with_reducible exact Or.inr rfl) (by first | omega | assumption | with_reducible exact rng_ld _ _ _ | with_reducible exact rng_yand _ _ | with_reducible exact rng_yor _ _ | with_reducible exact rng_zcmp _ _ | with_reducible exact yand7 _ | with_reducible exact rng_toInt _ | with_reducible exact yarr23 (by omega) | with_reducible exact yarr57 (by omega) | with_reducible exact Or.inl rfl | with_reducible exact Or.inr rfl) (by first | omega | assumption | with_reducible exact rng_ld _ _ _ | with_reducible exact rng_yand _ _ | with_reducible exact rng_yor _ _ | with_reducible exact rng_zcmp _ _ | with_reducible exact yand7 _ | with_reducible exact rng_toInt _ | with_reducible exact yarr23 (by omega) | with_reducible exact yarr57 (by omega) | with_reducible exact Or.inl rfl | with_reducible exact Or.inr rfl) (by first | omega | assumption | with_reducible exact rng_ld _ _ _ | with_reducible exact rng_yand _ _ | with_reducible exact rng_yor _ _ | with_reducible exact rng_zcmp _ _ | with_reducible exact yand7 _ | with_reducible exact rng_toInt _ | with_reducible exact yarr23 (by omega) | with_reducible exact yarr57 (by omega) | with_reducible exact Or.inl rfl | with_reducible exact Or.inr rfl) (by first | omega | assumption | with_reducible exact rng_ld _ _ _ | with_reducible exact rng_yand _ _ | with_reducible exact rng_yor _ _ | with_reducible exact rng_zcmp _ _ | with_reducible exact yand7 _ | with_reducible exact rng_toInt _ | with_reducible exact yarr23 (by omega) | with_reducible exact yarr57 (by omega) | with_reducible exact Or.inl rfl | with_reducible exact Or.inr rfl) (by first | exact (set_go hCT.2.1 (by omega) i5 i6 i7 i8 (by omega) (by omega) (by omega) (by omega) (by omega) (by omega) g82 g93 (by assumption) (by assumption) (by first | exact Or.inl ⟨by omega, by omega, rfl⟩ | exact Or.inr (Or.inl ⟨by omega, by omega, rfl⟩) | exact Or.inr (Or.inr (Or.inl ⟨by omega, by omega, rfl⟩)) | exact Or.inr (Or.inr (Or.inr ⟨by omega, by omega, rfl⟩)))).1 | assumption) (by first | exact (set_go hCT.2.1 (by omega) i5 i6 i7 i8 (by omega) (by omega) (by omega) (by omega) (by omega) (by omega) g82 g93 (by assumption) (by assumption) (by first | exact Or.inl ⟨by omega, by omega, rfl⟩ | exact Or.inr (Or.inl ⟨by omega, by omega, rfl⟩) | exact Or.inr (Or.inr (Or.inl ⟨by omega, by omega, rfl⟩)) | exact Or.inr (Or.inr (Or.inr ⟨by omega, by omega, rfl⟩)))).2.1 | exact i6.sk (by omega) | exact (by rw [w1, w2]; exact w3)) (by first | exact (set_go hCT.2.1 (by omega) i5 i6 i7 i8 (by omega) (by omega) (by omega) (by omega) (by omega) (by omega) g82 g93 (by assumption) (by assumption) (by first | exact Or.inl ⟨by omega, by omega, rfl⟩ | exact Or.inr (Or.inl ⟨by omega, by omega, rfl⟩) | exact Or.inr (Or.inr (Or.inl ⟨by omega, by omega, rfl⟩)) | exact Or.inr (Or.inr (Or.inr ⟨by omega, by omega, rfl⟩)))).2.2.1 | exact w4 | assumption) (by first | exact (set_go hCT.2.1 (by omega) i5 i6 i7 i8 (by omega) (by omega) (by omega) (by omega) (by omega) (by omega) g82 g93 (by assumption) (by assumption) (by first | exact Or.inl ⟨by omega, by omega, rfl⟩ | exact Or.inr (Or.inl ⟨by omega, by omega, rfl⟩) | exact Or.inr (Or.inr (Or.inl ⟨by omega, by omega, rfl⟩)) | exact Or.inr (Or.inr (Or.inr ⟨by omega, by omega, rfl⟩)))).2.2.2 | omega) (by omega)
                    · skip
                      refine uX8_settles_142 ?_
                      refine c11_pairBit  (by first | omega | assumption | with_reducible exact rng_ld _ _ _ | with_reducible exact rng_yand _ _ | with_reducible exact rng_yor _ _ | with_reducible exact rng_zcmp _ _ | with_reducible exact yand7 _ | with_reducible exact rng_toInt _ | with_reducible exact yarr23 (by omega) | with_reducible exact yarr57 (by omega) | with_reducible exact Or.inl rfl | with_reducible exact Or.inr rfl) (by first | omega | assumption | with_reducible exact rng_ld _ _ _ | with_reducible exact rng_yand _ _ | with_reducible exact rng_yor _ _ | with_reducible exact rng_zcmp _ _ | with_reducible exact yand7 _ | with_reducible exact rng_toInt _ | with_reducible exact yarr23 (by omega) | with_reducible exact yarr57 (by omega) | with_reducible exact Or.inl rfl | with_reducible exact Or.inr rfl) ?_
                      refine uX8_settles_151 ?_
                      refine uX8_settles_154 ?_
                      exact ih1 _ _ _ _ _ _ _ _ M5 fM (by first | omega | assumption | with_reducible exact rng_ld _ _ _ | with_reducible exact rng_yand _ _ | with_reducible exact rng_yor _ _ | with_reducible exact rng_zcmp _ _ | with_reducible exact yand7 _ | with_reducible exact rng_toInt _ | with_reducible exact yarr23 (by omega) | with_reducible exact yarr57 (by omega) | with_reducible exact Or.inl rfl | with_reducible exact Or.inr rfl) (by first | omega | assumption | with_reducible exact rng_ld _ _ _ | with_reducible exact rng_yand _ _ | with_reducible exact rng_yor _ _ | with_reducible exact rng_zcmp _ _ | with_reducible exact yand7 _ | with_reducible exact rng_toInt _ | with_reducible exact yarr23 (by omega) | with_reducible exact yarr57 (by omega) | with_reducible exact Or.inl rfl | with_reducible exact Or.inr rfl) (by first | omega | assumption | with_reducible exact rng_ld _ _ _ | with_reducible exact rng_yand _ _ | with_reducible exact rng_yor _ _ | with_reducible exact rng_zcmp _ _ | with_reducible exact yand7 _ | with_reducible exact rng_toInt _ | with_reducible exact yarr23 (by omega) | with_reducible exact yarr57 (by omega) | with_reducible exact Or.inl rfl | with_reducible exact Or.inr rfl) (by first | omega | assumption | with_reducible exact rng_ld _ _ _ | with_reducible exact rng_yand _ _ | with_reducible exact rng_yor _ _ | with_reducible exact rng_zcmp _ _ | with_reducible exact yand7 _ | with_reducible exact rng_toInt _ | with_reducible exact yarr23 (by omega) | with_reducible exact yarr57 (by omega) | with_reducible exact Or.inl rfl | with_reducible exact Or.inr rfl) (by first | omega | assumption | with_reducible exact rng_ld _ _ _ | with_reducible exact rng_yand _ _ | with_reducible exact rng_yor _ _ | with_reducible exact rng_zcmp _ _ | with_reducible exact yand7 _ | with_reducible exact rng_toInt _ | with_reducible exact yarr23 (by omega) | with_reducible exact yarr57 (by omega) | with_reducible exact Or.inl rfl | with_reducible exact Or.inr rfl) (by first | exact (set_go hCT.2.1 (by omega) i5 i6 i7 i8 (by omega) (by omega) (by omega) (by omega) (by omega) (by omega) g82 g93 (by assumption) (by assumption) (by first | exact Or.inl ⟨by omega, by omega, rfl⟩ | exact Or.inr (Or.inl ⟨by omega, by omega, rfl⟩) | exact Or.inr (Or.inr (Or.inl ⟨by omega, by omega, rfl⟩)) | exact Or.inr (Or.inr (Or.inr ⟨by omega, by omega, rfl⟩)))).1 | assumption) (by first | exact (set_go hCT.2.1 (by omega) i5 i6 i7 i8 (by omega) (by omega) (by omega) (by omega) (by omega) (by omega) g82 g93 (by assumption) (by assumption) (by first | exact Or.inl ⟨by omega, by omega, rfl⟩ | exact Or.inr (Or.inl ⟨by omega, by omega, rfl⟩) | exact Or.inr (Or.inr (Or.inl ⟨by omega, by omega, rfl⟩)) | exact Or.inr (Or.inr (Or.inr ⟨by omega, by omega, rfl⟩)))).2.1 | exact i6.sk (by omega) | exact (by rw [w1, w2]; exact w3)) (by first | exact (set_go hCT.2.1 (by omega) i5 i6 i7 i8 (by omega) (by omega) (by omega) (by omega) (by omega) (by omega) g82 g93 (by assumption) (by assumption) (by first | exact Or.inl ⟨by omega, by omega, rfl⟩ | exact Or.inr (Or.inl ⟨by omega, by omega, rfl⟩) | exact Or.inr (Or.inr (Or.inl ⟨by omega, by omega, rfl⟩)) | exact Or.inr (Or.inr (Or.inr ⟨by omega, by omega, rfl⟩)))).2.2.1 | exact w4 | assumption) (by first | exact (set_go hCT.2.1 (by omega) i5 i6 i7 i8 (by omega) (by omega) (by omega) (by omega) (by omega) (by omega) g82 g93 (by assumption) (by assumption) (by first | exact Or.inl ⟨by omega, by omega, rfl⟩ | exact Or.inr (Or.inl ⟨by omega, by omega, rfl⟩) | exact Or.inr (Or.inr (Or.inl ⟨by omega, by omega, rfl⟩)) | exact Or.inr (Or.inr (Or.inr ⟨by omega, by omega, rfl⟩)))).2.2.2 | omega) (by omega)
                · skip
                  refine uX8_settles_118 ?_
                  exact kont _ _ fM (Or.inr ⟨rfl, by first | exact i5.no hCT.2.1 (by omega) g82 (by omega) (by omega) (by omega) (by omega) (by omega) (by omega) (by assumption) | exact (i5.ps hCT.2.1 (by omega) g82 (by omega) (by omega) (by omega) (by omega) (by omega) (by omega) (by assumption)).no hCT.2.1 (by omega) g93 (by omega) (by omega) (by omega) (by omega) (by omega) (by omega) (by assumption)⟩)
            · skip
              refine uX8_settles_79 ?_
              refine uX8_settles_154 ?_
              exact ih1 _ _ _ _ _ _ _ _ M3 fM (by first | omega | assumption | with_reducible exact rng_ld _ _ _ | with_reducible exact rng_yand _ _ | with_reducible exact rng_yor _ _ | with_reducible exact rng_zcmp _ _ | with_reducible exact yand7 _ | with_reducible exact rng_toInt _ | with_reducible exact yarr23 (by omega) | with_reducible exact yarr57 (by omega) | with_reducible exact Or.inl rfl | with_reducible exact Or.inr rfl) (by first | omega | assumption | with_reducible exact rng_ld _ _ _ | with_reducible exact rng_yand _ _ | with_reducible exact rng_yor _ _ | with_reducible exact rng_zcmp _ _ | with_reducible exact yand7 _ | with_reducible exact rng_toInt _ | with_reducible exact yarr23 (by omega) | with_reducible exact yarr57 (by omega) | with_reducible exact Or.inl rfl | with_reducible exact Or.inr rfl) (by first | omega | assumption | with_reducible exact rng_ld _ _ _ | with_reducible exact rng_yand _ _ | with_reducible exact rng_yor _ _ | with_reducible exact rng_zcmp _ _ | with_reducible exact yand7 _ | with_reducible exact rng_toInt _ | with_reducible exact yarr23 (by omega) | with_reducible exact yarr57 (by omega) | with_reducible exact Or.inl rfl | with_reducible exact Or.inr rfl) (by first | omega | assumption | with_reducible exact rng_ld _ _ _ | with_reducible exact rng_yand _ _ | with_reducible exact rng_yor _ _ | with_reducible exact rng_zcmp _ _ | with_reducible exact yand7 _ | with_reducible exact rng_toInt _ | with_reducible exact yarr23 (by omega) | with_reducible exact yarr57 (by omega) | with_reducible exact Or.inl rfl | with_reducible exact Or.inr rfl) (by first | omega | assumption | with_reducible exact rng_ld _ _ _ | with_reducible exact rng_yand _ _ | with_reducible exact rng_yor _ _ | with_reducible exact rng_zcmp _ _ | with_reducible exact yand7 _ | with_reducible exact rng_toInt _ | with_reducible exact yarr23 (by omega) | with_reducible exact yarr57 (by omega) | with_reducible exact Or.inl rfl | with_reducible exact Or.inr rfl) (by first | exact (set_go hCT.2.1 (by omega) i5 i6 i7 i8 (by omega) (by omega) (by omega) (by omega) (by omega) (by omega) g82 g93 (by assumption) (by assumption) (by first | exact Or.inl ⟨by omega, by omega, rfl⟩ | exact Or.inr (Or.inl ⟨by omega, by omega, rfl⟩) | exact Or.inr (Or.inr (Or.inl ⟨by omega, by omega, rfl⟩)) | exact Or.inr (Or.inr (Or.inr ⟨by omega, by omega, rfl⟩)))).1 | assumption) (by first | exact (set_go hCT.2.1 (by omega) i5 i6 i7 i8 (by omega) (by omega) (by omega) (by omega) (by omega) (by omega) g82 g93 (by assumption) (by assumption) (by first | exact Or.inl ⟨by omega, by omega, rfl⟩ | exact Or.inr (Or.inl ⟨by omega, by omega, rfl⟩) | exact Or.inr (Or.inr (Or.inl ⟨by omega, by omega, rfl⟩)) | exact Or.inr (Or.inr (Or.inr ⟨by omega, by omega, rfl⟩)))).2.1 | exact i6.sk (by omega) | exact (by rw [w1, w2]; exact w3)) (by first | exact (set_go hCT.2.1 (by omega) i5 i6 i7 i8 (by omega) (by omega) (by omega) (by omega) (by omega) (by omega) g82 g93 (by assumption) (by assumption) (by first | exact Or.inl ⟨by omega, by omega, rfl⟩ | exact Or.inr (Or.inl ⟨by omega, by omega, rfl⟩) | exact Or.inr (Or.inr (Or.inl ⟨by omega, by omega, rfl⟩)) | exact Or.inr (Or.inr (Or.inr ⟨by omega, by omega, rfl⟩)))).2.2.1 | exact w4 | assumption) (by first | exact (set_go hCT.2.1 (by omega) i5 i6 i7 i8 (by omega) (by omega) (by omega) (by omega) (by omega) (by omega) g82 g93 (by assumption) (by assumption) (by first | exact Or.inl ⟨by omega, by omega, rfl⟩ | exact Or.inr (Or.inl ⟨by omega, by omega, rfl⟩) | exact Or.inr (Or.inr (Or.inl ⟨by omega, by omega, rfl⟩)) | exact Or.inr (Or.inr (Or.inr ⟨by omega, by omega, rfl⟩)))).2.2.2 | omega) (by omega)
  refine uX8_settles_0 ?_
  exact (go 1000000).1 _ _ _ _ _ _ _ _ M fM (by first | omega | assumption | with_reducible exact rng_ld _ _ _ | with_reducible exact rng_yand _ _ | with_reducible exact rng_yor _ _ | with_reducible exact rng_zcmp _ _ | with_reducible exact yand7 _ | with_reducible exact rng_toInt _ | with_reducible exact yarr23 (by omega) | with_reducible exact yarr57 (by omega) | with_reducible exact Or.inl rfl | with_reducible exact Or.inr rfl) (by first | exact ⟨hSN, hNe, Sb.rf hCT.2.1.1 hSN, fun Y _ _ w => w, fun _ _ _ => rfl⟩ | assumption) (by first | exact hVS | exact i6.end (by omega)) (by first | exact hTV | assumption) (by first | (have a := (pcs_b n (ld M x1)).2; have b := (tcn_b n (lbt x3)).2; omega) | omega) (by omega)
theorem arr64 : arrSh 64 64 := ⟨rfl, Nat.le_of_ble_eq_true rfl⟩
theorem se_bit {k a : Int} (hk : 1 ≤ k ∧ k ≤ 8) (ha : 0 ≤ a ∧ a < k) : Se k (yshl 1 a) ∧ yshl 1 a ≠ 0 := by
  refine ⟨al_ge (by omega) (rng_yshl _ _) (fun i q => by
    rw [bt_bit (by omega), decide_eq_true_eq] at q
    omega), fun q => ?_⟩
  have w := bt_bit (n := a) (by omega) a.toNat
  rw [q, bt_0] at w
  simp at w
theorem sub_bit {a x : Int} (ha : 0 ≤ a ∧ a < 8) (hx : 0 ≤ x ∧ x < 256) (hb : yand (yshr x a) 1 = 1) : Sub (yshl 1 a) x := sub_of (rng_yshl _ _) (fun i q => by
  rw [bt_bit (by omega), decide_eq_true_eq] at q
  rw [q]
  exact (ybitZ (by omega) (by omega)).mp hb)
/-- a smaller set for a pair that is marked then -/
theorem VS.up {T f : Int → Int} {k n : Int} {N : Int → Int} {D D' : Int → Bool} {i c s : Int} (hT : TH T f k) (hn : n ≤ 8) (hN : SN f k n N) (h : VS T k n N D) (hi : 0 ≤ i ∧ i < n) (hc : 0 ≤ c ∧ c < n) (ic : i ≠ c) (hs : Se k s) (hsub : Sub s (N (8 * i + c))) (hD : ∀ p : Int, 0 ≤ p → p < 64 → D' p = false → D p = false ∧ p ≠ pi2 i c) : VS T k n (up2 N i c s (tP f k s)) D' := fun a b e a1 a2 b1 b2 e1 e2 ab be ae d1 d2 => by
  have r1 := hD _ (pi2_r (a := a) (b := b) (by omega) (by omega)).1 (pi2_r (a := a) (b := b) (by omega) (by omega)).2 d1
  have r2 := hD _ (pi2_r (a := b) (b := e) (by omega) (by omega)).1 (pi2_r (a := b) (b := e) (by omega) (by omega)).2 d2
  have old := h a b e a1 a2 b1 b2 e1 e2 ab be ae r1.1 r2.1
  have q1 : up2 N i c s (tP f k s) (8 * a + b) = N (8 * a + b) := by
    rw [up2_at (by omega) (by omega) (by omega) (by omega), if_neg (fun q => r1.2 (by rw [q.1, q.2, pi2_c])), if_neg (fun q => r1.2 (by rw [q.1, q.2]))]
  have q2 : up2 N i c s (tP f k s) (8 * b + e) = N (8 * b + e) := by
    rw [up2_at (by omega) (by omega) (by omega) (by omega), if_neg (fun q => r2.2 (by rw [q.1, q.2, pi2_c])), if_neg (fun q => r2.2 (by rw [q.1, q.2]))]
  have o := hN i c hi.1 hi.2 hc.1 hc.2 ic
  have sn := hN.up hT.1 hT.2.1 hn hi hc ic hs
  have y := (sn a e a1 a2 e1 e2 ae).1.y hT.1
  have sb : Sub (up2 N i c s (tP f k s) (8 * a + e)) (N (8 * a + e)) := by
    rw [up2_at (by omega) (by omega) (by omega) (by omega)]
    split
    · next q => rw [q.1, q.2, o.2]; exact tP_mono hT.1 hT.2.1 hs o.1 hsub
    · split
      · next q => rw [q.1, q.2]; exact hsub
      · exact sub_rf ((hN a e a1 a2 e1 e2 ae).1.y hT.1)
  unfold stp at old ⊢
  rw [q1, q2]
  exact sub_tr y sb old
theorem Ne.up {f : Int → Int} {k n : Int} {N : Int → Int} {i c s : Int} (hk : 1 ≤ k ∧ k ≤ 8) (hf : IV f k) (hn : n ≤ 8) (h : Ne n N) (hi : 0 ≤ i ∧ i < n) (hc : 0 ≤ c ∧ c < n) (hs : Se k s) (h0 : s ≠ 0) : Ne n (up2 N i c s (tP f k s)) := fun p q p1 p2 q1 q2 pq => by
  rw [up2_at (by omega) (by omega) (by omega) (by omega)]
  split
  · exact fun w => h0 ((tP_0 hk hf hs).mp w)
  · split
    · exact h0
    · exact h p q p1 p2 q1 q2 pq
theorem VS.eq {T : Int → Int} {k n : Int} {N N' : Int → Int} {D : Int → Bool} (hn : n ≤ 8) (h : VS T k n N D) (e : EqN N N') : VS T k n N' D := fun a b c a1 a2 b1 b2 c1 c2 ab bc ac d1 d2 => by
  have := h a b c a1 a2 b1 b2 c1 c2 ab bc ac d1 d2
  unfold stp at this ⊢
  rw [← e (8 * a + c) (by omega) (by omega), ← e (8 * a + b) (by omega) (by omega), ← e (8 * b + c) (by omega) (by omega)]
  exact this
theorem Ne.eq {n : Int} {N N' : Int → Int} (hn : n ≤ 8) (h : Ne n N) (e : EqN N N') : Ne n N' := fun i c i1 i2 c1 c2 ic => by
  rw [← e (8 * i + c) (by omega) (by omega)]
  exact h i c i1 i2 c1 c2 ic
theorem Cl.vs {T : Int → Int} {k n : Int} {N : Int → Int} {D : Int → Bool} (h : Cl T k n N) : VS T k n N D := fun a b c a1 a2 b1 b2 c1 c2 ab bc ac _ _ => h a b c a1 a2 b1 b2 c1 c2 ab bc ac
theorem SOK.good {T f : Int → Int} {k n : Int} {X X' : Int → Int} (h : SOK T f k n X X') : Good T f k n X := ⟨X', h.1, h.2.1, h.2.2.1, h.2.2.2.1⟩
theorem n8_makeSingle {d : Nat} {Q : yM → Prop} {M : yM} {x1 : Nat} {x2 : Int} {x3 : Int} {T f : Int → Int} {k i c : Int} (hA : arrSh x1 64) (hi : 0 ≤ i ∧ i < 8) (hc : 0 ≤ c ∧ c < 8) (h2 : x2 = 8 * i + c) (h3 : 0 ≤ x3 ∧ x3 < k) (hx20 : 20 ≤ x1) (hCT : CT M T f k) (kont : ∀ (M' : yM), fr (fun o _ => o = x1) M M' → (ld M' x1 = up2 (ld M x1) i c (yshl 1 x3) (tP f k (yshl 1 x3))) → Q M') : XCv (d + 1) 58 [.inr (.inr 21), .inr (.inr x1), .inl x2, .inl x3] M Q := by
  refine eX8_makeSingle ?_
  have fM : fr (fun o _ => o = x1) M M := fr.rf
  have sp := sh_p hi hc
  subst h2
  have sb := se_bit hCT.2.1.1 h3
  have hb := back_ix (x := 8 * i + c) (by omega)
  refine uX8_makeSingle_0 (by first | assumption | exact ⟨rfl, Nat.le_of_ble_eq_true rfl⟩ | with_reducible exact yarr23 (by omega) | with_reducible exact yarr57 (by omega)) (by first | omega | assumption | with_reducible exact rng_ld _ _ _ | with_reducible exact rng_yand _ _ | with_reducible exact rng_yor _ _ | with_reducible exact rng_zcmp _ _ | with_reducible exact yand7 _ | with_reducible exact rng_toInt _ | with_reducible exact yarr23 (by omega) | with_reducible exact yarr57 (by omega) | with_reducible exact Or.inl rfl | with_reducible exact Or.inr rfl) ?_
  intro M1 hM1
  replace fM := fr.put fM hM1 (by first | omega | (dsimp only [wSub, wRun, wNar, wFil, wCan, wLst, wCar, wDr, wFl, wMq, wRd, wRx, wCr, wTab, wTr, wNew, wKi, wKn, wTn, wOb, wPt, wTl, wOq]; done) | (dsimp only [wSub, wRun, wNar, wFil, wCan, wLst, wCar, wDr, wFl, wMq, wRd, wRx, wCr, wTab, wTr, wNew, wKi, wKn, wTn, wOb, wPt, wTl, wOq]; omega) | (simp [wSub, wRun, wNar, wFil, wCan, wLst, wCar, wDr, wFl, wMq, wRd, wRx, wCr, wTab, wTr, wNew, wKi, wKn, wTn, wOb, wPt, wTl, wOq]; done) | (simp [wSub, wRun, wNar, wFil, wCan, wLst, wCar, wDr, wFl, wMq, wRd, wRx, wCr, wTab, wTr, wNew, wKi, wKn, wTn, wOb, wPt, wTl, wOq]; omega))
  have e0 := hM1
  have t4 : ld M1 4 (yand (yshl 1 x3) 255) = tP f k (yshl 1 x3) := by rw [fM.ld (by omega)]; exact hCT.2.2.2 _ sb.1
  refine uX8_makeSingle_19 ?_
  refine c9_turnSet   ?_
  refine uX8_makeSingle_32 (by first | assumption | exact ⟨rfl, Nat.le_of_ble_eq_true rfl⟩ | with_reducible exact yarr23 (by omega) | with_reducible exact yarr57 (by omega)) (by first | omega | assumption | with_reducible exact rng_ld _ _ _ | with_reducible exact rng_yand _ _ | with_reducible exact rng_yor _ _ | with_reducible exact rng_zcmp _ _ | with_reducible exact yand7 _ | with_reducible exact rng_toInt _ | with_reducible exact yarr23 (by omega) | with_reducible exact yarr57 (by omega) | with_reducible exact Or.inl rfl | with_reducible exact Or.inr rfl) ?_
  intro M3 hM3
  replace fM := fr.put fM hM3 (by first | omega | (dsimp only [wSub, wRun, wNar, wFil, wCan, wLst, wCar, wDr, wFl, wMq, wRd, wRx, wCr, wTab, wTr, wNew, wKi, wKn, wTn, wOb, wPt, wTl, wOq]; done) | (dsimp only [wSub, wRun, wNar, wFil, wCan, wLst, wCar, wDr, wFl, wMq, wRd, wRx, wCr, wTab, wTr, wNew, wKi, wKn, wTn, wOb, wPt, wTl, wOq]; omega) | (simp [wSub, wRun, wNar, wFil, wCan, wLst, wCar, wDr, wFl, wMq, wRd, wRx, wCr, wTab, wTr, wNew, wKi, wKn, wTn, wOb, wPt, wTl, wOq]; done) | (simp [wSub, wRun, wNar, wFil, wCan, wLst, wCar, wDr, wFl, wMq, wRd, wRx, wCr, wTab, wTr, wNew, wKi, wKn, wTn, wOb, wPt, wTl, wOq]; omega))
  rw [t4, sp.1, sp.2] at hM3
  have e32 : ld M3 x1 = up2 (ld M x1) i c (yshl 1 x3) (tP f k (yshl 1 x3)) := funext fun j => by
    rw [hM3, ld_put (tOf_rng _ _ _), e0, ld_put (rng_yshl _ _)]
    unfold up2
    simp only [true_and]
  refine uX8_makeSingle_33 ?_
  exact kont _ fM e32
theorem n4_stays {d : Nat} {Q : Int → yM → Prop} {M : yM} {x1 : Nat} {x2 : Int} {x3 : Int} {x4 : Int} {T f : Int → Int} {k n i c : Int} (hA : arrSh x1 64) (hn : ld M 19 0 = n) (hn8 : 1 ≤ n ∧ n ≤ 8) (hx20 : 20 ≤ x1) (hx64 : x1 ≠ 64) (hic : 0 ≤ i ∧ i < c ∧ c < n) (h2 : x2 = 8 * i + c) (h3 : 0 ≤ x3 ∧ x3 < k) (hb : yand (yshr (ld M x1 (8 * i + c)) x3) 1 = 1) (hCT : CT M T f k) (hSN : SN f k n (ld M x1)) (hNe : Ne n (ld M x1)) (hVS : VS T k n (ld M x1) (lbt x4)) (hTV : TV n (lbt x4)) (kont : ∀ (v : Int) (M' : yM), fr (fun o _ => o = 64) M M' → (v = 1 ∧ rfB T f k n (ld M x1) i c x3 = false ∨ v = 0 ∧ rfB T f k n (ld M x1) i c x3 = true) → Q v M') : XCi (d + 3) 34 [.inr (.inr 56), .inr (.inr x1), .inl x2, .inl x3, .inr (.inl x4)] M Q := by
  refine eX4_stays ?_
  have fM : fr (fun o _ => o = 64) M M := fr.rf
  have hk8 := hCT.2.1.1
  have al8 := al_le hk8
  have o := hSN i c (by omega) (by omega) (by omega) (by omega) (by omega)
  have sb := se_bit hk8 h3
  refine uX4_stays_0 (by first | assumption | exact ⟨rfl, Nat.le_of_ble_eq_true rfl⟩ | with_reducible exact yarr23 (by omega) | with_reducible exact yarr57 (by omega)) ?_
  intro M1 hM1
  replace fM := fr.cpy fM hM1 (by intro j hj1 hj2; exact (by first | omega | (dsimp only [wSub, wRun, wNar, wFil, wCan, wLst, wCar, wDr, wFl, wMq, wRd, wRx, wCr, wTab, wTr, wNew, wKi, wKn, wTn, wOb, wPt, wTl, wOq]; done) | (dsimp only [wSub, wRun, wNar, wFil, wCan, wLst, wCar, wDr, wFl, wMq, wRd, wRx, wCr, wTab, wTr, wNew, wKi, wKn, wTn, wOb, wPt, wTl, wOq]; omega) | (simp [wSub, wRun, wNar, wFil, wCan, wLst, wCar, wDr, wFl, wMq, wRd, wRx, wCr, wTab, wTr, wNew, wKi, wKn, wTn, wOb, wPt, wTl, wOq]; done) | (simp [wSub, wRun, wNar, wFil, wCan, wLst, wCar, wDr, wFl, wMq, wRd, wRx, wCr, wTab, wTr, wNew, wKi, wKn, wTn, wOb, wPt, wTl, wOq]; omega)))
  have k19_0 := fM.ld (o := 19) (j := 0) (by intro hw; first | omega | (dsimp only [wSub, wRun, wNar, wFil, wCan, wLst, wCar, wDr, wFl, wMq, wRd, wRx, wCr, wTab, wTr, wNew, wKi, wKn, wTn, wOb, wPt, wTl, wOq] at hw; omega) | (simp [wSub, wRun, wNar, wFil, wCan, wLst, wCar, wDr, wFl, wMq, wRd, wRx, wCr, wTab, wTr, wNew, wKi, wKn, wTn, wOb, wPt, wTl, wOq] at hw; done) | (simp [wSub, wRun, wNar, wFil, wCan, wLst, wCar, wDr, wFl, wMq, wRd, wRx, wCr, wTab, wTr, wNew, wKi, wKn, wTn, wOb, wPt, wTl, wOq] at hw; omega))
  have e0 : EqN (ld M1 64) (ld M x1) := fun j a1 a2 => by
    rw [hM1, ld_cpy, if_pos ⟨rfl, a1, by omega⟩]
    congr 1
    omega
  have s0 := hSN.eq (by omega) e0.sy
  have eb : Sub (yshl 1 x3) (ld M1 64 (8 * i + c)) := by rw [e0 _ (by omega) (by omega)]; exact sub_bit (by omega) (by omega) hb
  refine uX4_stays_12 ?_
  refine XC.deep (n8_makeSingle  (d := 0) arr64 (by omega : 0 ≤ i ∧ i < 8) (by omega : 0 ≤ c ∧ c < 8) h2 h3 (by omega) (hCT.fr fM (by (first | (dsimp only [wNo]; omega) | omega)) (fun _ => by (first | (dsimp only [wNo]; omega) | omega)) (fun _ => by (first | (dsimp only [wNo]; omega) | omega))) (fun M2 fM2 p2a => ?_)) (by omega)
  replace fM := fM.tr fM2 (by intro o j hw; first | omega | exact hw | (dsimp only [wSub, wRun, wNar, wFil, wCan, wLst, wCar, wDr, wFl, wMq, wRd, wRx, wCr, wTab, wTr, wNew, wKi, wKn, wTn, wOb, wPt, wTl, wOq] at hw; dsimp only [wSub, wRun, wNar, wFil, wCan, wLst, wCar, wDr, wFl, wMq, wRd, wRx, wCr, wTab, wTr, wNew, wKi, wKn, wTn, wOb, wPt, wTl, wOq]; omega) | (dsimp only [wSub, wRun, wNar, wFil, wCan, wLst, wCar, wDr, wFl, wMq, wRd, wRx, wCr, wTab, wTr, wNew, wKi, wKn, wTn, wOb, wPt, wTl, wOq]; omega) | (dsimp only [wSub, wRun, wNar, wFil, wCan, wLst, wCar, wDr, wFl, wMq, wRd, wRx, wCr, wTab, wTr, wNew, wKi, wKn, wTn, wOb, wPt, wTl, wOq] at hw; omega) | (simp [wSub, wRun, wNar, wFil, wCan, wLst, wCar, wDr, wFl, wMq, wRd, wRx, wCr, wTab, wTr, wNew, wKi, wKn, wTn, wOb, wPt, wTl, wOq] at hw; simp [wSub, wRun, wNar, wFil, wCan, wLst, wCar, wDr, wFl, wMq, wRd, wRx, wCr, wTab, wTr, wNew, wKi, wKn, wTn, wOb, wPt, wTl, wOq]; omega))
  have k19_0 := fM.ld (o := 19) (j := 0) (by intro hw; first | omega | (dsimp only [wSub, wRun, wNar, wFil, wCan, wLst, wCar, wDr, wFl, wMq, wRd, wRx, wCr, wTab, wTr, wNew, wKi, wKn, wTn, wOb, wPt, wTl, wOq] at hw; omega) | (simp [wSub, wRun, wNar, wFil, wCan, wLst, wCar, wDr, wFl, wMq, wRd, wRx, wCr, wTab, wTr, wNew, wKi, wKn, wTn, wOb, wPt, wTl, wOq] at hw; done) | (simp [wSub, wRun, wNar, wFil, wCan, wLst, wCar, wDr, wFl, wMq, wRd, wRx, wCr, wTab, wTr, wNew, wKi, wKn, wTn, wOb, wPt, wTl, wOq] at hw; omega))
  have e12 : ld M2 64 = sng f k (ld M1 64) i c x3 := p2a
  have s12 : SN f k n (ld M2 64) := by rw [e12]; exact s0.up hk8 hCT.2.1.2.1 (by omega) (by omega) (by omega) (by omega) sb.1
  have n12 : Ne n (ld M2 64) := by rw [e12]; exact (hNe.eq (by omega) e0.sy).up hk8 hCT.2.1.2.1 (by omega) (by omega) (by omega) sb.1 sb.2
  have lb : ∀ p : Int, 0 ≤ p → lbt (zor x4 (zshl 1 x2)) p = (lbt x4 p || decide (p = x2)) := fun p p1 => by rw [lbt_zor, lbt_one (by omega) p1]
  have pp : pi2 i c = x2 := by unfold pi2; rw [if_pos hic.2.1, h2]
  have u12 : VS T k n (ld M2 64) (lbt (zor x4 (zshl 1 x2))) := by
    rw [e12]
    exact (hVS.eq (by omega) e0.sy).up hCT.2.1 (by omega) s0 (by omega) (by omega) (by omega) sb.1 eb (fun p p1 p2 q => by
      rw [lb p p1, Bool.or_eq_false_iff, decide_eq_false_iff_not] at q
      exact ⟨q.1, by rw [pp]; exact q.2⟩)
  have t12 : TV n (lbt (zor x4 (zshl 1 x2))) := fun p p1 p2 q => by
    rw [lb p p1, Bool.or_eq_true, decide_eq_true_eq] at q
    rcases q with q | q
    · exact hTV p p1 p2 q
    · exact ⟨i, c, hic.1, hic.2.1, hic.2.2, by rw [q, h2]⟩
  refine uX4_stays_25 ?_
  refine XC.deep (n8_settles  (d := 0) arr64 (by first | omega | assumption | with_reducible exact rng_ld _ _ _ | with_reducible exact rng_yand _ _ | with_reducible exact rng_yor _ _ | with_reducible exact rng_zcmp _ _ | with_reducible exact yand7 _ | with_reducible exact rng_toInt _ | with_reducible exact yarr23 (by omega) | with_reducible exact yarr57 (by omega) | with_reducible exact Or.inl rfl | with_reducible exact Or.inr rfl) (by first | omega | assumption | with_reducible exact rng_ld _ _ _ | with_reducible exact rng_yand _ _ | with_reducible exact rng_yor _ _ | with_reducible exact rng_zcmp _ _ | with_reducible exact yand7 _ | with_reducible exact rng_toInt _ | with_reducible exact yarr23 (by omega) | with_reducible exact yarr57 (by omega) | with_reducible exact Or.inl rfl | with_reducible exact Or.inr rfl) (by omega) (hCT.fr fM (by (first | (dsimp only [wNo]; omega) | omega)) (fun _ => by (first | (dsimp only [wNo]; omega) | omega)) (fun _ => by (first | (dsimp only [wNo]; omega) | omega))) s12 n12 u12 t12 (fun v25 M3 fM3 p3a => ?_)) (by omega)
  replace fM := fM.tr fM3 (by intro o j hw; first | omega | exact hw | (dsimp only [wSub, wRun, wNar, wFil, wCan, wLst, wCar, wDr, wFl, wMq, wRd, wRx, wCr, wTab, wTr, wNew, wKi, wKn, wTn, wOb, wPt, wTl, wOq] at hw; dsimp only [wSub, wRun, wNar, wFil, wCan, wLst, wCar, wDr, wFl, wMq, wRd, wRx, wCr, wTab, wTr, wNew, wKi, wKn, wTn, wOb, wPt, wTl, wOq]; omega) | (dsimp only [wSub, wRun, wNar, wFil, wCan, wLst, wCar, wDr, wFl, wMq, wRd, wRx, wCr, wTab, wTr, wNew, wKi, wKn, wTn, wOb, wPt, wTl, wOq]; omega) | (dsimp only [wSub, wRun, wNar, wFil, wCan, wLst, wCar, wDr, wFl, wMq, wRd, wRx, wCr, wTab, wTr, wNew, wKi, wKn, wTn, wOb, wPt, wTl, wOq] at hw; omega) | (simp [wSub, wRun, wNar, wFil, wCan, wLst, wCar, wDr, wFl, wMq, wRd, wRx, wCr, wTab, wTr, wNew, wKi, wKn, wTn, wOb, wPt, wTl, wOq] at hw; simp [wSub, wRun, wNar, wFil, wCan, wLst, wCar, wDr, wFl, wMq, wRd, wRx, wCr, wTab, wTr, wNew, wKi, wKn, wTn, wOb, wPt, wTl, wOq]; omega))
  have k19_0 := fM.ld (o := 19) (j := 0) (by intro hw; first | omega | (dsimp only [wSub, wRun, wNar, wFil, wCan, wLst, wCar, wDr, wFl, wMq, wRd, wRx, wCr, wTab, wTr, wNew, wKi, wKn, wTn, wOb, wPt, wTl, wOq] at hw; omega) | (simp [wSub, wRun, wNar, wFil, wCan, wLst, wCar, wDr, wFl, wMq, wRd, wRx, wCr, wTab, wTr, wNew, wKi, wKn, wTn, wOb, wPt, wTl, wOq] at hw; done) | (simp [wSub, wRun, wNar, wFil, wCan, wLst, wCar, wDr, wFl, wMq, wRd, wRx, wCr, wTab, wTr, wNew, wKi, wKn, wTn, wOb, wPt, wTl, wOq] at hw; omega))
  have er : rfB T f k n (ld M x1) i c x3 = emB n (fullP T f k n (ld M2 64)) := by
    rw [e12]
    exact emB_eq (fullP_eqn (by omega) (sng_eq e0.sy i c x3))
  have fg := full_good hCT.2.1 (by omega : 0 ≤ n ∧ n ≤ 8) s12
  have z25 : v25 = 1 ∧ rfB T f k n (ld M x1) i c x3 = false ∨ v25 = 0 ∧ rfB T f k n (ld M x1) i c x3 = true := by
    rw [er]
    rcases p3a with ⟨q1, q2⟩ | ⟨q1, q2⟩
    · exact Or.inl ⟨q1, fg.mpr q2.good⟩
    · refine Or.inr ⟨q1, ?_⟩
      cases w : emB n (fullP T f k n (ld M2 64)) with
      | true => rfl
      | false => exact absurd (fg.mp w) q2
  refine uX4_stays_49 (by first | omega | assumption | with_reducible exact rng_ld _ _ _ | with_reducible exact rng_yand _ _ | with_reducible exact rng_yor _ _ | with_reducible exact rng_zcmp _ _ | with_reducible exact yand7 _ | with_reducible exact rng_toInt _ | with_reducible exact yarr23 (by omega) | with_reducible exact yarr57 (by omega) | with_reducible exact Or.inl rfl | with_reducible exact Or.inr rfl) ?_
  exact kont _ _ fM z25
theorem yand01 (x : Int) : yand x 1 = 0 ∨ yand x 1 = 1 := by
  rw [yand_1]
  split
  · exact Or.inr rfl
  · exact Or.inl rfl
theorem rmv_put {M M1 M2 : yM} {A : Nat} {f : Int → Int} {k i c a : Int} (e1 : M1 = put M A (8 * i + c) (yand (ld M A (8 * i + c)) (yxor (yshl 1 a) (-1)))) (e2 : M2 = put M1 A (8 * c + i) (tP f k (yand (ld M A (8 * i + c)) (yxor (yshl 1 a) (-1))))) : ld M2 A = rmv f k (ld M A) i c a := funext fun j => by
  rw [e2, ld_put (tOf_rng _ _ _), e1, ld_put (rng_yand _ _)]
  unfold rmv up2
  simp only [true_and]
/-- how far the trying of a round is -/
def GR (T f : Int → Int) (k n : Int) (N0 X : Int → Int) (x : Int) (l : List (Int × Int × Int)) : Prop := (goX T f k n N0 (qI n k 0)).1 = (goX T f k n X l).1 ∧ ((goX T f k n N0 (qI n k 0)).2 = true ↔ (∃ p : Int, 0 ≤ p ∧ p < 64 ∧ lbt x p = true) ∨ (goX T f k n X l).2 = true)
theorem GR.ne {T f : Int → Int} {k n : Int} {N0 X : Int → Int} {x : Int} {l l' : List (Int × Int × Int)} (h : GR T f k n N0 X x l) (e : l = l') : GR T f k n N0 X x l' := by rw [← e]; exact h
theorem GR.sk {T f : Int → Int} {k n : Int} {N0 X : Int → Int} {x i c a : Int} (h : GR T f k n N0 X x (qA n k i c a)) (ha : a < k) (he : emB n X = false) (q : yand (yshr (X (8 * i + c)) a) 1 ≠ 1 ∨ rfB T f k n X i c a = false) : GR T f k n N0 X x (qA n k i c (a + 1)) := by
  unfold GR at h ⊢
  rw [qA_s ha] at h
  simp only [goX] at h
  rw [if_neg (by rw [he]; decide), if_neg (fun w => q.elim (fun q => q w.1) (fun q => by rw [q] at w; exact absurd w.2 (by decide)))] at h
  exact h
theorem GR.go {T f : Int → Int} {k n : Int} {N0 X X' : Int → Int} {x y i c a : Int} (h : GR T f k n N0 X x (qA n k i c a)) (ha : a < k) (he : emB n X = false) (q1 : yand (yshr (X (8 * i + c)) a) 1 = 1) (q2 : rfB T f k n X i c a = true) (e : X' = rmv f k X i c a) (hy : ∃ p : Int, 0 ≤ p ∧ p < 64 ∧ lbt y p = true) : GR T f k n N0 X' y (qA n k i c (a + 1)) := by
  unfold GR at h ⊢
  rw [qA_s ha] at h
  simp only [goX] at h
  rw [if_neg (by rw [he]; decide), if_pos ⟨q1, q2⟩, ← e] at h
  exact ⟨h.1, ⟨fun _ => Or.inl hy, fun _ => h.2.mpr (Or.inr rfl)⟩⟩
theorem gr_end {T f : Int → Int} {k n : Int} {N0 X : Int → Int} {x v : Int} (h : GR T f k n N0 X x []) (hv : v = 1 ∧ zcmp x 0 ≠ 0 ∨ v = 0 ∧ zcmp x 0 = 0) : v = 1 ∧ (goX T f k n N0 (qI n k 0)).2 = true ∨ v = 0 ∧ (goX T f k n N0 (qI n k 0)).2 = false := by
  rcases hv with ⟨e, q⟩ | ⟨e, q⟩
  · have w := low_x q
    exact Or.inl ⟨e, h.2.mpr (Or.inl ⟨_, w.1.1, w.1.2, w.2.1⟩)⟩
  · refine Or.inr ⟨e, ?_⟩
    cases z : (goX T f k n N0 (qI n k 0)).2 with
    | false => rfl
    | true =>
      rcases h.2.mp z with ⟨p, _, _, w⟩ | w
      · rw [zcmp_z q] at w; cases w
      · cases w
theorem GR.em {T f : Int → Int} {k n : Int} {N0 X : Int → Int} {x : Int} {l : List (Int × Int × Int)} (h : GR T f k n N0 X x l) (he : emB n X = true) (hy : ∃ p : Int, 0 ≤ p ∧ p < 64 ∧ lbt x p = true) : (goX T f k n N0 (qI n k 0)).1 = X ∧ (goX T f k n N0 (qI n k 0)).2 = true := by
  unfold GR at h
  rw [goX_em he] at h
  exact ⟨h.1, h.2.mpr (Or.inl hy)⟩
theorem n4_someGo {d : Nat} {Q : Int → yM → Prop} {M : yM} {x1 : Nat} {T f : Int → Int} {k n : Int} (hA : arrSh x1 64) (hn : ld M 19 0 = n) (hn8 : 1 ≤ n ∧ n ≤ 8) (hx20 : 20 ≤ x1) (hx64 : x1 ≠ 64) (hCT : CT M T f k) (hSN : SN f k n (ld M x1)) (hNe : Ne n (ld M x1)) (hCl : Cl T k n (ld M x1)) (kont : ∀ (v : Int) (M' : yM), fr (fun o _ => o = x1 ∨ o = 64) M M' → (v = 1 ∧ (goX T f k n (ld M x1) (qI n k 0)).2 = true ∨ v = 0 ∧ (goX T f k n (ld M x1) (qI n k 0)).2 = false) → (ld M' x1 = (goX T f k n (ld M x1) (qI n k 0)).1) → Q v M') : XCi (d + 4) 33 [.inr (.inr 56), .inr (.inr x1)] M Q := by
  refine eX4_someGo ?_
  have fM : fr (fun o _ => o = x1 ∨ o = 64) M M := fr.rf
  have hk8 := hCT.2.1.1
  have al8 := al_le hk8
  have go : ∀ N : Nat, (∀ (x2 : Int) (x4 : Int) (wx5 : Option yV) (wx6 : Option yV) (wx7 : Option yV) (M9 : yM), fr (fun o _ => o = x1 ∨ o = 64) M M9 → (0 ≤ x4 ∧ x4 ≤ n) → (SN f k n (ld M9 x1)) → (Ne n (ld M9 x1)) → (VS T k n (ld M9 x1) (lbt x2)) → (TV n (lbt x2)) → (GR T f k n (ld M x1) (ld M9 x1) x2 (qI n k x4)) → ((8 - x4) * 10000 + 5000 < (N : Int)) → XW kX4_someGo (d + 4) (some .boolean) (wQi Q) 5 [some (.inr (.inr 56)), some (.inr (.inr x1)), some (.inr (.inl x2)), none, some (.inl x4), wx5, wx6, wx7] [] M9) ∧ (∀ (x2 : Int) (x4 : Int) (x5 : Int) (wx6 : Option yV) (wx7 : Option yV) (M9 : yM), fr (fun o _ => o = x1 ∨ o = 64) M M9 → (0 ≤ x4 ∧ x4 < n) → (x4 < x5 ∧ x5 ≤ n) → (SN f k n (ld M9 x1)) → (Ne n (ld M9 x1)) → (VS T k n (ld M9 x1) (lbt x2)) → (TV n (lbt x2)) → (GR T f k n (ld M x1) (ld M9 x1) x2 (qC n k x4 x5)) → ((8 - x4) * 10000 + (8 - x5) * 100 + 50 < (N : Int)) → XW kX4_someGo (d + 4) (some .boolean) (wQi Q) 23 [some (.inr (.inr 56)), some (.inr (.inr x1)), some (.inr (.inl x2)), none, some (.inl x4), some (.inl x5), wx6, wx7] [] M9) ∧ (∀ (x2 : Int) (x4 : Int) (x5 : Int) (x6 : Int) (wx7 : Option yV) (M9 : yM), fr (fun o _ => o = x1 ∨ o = 64) M M9 → (0 ≤ x4 ∧ x4 < n) → (x4 < x5 ∧ x5 < n) → (0 ≤ x6 ∧ x6 ≤ 8) → (SN f k n (ld M9 x1)) → (Ne n (ld M9 x1)) → (VS T k n (ld M9 x1) (lbt x2)) → (TV n (lbt x2)) → (GR T f k n (ld M x1) (ld M9 x1) x2 (qA n k x4 x5 x6)) → ((8 - x4) * 10000 + (8 - x5) * 100 + 8 - x6 < (N : Int)) → XW kX4_someGo (d + 4) (some .boolean) (wQi Q) 38 [some (.inr (.inr 56)), some (.inr (.inr x1)), some (.inr (.inl x2)), none, some (.inl x4), some (.inl x5), some (.inl x6), wx7] [] M9) := by
    intro N
    induction N with
    | zero => refine ⟨?_, ?_, ?_⟩ <;> (intros; exfalso; omega)
    | succ N ih =>
      obtain ⟨ih0, ih1, ih2⟩ := ih
      refine ⟨?_, ?_, ?_⟩
      · skip
        clear fM
        intro x2 x4 wx5 wx6 wx7 M1 fM i0 i1 i2 i3 i4 i5 hm
        have k19_0 := fM.ld (o := 19) (j := 0) (by intro hw; first | omega | (dsimp only [wSub, wRun, wNar, wFil, wCan, wLst, wCar, wDr, wFl, wMq, wRd, wRx, wCr, wTab, wTr, wNew, wKi, wKn, wTn, wOb, wPt, wTl, wOq] at hw; omega) | (simp [wSub, wRun, wNar, wFil, wCan, wLst, wCar, wDr, wFl, wMq, wRd, wRx, wCr, wTab, wTr, wNew, wKi, wKn, wTn, wOb, wPt, wTl, wOq] at hw; done) | (simp [wSub, wRun, wNar, wFil, wCan, wLst, wCar, wDr, wFl, wMq, wRd, wRx, wCr, wTab, wTr, wNew, wKi, wKn, wTn, wOb, wPt, wTl, wOq] at hw; omega))
        refine uX4_someGo_5 (by first | omega | assumption | with_reducible exact rng_ld _ _ _ | with_reducible exact rng_yand _ _ | with_reducible exact rng_yor _ _ | with_reducible exact rng_zcmp _ _ | with_reducible exact yand7 _ | with_reducible exact rng_toInt _ | with_reducible exact yarr23 (by omega) | with_reducible exact yarr57 (by omega) | with_reducible exact Or.inl rfl | with_reducible exact Or.inr rfl) (fun hc => ?_) (fun hc => ?_)
        · skip
          have zz := lbt_0 0
          refine uX4_someGo_157 (rng_zcmp _ _) (fun hc => ?_) (fun hc => ?_)
          · skip
            refine uX4_someGo_167 ?_
            refine uX4_someGo_168 (by first | omega | assumption | with_reducible exact rng_ld _ _ _ | with_reducible exact rng_yand _ _ | with_reducible exact rng_yor _ _ | with_reducible exact rng_zcmp _ _ | with_reducible exact yand7 _ | with_reducible exact rng_toInt _ | with_reducible exact yarr23 (by omega) | with_reducible exact yarr57 (by omega) | with_reducible exact Or.inl rfl | with_reducible exact Or.inr rfl) ?_
            exact kont _ _ fM (gr_end (by rw [← qI_e (n := n) (k := k) (i := x4) (by omega)]; exact i5) (by first | exact Or.inl ⟨rfl, by assumption⟩ | exact Or.inr ⟨rfl, by assumption⟩)) (by have q := i5; rw [qI_e (by omega)] at q; exact q.1.symm)
          · skip
            refine uX4_someGo_163 ?_
            refine uX4_someGo_168 (by first | omega | assumption | with_reducible exact rng_ld _ _ _ | with_reducible exact rng_yand _ _ | with_reducible exact rng_yor _ _ | with_reducible exact rng_zcmp _ _ | with_reducible exact yand7 _ | with_reducible exact rng_toInt _ | with_reducible exact yarr23 (by omega) | with_reducible exact yarr57 (by omega) | with_reducible exact Or.inl rfl | with_reducible exact Or.inr rfl) ?_
            exact kont _ _ fM (gr_end (by rw [← qI_e (n := n) (k := k) (i := x4) (by omega)]; exact i5) (by first | exact Or.inl ⟨rfl, by assumption⟩ | exact Or.inr ⟨rfl, by assumption⟩)) (by have q := i5; rw [qI_e (by omega)] at q; exact q.1.symm)
        · skip
          refine uX4_someGo_17 ?_
          exact ih1 _ _ _ _ _ M1 fM (by first | omega | assumption | with_reducible exact rng_ld _ _ _ | with_reducible exact rng_yand _ _ | with_reducible exact rng_yor _ _ | with_reducible exact rng_zcmp _ _ | with_reducible exact yand7 _ | with_reducible exact rng_toInt _ | with_reducible exact yarr23 (by omega) | with_reducible exact yarr57 (by omega) | with_reducible exact Or.inl rfl | with_reducible exact Or.inr rfl) (by first | omega | assumption | with_reducible exact rng_ld _ _ _ | with_reducible exact rng_yand _ _ | with_reducible exact rng_yor _ _ | with_reducible exact rng_zcmp _ _ | with_reducible exact yand7 _ | with_reducible exact rng_toInt _ | with_reducible exact yarr23 (by omega) | with_reducible exact yarr57 (by omega) | with_reducible exact Or.inl rfl | with_reducible exact Or.inr rfl) (by first | exact s119 | exact hSN | assumption) (by first | exact n119 (by assumption) | exact hNe | assumption) (by first | exact u119 | exact hCl.vs | assumption) (by first | exact t119 | exact (fun p p1 p2 q => by rw [lbt_0] at q; cases q) | assumption) (by first | exact i7.ne (qA_e (by omega)) | exact i5.ne (qI_s (by omega))) (by omega)
      · skip
        clear fM
        intro x2 x4 x5 wx6 wx7 M2 fM i0 i1 i2 i3 i4 i5 i6 hm
        have k19_0 := fM.ld (o := 19) (j := 0) (by intro hw; first | omega | (dsimp only [wSub, wRun, wNar, wFil, wCan, wLst, wCar, wDr, wFl, wMq, wRd, wRx, wCr, wTab, wTr, wNew, wKi, wKn, wTn, wOb, wPt, wTl, wOq] at hw; omega) | (simp [wSub, wRun, wNar, wFil, wCan, wLst, wCar, wDr, wFl, wMq, wRd, wRx, wCr, wTab, wTr, wNew, wKi, wKn, wTn, wOb, wPt, wTl, wOq] at hw; done) | (simp [wSub, wRun, wNar, wFil, wCan, wLst, wCar, wDr, wFl, wMq, wRd, wRx, wCr, wTab, wTr, wNew, wKi, wKn, wTn, wOb, wPt, wTl, wOq] at hw; omega))
        refine uX4_someGo_23 (by first | omega | assumption | with_reducible exact rng_ld _ _ _ | with_reducible exact rng_yand _ _ | with_reducible exact rng_yor _ _ | with_reducible exact rng_zcmp _ _ | with_reducible exact yand7 _ | with_reducible exact rng_toInt _ | with_reducible exact yarr23 (by omega) | with_reducible exact yarr57 (by omega) | with_reducible exact Or.inl rfl | with_reducible exact Or.inr rfl) (fun hc => ?_) (fun hc => ?_)
        · skip
          refine uX4_someGo_151 ?_
          exact ih0 _ _ _ _ _ M2 fM (by first | omega | assumption | with_reducible exact rng_ld _ _ _ | with_reducible exact rng_yand _ _ | with_reducible exact rng_yor _ _ | with_reducible exact rng_zcmp _ _ | with_reducible exact yand7 _ | with_reducible exact rng_toInt _ | with_reducible exact yarr23 (by omega) | with_reducible exact yarr57 (by omega) | with_reducible exact Or.inl rfl | with_reducible exact Or.inr rfl) (by first | exact s119 | exact hSN | assumption) (by first | exact n119 (by assumption) | exact hNe | assumption) (by first | exact u119 | exact hCl.vs | assumption) (by first | exact t119 | exact (fun p p1 p2 q => by rw [lbt_0] at q; cases q) | assumption) (by first | exact i6.ne (qC_e (by omega)) | exact ⟨rfl, ⟨fun q => Or.inr q, fun q => q.elim (fun ⟨p, _, _, q⟩ => by rw [lbt_0] at q; cases q) (fun q => q)⟩⟩) (by omega)
        · skip
          refine uX4_someGo_35 ?_
          exact ih2 _ _ _ _ _ M2 fM (by first | omega | assumption | with_reducible exact rng_ld _ _ _ | with_reducible exact rng_yand _ _ | with_reducible exact rng_yor _ _ | with_reducible exact rng_zcmp _ _ | with_reducible exact yand7 _ | with_reducible exact rng_toInt _ | with_reducible exact yarr23 (by omega) | with_reducible exact yarr57 (by omega) | with_reducible exact Or.inl rfl | with_reducible exact Or.inr rfl) (by first | omega | assumption | with_reducible exact rng_ld _ _ _ | with_reducible exact rng_yand _ _ | with_reducible exact rng_yor _ _ | with_reducible exact rng_zcmp _ _ | with_reducible exact yand7 _ | with_reducible exact rng_toInt _ | with_reducible exact yarr23 (by omega) | with_reducible exact yarr57 (by omega) | with_reducible exact Or.inl rfl | with_reducible exact Or.inr rfl) (by first | omega | assumption | with_reducible exact rng_ld _ _ _ | with_reducible exact rng_yand _ _ | with_reducible exact rng_yor _ _ | with_reducible exact rng_zcmp _ _ | with_reducible exact yand7 _ | with_reducible exact rng_toInt _ | with_reducible exact yarr23 (by omega) | with_reducible exact yarr57 (by omega) | with_reducible exact Or.inl rfl | with_reducible exact Or.inr rfl) (by first | exact s119 | exact hSN | assumption) (by first | exact n119 (by assumption) | exact hNe | assumption) (by first | exact u119 | exact hCl.vs | assumption) (by first | exact t119 | exact (fun p p1 p2 q => by rw [lbt_0] at q; cases q) | assumption) (by first | exact g119 | exact i6.ne (qC_s (by omega)) | exact skp (Or.inl (by omega)) | exact skp (Or.inr (r67.elim (fun q => q.2) (fun q => absurd q.1 (by assumption))))) (by omega)
      · skip
        clear fM
        intro x2 x4 x5 x6 wx7 M3 fM i0 i1 i2 i3 i4 i5 i6 i7 hm
        have k19_0 := fM.ld (o := 19) (j := 0) (by intro hw; first | omega | (dsimp only [wSub, wRun, wNar, wFil, wCan, wLst, wCar, wDr, wFl, wMq, wRd, wRx, wCr, wTab, wTr, wNew, wKi, wKn, wTn, wOb, wPt, wTl, wOq] at hw; omega) | (simp [wSub, wRun, wNar, wFil, wCan, wLst, wCar, wDr, wFl, wMq, wRd, wRx, wCr, wTab, wTr, wNew, wKi, wKn, wTn, wOb, wPt, wTl, wOq] at hw; done) | (simp [wSub, wRun, wNar, wFil, wCan, wLst, wCar, wDr, wFl, wMq, wRd, wRx, wCr, wTab, wTr, wNew, wKi, wKn, wTn, wOb, wPt, wTl, wOq] at hw; omega))
        refine uX4_someGo_38 (by first | omega | assumption | with_reducible exact rng_ld _ _ _ | with_reducible exact rng_yand _ _ | with_reducible exact rng_yor _ _ | with_reducible exact rng_zcmp _ _ | with_reducible exact yand7 _ | with_reducible exact rng_toInt _ | with_reducible exact yarr23 (by omega) | with_reducible exact yarr57 (by omega) | with_reducible exact Or.inl rfl | with_reducible exact Or.inr rfl) (fun hc => ?_) (fun hc => ?_)
        · skip
          refine uX4_someGo_145 ?_
          exact ih1 _ _ _ _ _ M3 fM (by first | omega | assumption | with_reducible exact rng_ld _ _ _ | with_reducible exact rng_yand _ _ | with_reducible exact rng_yor _ _ | with_reducible exact rng_zcmp _ _ | with_reducible exact yand7 _ | with_reducible exact rng_toInt _ | with_reducible exact yarr23 (by omega) | with_reducible exact yarr57 (by omega) | with_reducible exact Or.inl rfl | with_reducible exact Or.inr rfl) (by first | omega | assumption | with_reducible exact rng_ld _ _ _ | with_reducible exact rng_yand _ _ | with_reducible exact rng_yor _ _ | with_reducible exact rng_zcmp _ _ | with_reducible exact yand7 _ | with_reducible exact rng_toInt _ | with_reducible exact yarr23 (by omega) | with_reducible exact yarr57 (by omega) | with_reducible exact Or.inl rfl | with_reducible exact Or.inr rfl) (by first | exact s119 | exact hSN | assumption) (by first | exact n119 (by assumption) | exact hNe | assumption) (by first | exact u119 | exact hCl.vs | assumption) (by first | exact t119 | exact (fun p p1 p2 q => by rw [lbt_0] at q; cases q) | assumption) (by first | exact i7.ne (qA_e (by omega)) | exact i5.ne (qI_s (by omega))) (by omega)
        · skip
          have o45 := i3 x4 x5 (by omega) (by omega) (by omega) (by omega) (by omega)
          have he := (emB_ne hk8 hCT.2.1.2.1 (by omega) i3).mpr i4
          have b45r := o45.1.r hk8
          have yb := ybitZ (a := ld M3 x1 (8 * x4 + x5)) (x := x6) (by omega) (by omega)
          have skp : (yand (yshr (ld M3 x1 (8 * x4 + x5)) x6) 1 ≠ 1 ∨ rfB T f k n (ld M3 x1) x4 x5 x6 = false) → GR T f k n (ld M x1) (ld M3 x1) x2 (qA n k x4 x5 (x6 + 1)) := fun q => by
            by_cases w : x6 < k
            · exact i7.sk w he q
            · exact i7.ne (qA_n (by omega)).symm
          refine uX4_someGo_45 (by first | assumption | exact ⟨rfl, Nat.le_of_ble_eq_true rfl⟩ | with_reducible exact yarr23 (by omega) | with_reducible exact yarr57 (by omega)) (by first | omega | assumption | with_reducible exact rng_ld _ _ _ | with_reducible exact rng_yand _ _ | with_reducible exact rng_yor _ _ | with_reducible exact rng_zcmp _ _ | with_reducible exact yand7 _ | with_reducible exact rng_toInt _ | with_reducible exact yarr23 (by omega) | with_reducible exact yarr57 (by omega) | with_reducible exact Or.inl rfl | with_reducible exact Or.inr rfl) (fun hc => ?_) (fun hc => ?_)
          · skip
            refine uX4_someGo_139 ?_
            exact ih2 _ _ _ _ _ M3 fM (by first | omega | assumption | with_reducible exact rng_ld _ _ _ | with_reducible exact rng_yand _ _ | with_reducible exact rng_yor _ _ | with_reducible exact rng_zcmp _ _ | with_reducible exact yand7 _ | with_reducible exact rng_toInt _ | with_reducible exact yarr23 (by omega) | with_reducible exact yarr57 (by omega) | with_reducible exact Or.inl rfl | with_reducible exact Or.inr rfl) (by first | omega | assumption | with_reducible exact rng_ld _ _ _ | with_reducible exact rng_yand _ _ | with_reducible exact rng_yor _ _ | with_reducible exact rng_zcmp _ _ | with_reducible exact yand7 _ | with_reducible exact rng_toInt _ | with_reducible exact yarr23 (by omega) | with_reducible exact yarr57 (by omega) | with_reducible exact Or.inl rfl | with_reducible exact Or.inr rfl) (by first | omega | assumption | with_reducible exact rng_ld _ _ _ | with_reducible exact rng_yand _ _ | with_reducible exact rng_yor _ _ | with_reducible exact rng_zcmp _ _ | with_reducible exact yand7 _ | with_reducible exact rng_toInt _ | with_reducible exact yarr23 (by omega) | with_reducible exact yarr57 (by omega) | with_reducible exact Or.inl rfl | with_reducible exact Or.inr rfl) (by first | exact s119 | exact hSN | assumption) (by first | exact n119 (by assumption) | exact hNe | assumption) (by first | exact u119 | exact hCl.vs | assumption) (by first | exact t119 | exact (fun p p1 p2 q => by rw [lbt_0] at q; cases q) | assumption) (by first | exact g119 | exact i6.ne (qC_s (by omega)) | exact skp (Or.inl (by omega)) | exact skp (Or.inr (r67.elim (fun q => q.2) (fun q => absurd q.1 (by assumption))))) (by omega)
          · skip
            have y01 := yand01 (yshr (ld M3 x1 (8 * x4 + x5)) x6)
            have b45 : yand (yshr (ld M3 x1 (8 * x4 + x5)) x6) 1 = 1 := by omega
            have kk : 0 ≤ x6 ∧ x6 < k := ⟨by omega, by have := bt_al (by omega) o45.1 (yb.mp b45); omega⟩
            refine uX4_someGo_67 ?_
            refine XC.deep (n4_stays  (d := 0) (by first | assumption | exact ⟨rfl, Nat.le_of_ble_eq_true rfl⟩ | with_reducible exact yarr23 (by omega) | with_reducible exact yarr57 (by omega)) (by first | omega | assumption | with_reducible exact rng_ld _ _ _ | with_reducible exact rng_yand _ _ | with_reducible exact rng_yor _ _ | with_reducible exact rng_zcmp _ _ | with_reducible exact yand7 _ | with_reducible exact rng_toInt _ | with_reducible exact yarr23 (by omega) | with_reducible exact yarr57 (by omega) | with_reducible exact Or.inl rfl | with_reducible exact Or.inr rfl) (by first | omega | assumption | with_reducible exact rng_ld _ _ _ | with_reducible exact rng_yand _ _ | with_reducible exact rng_yor _ _ | with_reducible exact rng_zcmp _ _ | with_reducible exact yand7 _ | with_reducible exact rng_toInt _ | with_reducible exact yarr23 (by omega) | with_reducible exact yarr57 (by omega) | with_reducible exact Or.inl rfl | with_reducible exact Or.inr rfl) (by first | omega | assumption | with_reducible exact rng_ld _ _ _ | with_reducible exact rng_yand _ _ | with_reducible exact rng_yor _ _ | with_reducible exact rng_zcmp _ _ | with_reducible exact yand7 _ | with_reducible exact rng_toInt _ | with_reducible exact yarr23 (by omega) | with_reducible exact yarr57 (by omega) | with_reducible exact Or.inl rfl | with_reducible exact Or.inr rfl) (by first | omega | assumption | with_reducible exact rng_ld _ _ _ | with_reducible exact rng_yand _ _ | with_reducible exact rng_yor _ _ | with_reducible exact rng_zcmp _ _ | with_reducible exact yand7 _ | with_reducible exact rng_toInt _ | with_reducible exact yarr23 (by omega) | with_reducible exact yarr57 (by omega) | with_reducible exact Or.inl rfl | with_reducible exact Or.inr rfl) (by omega : 0 ≤ x4 ∧ x4 < x5 ∧ x5 < n) rfl kk b45 (hCT.fr fM (by (first | (dsimp only [wNo]; omega) | omega)) (fun _ => by (first | (dsimp only [wNo]; omega) | omega)) (fun _ => by (first | (dsimp only [wNo]; omega) | omega))) i3 i4 i5 i6 (fun v67 M4 fM4 p4a => ?_)) (by omega)
            replace fM := fM.tr fM4 (by intro o j hw; first | omega | exact hw | (dsimp only [wSub, wRun, wNar, wFil, wCan, wLst, wCar, wDr, wFl, wMq, wRd, wRx, wCr, wTab, wTr, wNew, wKi, wKn, wTn, wOb, wPt, wTl, wOq] at hw; dsimp only [wSub, wRun, wNar, wFil, wCan, wLst, wCar, wDr, wFl, wMq, wRd, wRx, wCr, wTab, wTr, wNew, wKi, wKn, wTn, wOb, wPt, wTl, wOq]; omega) | (dsimp only [wSub, wRun, wNar, wFil, wCan, wLst, wCar, wDr, wFl, wMq, wRd, wRx, wCr, wTab, wTr, wNew, wKi, wKn, wTn, wOb, wPt, wTl, wOq]; omega) | (dsimp only [wSub, wRun, wNar, wFil, wCan, wLst, wCar, wDr, wFl, wMq, wRd, wRx, wCr, wTab, wTr, wNew, wKi, wKn, wTn, wOb, wPt, wTl, wOq] at hw; omega) | (simp [wSub, wRun, wNar, wFil, wCan, wLst, wCar, wDr, wFl, wMq, wRd, wRx, wCr, wTab, wTr, wNew, wKi, wKn, wTn, wOb, wPt, wTl, wOq] at hw; simp [wSub, wRun, wNar, wFil, wCan, wLst, wCar, wDr, wFl, wMq, wRd, wRx, wCr, wTab, wTr, wNew, wKi, wKn, wTn, wOb, wPt, wTl, wOq]; omega))
            have k19_0 := fM.ld (o := 19) (j := 0) (by intro hw; first | omega | (dsimp only [wSub, wRun, wNar, wFil, wCan, wLst, wCar, wDr, wFl, wMq, wRd, wRx, wCr, wTab, wTr, wNew, wKi, wKn, wTn, wOb, wPt, wTl, wOq] at hw; omega) | (simp [wSub, wRun, wNar, wFil, wCan, wLst, wCar, wDr, wFl, wMq, wRd, wRx, wCr, wTab, wTr, wNew, wKi, wKn, wTn, wOb, wPt, wTl, wOq] at hw; done) | (simp [wSub, wRun, wNar, wFil, wCan, wLst, wCar, wDr, wFl, wMq, wRd, wRx, wCr, wTab, wTr, wNew, wKi, wKn, wTn, wOb, wPt, wTl, wOq] at hw; omega))
            have e67 : ld M4 x1 = ld M3 x1 := funext fun j => fM4.ld (by omega)
            rw [← e67] at b45 o45 he yb
            have i3 := i3
            rw [← e67] at i3 i4 i5 i7
            have r67 : v67 = 1 ∧ rfB T f k n (ld M4 x1) x4 x5 x6 = false ∨ v67 = 0 ∧ rfB T f k n (ld M4 x1) x4 x5 x6 = true := by rw [e67]; exact p4a
            have skp : (yand (yshr (ld M4 x1 (8 * x4 + x5)) x6) 1 ≠ 1 ∨ rfB T f k n (ld M4 x1) x4 x5 x6 = false) → GR T f k n (ld M x1) (ld M4 x1) x2 (qA n k x4 x5 (x6 + 1)) := fun q => i7.sk kk.2 he q
            refine uX4_someGo_77 (by first | omega | assumption | with_reducible exact rng_ld _ _ _ | with_reducible exact rng_yand _ _ | with_reducible exact rng_yor _ _ | with_reducible exact rng_zcmp _ _ | with_reducible exact yand7 _ | with_reducible exact rng_toInt _ | with_reducible exact yarr23 (by omega) | with_reducible exact yarr57 (by omega) | with_reducible exact Or.inl rfl | with_reducible exact Or.inr rfl) (fun hc => ?_) (fun hc => ?_)
            · skip
              have rf := (r67.elim (fun q => absurd q.1 (by omega)) (fun q => q.2))
              refine uX4_someGo_83 (by first | assumption | exact ⟨rfl, Nat.le_of_ble_eq_true rfl⟩ | with_reducible exact yarr23 (by omega) | with_reducible exact yarr57 (by omega)) (by first | omega | assumption | with_reducible exact rng_ld _ _ _ | with_reducible exact rng_yand _ _ | with_reducible exact rng_yor _ _ | with_reducible exact rng_zcmp _ _ | with_reducible exact yand7 _ | with_reducible exact rng_toInt _ | with_reducible exact yarr23 (by omega) | with_reducible exact yarr57 (by omega) | with_reducible exact Or.inl rfl | with_reducible exact Or.inr rfl) (by first | omega | assumption | with_reducible exact rng_ld _ _ _ | with_reducible exact rng_yand _ _ | with_reducible exact rng_yor _ _ | with_reducible exact rng_zcmp _ _ | with_reducible exact yand7 _ | with_reducible exact rng_toInt _ | with_reducible exact yarr23 (by omega) | with_reducible exact yarr57 (by omega) | with_reducible exact Or.inl rfl | with_reducible exact Or.inr rfl) ?_
              intro M5 hM5
              replace fM := fr.put fM hM5 (by first | omega | (dsimp only [wSub, wRun, wNar, wFil, wCan, wLst, wCar, wDr, wFl, wMq, wRd, wRx, wCr, wTab, wTr, wNew, wKi, wKn, wTn, wOb, wPt, wTl, wOq]; done) | (dsimp only [wSub, wRun, wNar, wFil, wCan, wLst, wCar, wDr, wFl, wMq, wRd, wRx, wCr, wTab, wTr, wNew, wKi, wKn, wTn, wOb, wPt, wTl, wOq]; omega) | (simp [wSub, wRun, wNar, wFil, wCan, wLst, wCar, wDr, wFl, wMq, wRd, wRx, wCr, wTab, wTr, wNew, wKi, wKn, wTn, wOb, wPt, wTl, wOq]; done) | (simp [wSub, wRun, wNar, wFil, wCan, wLst, wCar, wDr, wFl, wMq, wRd, wRx, wCr, wTab, wTr, wNew, wKi, wKn, wTn, wOb, wPt, wTl, wOq]; omega))
              have k19_0 := fM.ld (o := 19) (j := 0) (by intro hw; first | omega | (dsimp only [wSub, wRun, wNar, wFil, wCan, wLst, wCar, wDr, wFl, wMq, wRd, wRx, wCr, wTab, wTr, wNew, wKi, wKn, wTn, wOb, wPt, wTl, wOq] at hw; omega) | (simp [wSub, wRun, wNar, wFil, wCan, wLst, wCar, wDr, wFl, wMq, wRd, wRx, wCr, wTab, wTr, wNew, wKi, wKn, wTn, wOb, wPt, wTl, wOq] at hw; done) | (simp [wSub, wRun, wNar, wFil, wCan, wLst, wCar, wDr, wFl, wMq, wRd, wRx, wCr, wTab, wTr, wNew, wKi, wKn, wTn, wOb, wPt, wTl, wOq] at hw; omega))
              have e83 := hM5
              have m83 : ld M5 x1 (8 * x4 + x5) = yand (ld M4 x1 (8 * x4 + x5)) (yxor (yshl 1 x6) (-1)) := by rw [hM5, ld_same (rng_yand _ _)]
              have se83 : Se k (yand (ld M4 x1 (8 * x4 + x5)) (yxor (yshl 1 x6) (-1))) := se_and hk8 o45.1
              have t83 : ld M5 4 (yand (ld M5 x1 (8 * x4 + x5)) 255) = tP f k (yand (ld M4 x1 (8 * x4 + x5)) (yxor (yshl 1 x6) (-1))) := by rw [m83, fM.ld (by omega)]; exact hCT.2.2.2 _ se83
              refine uX4_someGo_96 (by first | assumption | exact ⟨rfl, Nat.le_of_ble_eq_true rfl⟩ | with_reducible exact yarr23 (by omega) | with_reducible exact yarr57 (by omega)) (by first | omega | assumption | with_reducible exact rng_ld _ _ _ | with_reducible exact rng_yand _ _ | with_reducible exact rng_yor _ _ | with_reducible exact rng_zcmp _ _ | with_reducible exact yand7 _ | with_reducible exact rng_toInt _ | with_reducible exact yarr23 (by omega) | with_reducible exact yarr57 (by omega) | with_reducible exact Or.inl rfl | with_reducible exact Or.inr rfl) ?_
              refine c9_turnSet   ?_
              refine uX4_someGo_119 (by first | assumption | exact ⟨rfl, Nat.le_of_ble_eq_true rfl⟩ | with_reducible exact yarr23 (by omega) | with_reducible exact yarr57 (by omega)) (by first | omega | assumption | with_reducible exact rng_ld _ _ _ | with_reducible exact rng_yand _ _ | with_reducible exact rng_yor _ _ | with_reducible exact rng_zcmp _ _ | with_reducible exact yand7 _ | with_reducible exact rng_toInt _ | with_reducible exact yarr23 (by omega) | with_reducible exact yarr57 (by omega) | with_reducible exact Or.inl rfl | with_reducible exact Or.inr rfl) ?_
              intro M7 hM7
              replace fM := fr.put fM hM7 (by first | omega | (dsimp only [wSub, wRun, wNar, wFil, wCan, wLst, wCar, wDr, wFl, wMq, wRd, wRx, wCr, wTab, wTr, wNew, wKi, wKn, wTn, wOb, wPt, wTl, wOq]; done) | (dsimp only [wSub, wRun, wNar, wFil, wCan, wLst, wCar, wDr, wFl, wMq, wRd, wRx, wCr, wTab, wTr, wNew, wKi, wKn, wTn, wOb, wPt, wTl, wOq]; omega) | (simp [wSub, wRun, wNar, wFil, wCan, wLst, wCar, wDr, wFl, wMq, wRd, wRx, wCr, wTab, wTr, wNew, wKi, wKn, wTn, wOb, wPt, wTl, wOq]; done) | (simp [wSub, wRun, wNar, wFil, wCan, wLst, wCar, wDr, wFl, wMq, wRd, wRx, wCr, wTab, wTr, wNew, wKi, wKn, wTn, wOb, wPt, wTl, wOq]; omega))
              have k19_0 := fM.ld (o := 19) (j := 0) (by intro hw; first | omega | (dsimp only [wSub, wRun, wNar, wFil, wCan, wLst, wCar, wDr, wFl, wMq, wRd, wRx, wCr, wTab, wTr, wNew, wKi, wKn, wTn, wOb, wPt, wTl, wOq] at hw; omega) | (simp [wSub, wRun, wNar, wFil, wCan, wLst, wCar, wDr, wFl, wMq, wRd, wRx, wCr, wTab, wTr, wNew, wKi, wKn, wTn, wOb, wPt, wTl, wOq] at hw; done) | (simp [wSub, wRun, wNar, wFil, wCan, wLst, wCar, wDr, wFl, wMq, wRd, wRx, wCr, wTab, wTr, wNew, wKi, wKn, wTn, wOb, wPt, wTl, wOq] at hw; omega))
              rw [t83] at hM7
              have e119 := rmv_put e83 hM7
              have s119 : SN f k n (ld M7 x1) := by rw [e119]; exact i3.up hk8 hCT.2.1.2.1 (by omega) (by omega) (by omega) (by omega) se83
              have n119 : ld M7 x1 (8 * x4 + x5) ≠ 0 → Ne n (ld M7 x1) := fun q => by
                rw [e119] at q ⊢
                unfold rmv at q
                rw [up2_at (by omega) (by omega) (by omega) (by omega), if_neg (by omega), if_pos ⟨rfl, rfl⟩] at q
                exact i4.up hk8 hCT.2.1.2.1 (by omega) (by omega) (by omega) se83 q
              have pp : pi2 x4 x5 = 8 * x4 + x5 := by unfold pi2; rw [if_pos (by omega)]
              have lb : ∀ p : Int, 0 ≤ p → lbt (zor x2 (pbit x4 x5)) p = (lbt x2 p || decide (p = 8 * x4 + x5)) := fun p p1 => by
                rw [lbt_zor]
                congr 1
                rw [← pp]
                exact lbt_pb (by omega) (by omega) p1
              have u119 : VS T k n (ld M7 x1) (lbt (zor x2 (pbit x4 x5))) := by
                rw [e119]
                exact i5.up hCT.2.1 (by omega) i3 (by omega) (by omega) (by omega) se83 (yand_subl _ _) (fun p p1 p2 q => by
                  rw [lb p p1, Bool.or_eq_false_iff, decide_eq_false_iff_not] at q
                  exact ⟨q.1, by rw [pp]; exact q.2⟩)
              have t119 : TV n (lbt (zor x2 (pbit x4 x5))) := fun p p1 p2 q => by
                rw [lb p p1, Bool.or_eq_true, decide_eq_true_eq] at q
                rcases q with q | q
                · exact i6 p p1 p2 q
                · exact ⟨x4, x5, by omega, by omega, by omega, q⟩
              have y119 : ∃ p : Int, 0 ≤ p ∧ p < 64 ∧ lbt (zor x2 (pbit x4 x5)) p = true := ⟨8 * x4 + x5, by omega, by omega, by rw [lb _ (by omega)]; simp⟩
              have g119 : GR T f k n (ld M x1) (ld M7 x1) (zor x2 (pbit x4 x5)) (qA n k x4 x5 (x6 + 1)) := i7.go kk.2 he b45 rf e119 y119
              refine uX4_someGo_120 ?_
              refine c11_pairBit  (by first | omega | assumption | with_reducible exact rng_ld _ _ _ | with_reducible exact rng_yand _ _ | with_reducible exact rng_yor _ _ | with_reducible exact rng_zcmp _ _ | with_reducible exact yand7 _ | with_reducible exact rng_toInt _ | with_reducible exact yarr23 (by omega) | with_reducible exact yarr57 (by omega) | with_reducible exact Or.inl rfl | with_reducible exact Or.inr rfl) (by first | omega | assumption | with_reducible exact rng_ld _ _ _ | with_reducible exact rng_yand _ _ | with_reducible exact rng_yor _ _ | with_reducible exact rng_zcmp _ _ | with_reducible exact yand7 _ | with_reducible exact rng_toInt _ | with_reducible exact yarr23 (by omega) | with_reducible exact yarr57 (by omega) | with_reducible exact Or.inl rfl | with_reducible exact Or.inr rfl) ?_
              refine uX4_someGo_128 (by first | assumption | exact ⟨rfl, Nat.le_of_ble_eq_true rfl⟩ | with_reducible exact yarr23 (by omega) | with_reducible exact yarr57 (by omega)) (by first | omega | assumption | with_reducible exact rng_ld _ _ _ | with_reducible exact rng_yand _ _ | with_reducible exact rng_yor _ _ | with_reducible exact rng_zcmp _ _ | with_reducible exact yand7 _ | with_reducible exact rng_toInt _ | with_reducible exact yarr23 (by omega) | with_reducible exact yarr57 (by omega) | with_reducible exact Or.inl rfl | with_reducible exact Or.inr rfl) (fun hc => ?_) (fun hc => ?_)
              · skip
                refine uX4_someGo_139 ?_
                exact ih2 _ _ _ _ _ M7 fM (by first | omega | assumption | with_reducible exact rng_ld _ _ _ | with_reducible exact rng_yand _ _ | with_reducible exact rng_yor _ _ | with_reducible exact rng_zcmp _ _ | with_reducible exact yand7 _ | with_reducible exact rng_toInt _ | with_reducible exact yarr23 (by omega) | with_reducible exact yarr57 (by omega) | with_reducible exact Or.inl rfl | with_reducible exact Or.inr rfl) (by first | omega | assumption | with_reducible exact rng_ld _ _ _ | with_reducible exact rng_yand _ _ | with_reducible exact rng_yor _ _ | with_reducible exact rng_zcmp _ _ | with_reducible exact yand7 _ | with_reducible exact rng_toInt _ | with_reducible exact yarr23 (by omega) | with_reducible exact yarr57 (by omega) | with_reducible exact Or.inl rfl | with_reducible exact Or.inr rfl) (by first | omega | assumption | with_reducible exact rng_ld _ _ _ | with_reducible exact rng_yand _ _ | with_reducible exact rng_yor _ _ | with_reducible exact rng_zcmp _ _ | with_reducible exact yand7 _ | with_reducible exact rng_toInt _ | with_reducible exact yarr23 (by omega) | with_reducible exact yarr57 (by omega) | with_reducible exact Or.inl rfl | with_reducible exact Or.inr rfl) (by first | exact s119 | exact hSN | assumption) (by first | exact n119 (by assumption) | exact hNe | assumption) (by first | exact u119 | exact hCl.vs | assumption) (by first | exact t119 | exact (fun p p1 p2 q => by rw [lbt_0] at q; cases q) | assumption) (by first | exact g119 | exact i6.ne (qC_s (by omega)) | exact skp (Or.inl (by omega)) | exact skp (Or.inr (r67.elim (fun q => q.2) (fun q => absurd q.1 (by assumption))))) (by omega)
              · skip
                refine uX4_someGo_137 ?_
                exact kont _ _ fM (Or.inl ⟨rfl, (g119.em ((emB_iff (by omega)).mpr ⟨x4, x5, by omega, by omega, by omega, by assumption⟩) y119).2⟩) (g119.em ((emB_iff (by omega)).mpr ⟨x4, x5, by omega, by omega, by omega, by assumption⟩) y119).1.symm
            · skip
              refine uX4_someGo_80 ?_
              refine uX4_someGo_139 ?_
              exact ih2 _ _ _ _ _ M4 fM (by first | omega | assumption | with_reducible exact rng_ld _ _ _ | with_reducible exact rng_yand _ _ | with_reducible exact rng_yor _ _ | with_reducible exact rng_zcmp _ _ | with_reducible exact yand7 _ | with_reducible exact rng_toInt _ | with_reducible exact yarr23 (by omega) | with_reducible exact yarr57 (by omega) | with_reducible exact Or.inl rfl | with_reducible exact Or.inr rfl) (by first | omega | assumption | with_reducible exact rng_ld _ _ _ | with_reducible exact rng_yand _ _ | with_reducible exact rng_yor _ _ | with_reducible exact rng_zcmp _ _ | with_reducible exact yand7 _ | with_reducible exact rng_toInt _ | with_reducible exact yarr23 (by omega) | with_reducible exact yarr57 (by omega) | with_reducible exact Or.inl rfl | with_reducible exact Or.inr rfl) (by first | omega | assumption | with_reducible exact rng_ld _ _ _ | with_reducible exact rng_yand _ _ | with_reducible exact rng_yor _ _ | with_reducible exact rng_zcmp _ _ | with_reducible exact yand7 _ | with_reducible exact rng_toInt _ | with_reducible exact yarr23 (by omega) | with_reducible exact yarr57 (by omega) | with_reducible exact Or.inl rfl | with_reducible exact Or.inr rfl) (by first | exact s119 | exact hSN | assumption) (by first | exact n119 (by assumption) | exact hNe | assumption) (by first | exact u119 | exact hCl.vs | assumption) (by first | exact t119 | exact (fun p p1 p2 q => by rw [lbt_0] at q; cases q) | assumption) (by first | exact g119 | exact i6.ne (qC_s (by omega)) | exact skp (Or.inl (by omega)) | exact skp (Or.inr (r67.elim (fun q => q.2) (fun q => absurd q.1 (by assumption))))) (by omega)
  refine uX4_someGo_0 ?_
  exact (go 1000000).1 _ _ _ _ _ M fM (by first | omega | assumption | with_reducible exact rng_ld _ _ _ | with_reducible exact rng_yand _ _ | with_reducible exact rng_yor _ _ | with_reducible exact rng_zcmp _ _ | with_reducible exact yand7 _ | with_reducible exact rng_toInt _ | with_reducible exact yarr23 (by omega) | with_reducible exact yarr57 (by omega) | with_reducible exact Or.inl rfl | with_reducible exact Or.inr rfl) (by first | exact s119 | exact hSN | assumption) (by first | exact n119 (by assumption) | exact hNe | assumption) (by first | exact u119 | exact hCl.vs | assumption) (by first | exact t119 | exact (fun p p1 p2 q => by rw [lbt_0] at q; cases q) | assumption) (by first | exact i6.ne (qC_e (by omega)) | exact ⟨rfl, ⟨fun q => Or.inr q, fun q => q.elim (fun ⟨p, _, _, q⟩ => by rw [lbt_0] at q; cases q) (fun q => q)⟩⟩) (by omega)
theorem tr_s {T f : Int → Int} {k n : Int} {m : Nat} {X : Int → Int} (he : emB n (fullP T f k n X) = false) (hg : (goX T f k n (fullP T f k n X) (qI n k 0)).2 = true) (hz : emB n (goX T f k n (fullP T f k n X) (qI n k 0)).1 = false) : trP T f k n (m + 1) X = trP T f k n m (goX T f k n (fullP T f k n X) (qI n k 0)).1 := by
  simp only [trP]
  rw [if_neg (by rw [he]; decide), if_pos ⟨hg, hz⟩]
theorem tr_e {T f : Int → Int} {k n : Int} {m : Nat} {X : Int → Int} (he : emB n (fullP T f k n X) = true) : trP T f k n (m + 1) X = fullP T f k n X := by
  simp only [trP]
  rw [if_pos he]
theorem tr_n {T f : Int → Int} {k n : Int} {m : Nat} {X : Int → Int} (he : emB n (fullP T f k n X) = false) (h : ¬ ((goX T f k n (fullP T f k n X) (qI n k 0)).2 = true ∧ emB n (goX T f k n (fullP T f k n X) (qI n k 0)).1 = false)) : trP T f k n (m + 1) X = (goX T f k n (fullP T f k n X) (qI n k 0)).1 := by
  simp only [trP]
  rw [if_neg (by rw [he]; decide), if_neg h]
theorem full_le {T f : Int → Int} {k n : Int} {X : Int → Int} (hT : TH T f k) (hn : 0 ≤ n ∧ n ≤ 8) (hX : SN f k n X) : pcs n (fullP T f k n X) ≤ pcs n X := full_pc hT.1 hT.2.1 hn 300 X hX
theorem n4_trying {d : Nat} {Q : Int → yM → Prop} {M : yM} {x1 : Nat} {T f : Int → Int} {k n : Int} (hA : arrSh x1 64) (hn : ld M 19 0 = n) (hn8 : 1 ≤ n ∧ n ≤ 8) (hx20 : 20 ≤ x1) (hx63 : x1 ≠ 63) (hx64 : x1 ≠ 64) (hCT : CT M T f k) (hSN : SN f k n (ld M x1)) (kont : ∀ (v : Int) (M' : yM), fr (fun o _ => o = x1 ∨ o = 63 ∨ o = 64) M M' → (ld M' x1 = tryP T f k n (ld M x1)) → Q v M') : XCi (d + 5) 32 [.inr (.inr 56), .inr (.inr x1)] M Q := by
  refine eX4_trying ?_
  have fM : fr (fun o _ => o = x1 ∨ o = 63 ∨ o = 64) M M := fr.rf
  have hk8 := hCT.2.1.1
  have hn0 : 0 ≤ n ∧ n ≤ 8 := by omega
  have go : ∀ N : Nat, (∀ (x2 : Int) (x3 : Int) (x4 : Int) (M9 : yM), fr (fun o _ => o = x1 ∨ o = 63 ∨ o = 64) M M9 → (x3 = 0 ∨ x3 = 1) → (0 ≤ x4 ∧ x4 ≤ 1000) → (SN f k n (ld M9 x1)) → (x3 = 1 → x4 + pcs n (ld M9 x1) ≤ 224 ∧ tryP T f k n (ld M x1) = trP T f k n (300 - x4).toNat (ld M9 x1)) → (x3 = 0 → tryP T f k n (ld M x1) = ld M9 x1) → (1000 - x4 < (N : Int)) → XW kX4_trying (d + 5) (some .int) (wQi Q) 26 [some (.inr (.inr 56)), some (.inr (.inr x1)), some (.inl x2), some (.inl x3), some (.inl x4)] [] M9) := by
    intro N
    induction N with
    | zero => intros; exfalso; omega
    | succ N ih =>
      have ih0 := ih
      clear fM
      intro x2 x3 x4 M1 fM i0 i1 i2 i3 i4 hm
      have k19_0 := fM.ld (o := 19) (j := 0) (by intro hw; first | omega | (dsimp only [wSub, wRun, wNar, wFil, wCan, wLst, wCar, wDr, wFl, wMq, wRd, wRx, wCr, wTab, wTr, wNew, wKi, wKn, wTn, wOb, wPt, wTl, wOq] at hw; omega) | (simp [wSub, wRun, wNar, wFil, wCan, wLst, wCar, wDr, wFl, wMq, wRd, wRx, wCr, wTab, wTr, wNew, wKi, wKn, wTn, wOb, wPt, wTl, wOq] at hw; done) | (simp [wSub, wRun, wNar, wFil, wCan, wLst, wCar, wDr, wFl, wMq, wRd, wRx, wCr, wTab, wTr, wNew, wKi, wKn, wTn, wOb, wPt, wTl, wOq] at hw; omega))
      refine uX4_trying_26 (by first | omega | assumption | with_reducible exact rng_ld _ _ _ | with_reducible exact rng_yand _ _ | with_reducible exact rng_yor _ _ | with_reducible exact rng_zcmp _ _ | with_reducible exact yand7 _ | with_reducible exact rng_toInt _ | with_reducible exact yarr23 (by omega) | with_reducible exact yarr57 (by omega) | with_reducible exact Or.inl rfl | with_reducible exact Or.inr rfl) (fun hc => ?_) (fun hc => ?_)
      · skip
        have pz := (pcs_b n (ld M1 x1)).1
        refine uX4_trying_94 ?_
        exact kont _ _ fM (by first | exact (i4 (by assumption)).symm | (exfalso; have := (i3 (by omega)).1; omega))
      · skip
        refine uX4_trying_30 (by first | omega | assumption | with_reducible exact rng_ld _ _ _ | with_reducible exact rng_yand _ _ | with_reducible exact rng_yor _ _ | with_reducible exact rng_zcmp _ _ | with_reducible exact yand7 _ | with_reducible exact rng_toInt _ | with_reducible exact yarr23 (by omega) | with_reducible exact yarr57 (by omega) | with_reducible exact Or.inl rfl | with_reducible exact Or.inr rfl) (fun hc => ?_) (fun hc => ?_)
        · skip
          have pz := (pcs_b n (ld M1 x1)).1
          refine uX4_trying_94 ?_
          exact kont _ _ fM (by first | exact (i4 (by assumption)).symm | (exfalso; have := (i3 (by omega)).1; omega))
        · skip
          refine uX4_trying_38 ?_
          refine XC.deep (n4_full  (d := 0) (by first | assumption | exact ⟨rfl, Nat.le_of_ble_eq_true rfl⟩ | with_reducible exact yarr23 (by omega) | with_reducible exact yarr57 (by omega)) (by first | omega | assumption | with_reducible exact rng_ld _ _ _ | with_reducible exact rng_yand _ _ | with_reducible exact rng_yor _ _ | with_reducible exact rng_zcmp _ _ | with_reducible exact yand7 _ | with_reducible exact rng_toInt _ | with_reducible exact yarr23 (by omega) | with_reducible exact yarr57 (by omega) | with_reducible exact Or.inl rfl | with_reducible exact Or.inr rfl) (by first | omega | assumption | with_reducible exact rng_ld _ _ _ | with_reducible exact rng_yand _ _ | with_reducible exact rng_yor _ _ | with_reducible exact rng_zcmp _ _ | with_reducible exact yand7 _ | with_reducible exact rng_toInt _ | with_reducible exact yarr23 (by omega) | with_reducible exact yarr57 (by omega) | with_reducible exact Or.inl rfl | with_reducible exact Or.inr rfl) (by first | omega | assumption | with_reducible exact rng_ld _ _ _ | with_reducible exact rng_yand _ _ | with_reducible exact rng_yor _ _ | with_reducible exact rng_zcmp _ _ | with_reducible exact yand7 _ | with_reducible exact rng_toInt _ | with_reducible exact yarr23 (by omega) | with_reducible exact yarr57 (by omega) | with_reducible exact Or.inl rfl | with_reducible exact Or.inr rfl) (by first | omega | assumption | with_reducible exact rng_ld _ _ _ | with_reducible exact rng_yand _ _ | with_reducible exact rng_yor _ _ | with_reducible exact rng_zcmp _ _ | with_reducible exact yand7 _ | with_reducible exact rng_toInt _ | with_reducible exact yarr23 (by omega) | with_reducible exact yarr57 (by omega) | with_reducible exact Or.inl rfl | with_reducible exact Or.inr rfl) (hCT.fr fM (by (first | (dsimp only [wNo]; omega) | omega)) (fun _ => by (first | (dsimp only [wNo]; omega) | omega)) (fun _ => by (first | (dsimp only [wNo]; omega) | omega))) i2 (fun v38 M2 fM2 p2a => ?_)) (by omega)
          replace fM := fM.tr fM2 (by intro o j hw; first | omega | exact hw | (dsimp only [wSub, wRun, wNar, wFil, wCan, wLst, wCar, wDr, wFl, wMq, wRd, wRx, wCr, wTab, wTr, wNew, wKi, wKn, wTn, wOb, wPt, wTl, wOq] at hw; dsimp only [wSub, wRun, wNar, wFil, wCan, wLst, wCar, wDr, wFl, wMq, wRd, wRx, wCr, wTab, wTr, wNew, wKi, wKn, wTn, wOb, wPt, wTl, wOq]; omega) | (dsimp only [wSub, wRun, wNar, wFil, wCan, wLst, wCar, wDr, wFl, wMq, wRd, wRx, wCr, wTab, wTr, wNew, wKi, wKn, wTn, wOb, wPt, wTl, wOq]; omega) | (dsimp only [wSub, wRun, wNar, wFil, wCan, wLst, wCar, wDr, wFl, wMq, wRd, wRx, wCr, wTab, wTr, wNew, wKi, wKn, wTn, wOb, wPt, wTl, wOq] at hw; omega) | (simp [wSub, wRun, wNar, wFil, wCan, wLst, wCar, wDr, wFl, wMq, wRd, wRx, wCr, wTab, wTr, wNew, wKi, wKn, wTn, wOb, wPt, wTl, wOq] at hw; simp [wSub, wRun, wNar, wFil, wCan, wLst, wCar, wDr, wFl, wMq, wRd, wRx, wCr, wTab, wTr, wNew, wKi, wKn, wTn, wOb, wPt, wTl, wOq]; omega))
          have k19_0 := fM.ld (o := 19) (j := 0) (by intro hw; first | omega | (dsimp only [wSub, wRun, wNar, wFil, wCan, wLst, wCar, wDr, wFl, wMq, wRd, wRx, wCr, wTab, wTr, wNew, wKi, wKn, wTn, wOb, wPt, wTl, wOq] at hw; omega) | (simp [wSub, wRun, wNar, wFil, wCan, wLst, wCar, wDr, wFl, wMq, wRd, wRx, wCr, wTab, wTr, wNew, wKi, wKn, wTn, wOb, wPt, wTl, wOq] at hw; done) | (simp [wSub, wRun, wNar, wFil, wCan, wLst, wCar, wDr, wFl, wMq, wRd, wRx, wCr, wTab, wTr, wNew, wKi, wKn, wTn, wOb, wPt, wTl, wOq] at hw; omega))
          have e38 : ld M2 x1 = fullP T f k n (ld M1 x1) := p2a
          have s38 : SN f k n (ld M2 x1) := by rw [e38]; exact fullP_sn hk8 hCT.2.1.2.1 hn0 i2
          have i33 := i3 (by omega)
          have p38 : pcs n (ld M2 x1) ≤ pcs n (ld M1 x1) := by rw [e38]; exact full_le hCT.2.1 hn0 i2
          have m38 : (300 - x4).toNat = (300 - (x4 + 1)).toNat + 1 := by have := (pcs_b n (ld M1 x1)).1; omega
          have t38 := i33.2
          rw [m38] at t38
          refine uX4_trying_44 ?_
          refine n11_hasEmpty  (by first | assumption | exact ⟨rfl, Nat.le_of_ble_eq_true rfl⟩ | with_reducible exact yarr23 (by omega) | with_reducible exact yarr57 (by omega)) (by first | omega | assumption | with_reducible exact rng_ld _ _ _ | with_reducible exact rng_yand _ _ | with_reducible exact rng_yor _ _ | with_reducible exact rng_zcmp _ _ | with_reducible exact yand7 _ | with_reducible exact rng_toInt _ | with_reducible exact yarr23 (by omega) | with_reducible exact yarr57 (by omega) | with_reducible exact Or.inl rfl | with_reducible exact Or.inr rfl) (fun v44 p3a => ?_)
          have q44 := p3a
          rw [k19_0, hn] at q44
          have u44 : v44 ≠ 0 → tryP T f k n (ld M x1) = ld M2 x1 := fun w => by
            rw [t38, e38]
            exact tr_e (by rw [← e38]; exact q44.elim (fun q => q.2) (fun q => absurd q.1 w))
          refine uX4_trying_57 (by first | omega | assumption | with_reducible exact rng_ld _ _ _ | with_reducible exact rng_yand _ _ | with_reducible exact rng_yor _ _ | with_reducible exact rng_zcmp _ _ | with_reducible exact yand7 _ | with_reducible exact rng_toInt _ | with_reducible exact yarr23 (by omega) | with_reducible exact yarr57 (by omega) | with_reducible exact Or.inl rfl | with_reducible exact Or.inr rfl) (fun hc => ?_) (fun hc => ?_)
          · skip
            refine uX4_trying_86 ?_
            refine uX4_trying_87 ?_
            exact ih0 _ _ _ M2 fM (by first | omega | assumption | with_reducible exact rng_ld _ _ _ | with_reducible exact rng_yand _ _ | with_reducible exact rng_yor _ _ | with_reducible exact rng_zcmp _ _ | with_reducible exact yand7 _ | with_reducible exact rng_toInt _ | with_reducible exact yarr23 (by omega) | with_reducible exact yarr57 (by omega) | with_reducible exact Or.inl rfl | with_reducible exact Or.inr rfl) (by first | omega | assumption | with_reducible exact rng_ld _ _ _ | with_reducible exact rng_yand _ _ | with_reducible exact rng_yor _ _ | with_reducible exact rng_zcmp _ _ | with_reducible exact yand7 _ | with_reducible exact rng_toInt _ | with_reducible exact yarr23 (by omega) | with_reducible exact yarr57 (by omega) | with_reducible exact Or.inl rfl | with_reducible exact Or.inr rfl) (by first | exact hSN | exact g60 | exact s38) (by first | exact (fun _ => ⟨by have := (pcs_b n (ld M x1)).2; omega, rfl⟩) | exact (fun _ => t68 (by omega)) | exact (fun q => absurd q (by omega))) (by first | exact (fun q => absurd q (by omega)) | exact (fun _ => r0 (by omega)) | exact (fun _ => u68 (by omega)) | exact (fun _ => u60 (by omega)) | exact (fun _ => u44 (by omega))) (by omega)
          · skip
            have f44 : emB n (ld M2 x1) = false := q44.elim (fun q => absurd q.1 (by omega)) (fun q => q.2)
            have n44 := (emB_ne hk8 hCT.2.1.2.1 (by omega) s38).mp f44
            have c44 : Cl T k n (ld M2 x1) := fx_cl hCT.2.1 hn0 s38 (by rw [e38]; exact fullP_fix hk8 hCT.2.1.2.1 hn0 i2) f44
            refine uX4_trying_60 ?_
            refine XC.deep (n4_someGo  (d := 0) (by first | assumption | exact ⟨rfl, Nat.le_of_ble_eq_true rfl⟩ | with_reducible exact yarr23 (by omega) | with_reducible exact yarr57 (by omega)) (by first | omega | assumption | with_reducible exact rng_ld _ _ _ | with_reducible exact rng_yand _ _ | with_reducible exact rng_yor _ _ | with_reducible exact rng_zcmp _ _ | with_reducible exact yand7 _ | with_reducible exact rng_toInt _ | with_reducible exact yarr23 (by omega) | with_reducible exact yarr57 (by omega) | with_reducible exact Or.inl rfl | with_reducible exact Or.inr rfl) (by first | omega | assumption | with_reducible exact rng_ld _ _ _ | with_reducible exact rng_yand _ _ | with_reducible exact rng_yor _ _ | with_reducible exact rng_zcmp _ _ | with_reducible exact yand7 _ | with_reducible exact rng_toInt _ | with_reducible exact yarr23 (by omega) | with_reducible exact yarr57 (by omega) | with_reducible exact Or.inl rfl | with_reducible exact Or.inr rfl) (by first | omega | assumption | with_reducible exact rng_ld _ _ _ | with_reducible exact rng_yand _ _ | with_reducible exact rng_yor _ _ | with_reducible exact rng_zcmp _ _ | with_reducible exact yand7 _ | with_reducible exact rng_toInt _ | with_reducible exact yarr23 (by omega) | with_reducible exact yarr57 (by omega) | with_reducible exact Or.inl rfl | with_reducible exact Or.inr rfl) (by first | omega | assumption | with_reducible exact rng_ld _ _ _ | with_reducible exact rng_yand _ _ | with_reducible exact rng_yor _ _ | with_reducible exact rng_zcmp _ _ | with_reducible exact yand7 _ | with_reducible exact rng_toInt _ | with_reducible exact yarr23 (by omega) | with_reducible exact yarr57 (by omega) | with_reducible exact Or.inl rfl | with_reducible exact Or.inr rfl) (hCT.fr fM (by (first | (dsimp only [wNo]; omega) | omega)) (fun _ => by (first | (dsimp only [wNo]; omega) | omega)) (fun _ => by (first | (dsimp only [wNo]; omega) | omega))) s38 n44 c44 (fun v60 M4 fM4 p4a p4b => ?_)) (by omega)
            replace fM := fM.tr fM4 (by intro o j hw; first | omega | exact hw | (dsimp only [wSub, wRun, wNar, wFil, wCan, wLst, wCar, wDr, wFl, wMq, wRd, wRx, wCr, wTab, wTr, wNew, wKi, wKn, wTn, wOb, wPt, wTl, wOq] at hw; dsimp only [wSub, wRun, wNar, wFil, wCan, wLst, wCar, wDr, wFl, wMq, wRd, wRx, wCr, wTab, wTr, wNew, wKi, wKn, wTn, wOb, wPt, wTl, wOq]; omega) | (dsimp only [wSub, wRun, wNar, wFil, wCan, wLst, wCar, wDr, wFl, wMq, wRd, wRx, wCr, wTab, wTr, wNew, wKi, wKn, wTn, wOb, wPt, wTl, wOq]; omega) | (dsimp only [wSub, wRun, wNar, wFil, wCan, wLst, wCar, wDr, wFl, wMq, wRd, wRx, wCr, wTab, wTr, wNew, wKi, wKn, wTn, wOb, wPt, wTl, wOq] at hw; omega) | (simp [wSub, wRun, wNar, wFil, wCan, wLst, wCar, wDr, wFl, wMq, wRd, wRx, wCr, wTab, wTr, wNew, wKi, wKn, wTn, wOb, wPt, wTl, wOq] at hw; simp [wSub, wRun, wNar, wFil, wCan, wLst, wCar, wDr, wFl, wMq, wRd, wRx, wCr, wTab, wTr, wNew, wKi, wKn, wTn, wOb, wPt, wTl, wOq]; omega))
            have k19_0 := fM.ld (o := 19) (j := 0) (by intro hw; first | omega | (dsimp only [wSub, wRun, wNar, wFil, wCan, wLst, wCar, wDr, wFl, wMq, wRd, wRx, wCr, wTab, wTr, wNew, wKi, wKn, wTn, wOb, wPt, wTl, wOq] at hw; omega) | (simp [wSub, wRun, wNar, wFil, wCan, wLst, wCar, wDr, wFl, wMq, wRd, wRx, wCr, wTab, wTr, wNew, wKi, wKn, wTn, wOb, wPt, wTl, wOq] at hw; done) | (simp [wSub, wRun, wNar, wFil, wCan, wLst, wCar, wDr, wFl, wMq, wRd, wRx, wCr, wTab, wTr, wNew, wKi, wKn, wTn, wOb, wPt, wTl, wOq] at hw; omega))
            have q60 := p4a
            have e60 : ld M4 x1 = _ := p4b
            have g60 : SN f k n (ld M4 x1) := by rw [e60]; exact (goX_ok hCT.2.1 hn0 _ _ (qI_v (by omega)) s38).1
            have p60 : v60 ≠ 0 → pcs n (ld M4 x1) < pcs n (ld M2 x1) := fun w => by rw [e60]; exact (goX_ok hCT.2.1 hn0 _ _ (qI_v (by omega)) s38).2.2.1 (q60.elim (fun q => q.2) (fun q => absurd q.1 w))
            have u60 : v60 = 0 → tryP T f k n (ld M x1) = ld M4 x1 := fun w => by
              rw [e60, t38]
              rw [e38] at q60 f44 ⊢
              exact tr_n f44 (fun q => by
                have := q60.elim (fun q => absurd q.1 (by omega)) (fun q => q.2)
                rw [this] at q
                exact absurd q.1 (by decide))
            refine uX4_trying_65 (by first | omega | assumption | with_reducible exact rng_ld _ _ _ | with_reducible exact rng_yand _ _ | with_reducible exact rng_yor _ _ | with_reducible exact rng_zcmp _ _ | with_reducible exact yand7 _ | with_reducible exact rng_toInt _ | with_reducible exact yarr23 (by omega) | with_reducible exact yarr57 (by omega) | with_reducible exact Or.inl rfl | with_reducible exact Or.inr rfl) (fun hc => ?_) (fun hc => ?_)
            · skip
              refine uX4_trying_86 ?_
              refine uX4_trying_87 ?_
              exact ih0 _ _ _ M4 fM (by first | omega | assumption | with_reducible exact rng_ld _ _ _ | with_reducible exact rng_yand _ _ | with_reducible exact rng_yor _ _ | with_reducible exact rng_zcmp _ _ | with_reducible exact yand7 _ | with_reducible exact rng_toInt _ | with_reducible exact yarr23 (by omega) | with_reducible exact yarr57 (by omega) | with_reducible exact Or.inl rfl | with_reducible exact Or.inr rfl) (by first | omega | assumption | with_reducible exact rng_ld _ _ _ | with_reducible exact rng_yand _ _ | with_reducible exact rng_yor _ _ | with_reducible exact rng_zcmp _ _ | with_reducible exact yand7 _ | with_reducible exact rng_toInt _ | with_reducible exact yarr23 (by omega) | with_reducible exact yarr57 (by omega) | with_reducible exact Or.inl rfl | with_reducible exact Or.inr rfl) (by first | exact hSN | exact g60 | exact s38) (by first | exact (fun _ => ⟨by have := (pcs_b n (ld M x1)).2; omega, rfl⟩) | exact (fun _ => t68 (by omega)) | exact (fun q => absurd q (by omega))) (by first | exact (fun q => absurd q (by omega)) | exact (fun _ => r0 (by omega)) | exact (fun _ => u68 (by omega)) | exact (fun _ => u60 (by omega)) | exact (fun _ => u44 (by omega))) (by omega)
            · skip
              refine uX4_trying_68 ?_
              refine n11_hasEmpty  (by first | assumption | exact ⟨rfl, Nat.le_of_ble_eq_true rfl⟩ | with_reducible exact yarr23 (by omega) | with_reducible exact yarr57 (by omega)) (by first | omega | assumption | with_reducible exact rng_ld _ _ _ | with_reducible exact rng_yand _ _ | with_reducible exact rng_yor _ _ | with_reducible exact rng_zcmp _ _ | with_reducible exact yand7 _ | with_reducible exact rng_toInt _ | with_reducible exact yarr23 (by omega) | with_reducible exact yarr57 (by omega) | with_reducible exact Or.inl rfl | with_reducible exact Or.inr rfl) (fun v68 p5a => ?_)
              have q68 := p5a
              rw [k19_0, hn] at q68
              have t68 : v68 = 0 → x4 + 1 + pcs n (ld M4 x1) ≤ 224 ∧ tryP T f k n (ld M x1) = trP T f k n (300 - (x4 + 1)).toNat (ld M4 x1) := fun w => by
                refine ⟨by have := p60 (by assumption); have := i33.1; omega, ?_⟩
                have z := q68.elim (fun q => absurd q.1 (by omega)) (fun q => q.2)
                have y := q60.elim (fun q => q.2) (fun q => absurd q.1 (by assumption))
                rw [e60] at z ⊢
                rw [t38]
                rw [e38] at z y f44 ⊢
                exact tr_s f44 y z
              have u68 : v68 ≠ 0 → tryP T f k n (ld M x1) = ld M4 x1 := fun w => by
                have z := q68.elim (fun q => q.2) (fun q => absurd q.1 w)
                rw [e60] at z ⊢
                rw [t38]
                rw [e38] at z f44 ⊢
                exact tr_n f44 (fun q => by rw [z] at q; exact absurd q.2 (by decide))
              refine uX4_trying_79 (by first | omega | assumption | with_reducible exact rng_ld _ _ _ | with_reducible exact rng_yand _ _ | with_reducible exact rng_yor _ _ | with_reducible exact rng_zcmp _ _ | with_reducible exact yand7 _ | with_reducible exact rng_toInt _ | with_reducible exact yarr23 (by omega) | with_reducible exact yarr57 (by omega) | with_reducible exact Or.inl rfl | with_reducible exact Or.inr rfl) (fun hc => ?_) (fun hc => ?_)
              · skip
                refine uX4_trying_86 ?_
                refine uX4_trying_87 ?_
                exact ih0 _ _ _ M4 fM (by first | omega | assumption | with_reducible exact rng_ld _ _ _ | with_reducible exact rng_yand _ _ | with_reducible exact rng_yor _ _ | with_reducible exact rng_zcmp _ _ | with_reducible exact yand7 _ | with_reducible exact rng_toInt _ | with_reducible exact yarr23 (by omega) | with_reducible exact yarr57 (by omega) | with_reducible exact Or.inl rfl | with_reducible exact Or.inr rfl) (by first | omega | assumption | with_reducible exact rng_ld _ _ _ | with_reducible exact rng_yand _ _ | with_reducible exact rng_yor _ _ | with_reducible exact rng_zcmp _ _ | with_reducible exact yand7 _ | with_reducible exact rng_toInt _ | with_reducible exact yarr23 (by omega) | with_reducible exact yarr57 (by omega) | with_reducible exact Or.inl rfl | with_reducible exact Or.inr rfl) (by first | exact hSN | exact g60 | exact s38) (by first | exact (fun _ => ⟨by have := (pcs_b n (ld M x1)).2; omega, rfl⟩) | exact (fun _ => t68 (by omega)) | exact (fun q => absurd q (by omega))) (by first | exact (fun q => absurd q (by omega)) | exact (fun _ => r0 (by omega)) | exact (fun _ => u68 (by omega)) | exact (fun _ => u60 (by omega)) | exact (fun _ => u44 (by omega))) (by omega)
              · skip
                refine uX4_trying_82 ?_
                refine uX4_trying_87 ?_
                exact ih0 _ _ _ M4 fM (by first | omega | assumption | with_reducible exact rng_ld _ _ _ | with_reducible exact rng_yand _ _ | with_reducible exact rng_yor _ _ | with_reducible exact rng_zcmp _ _ | with_reducible exact yand7 _ | with_reducible exact rng_toInt _ | with_reducible exact yarr23 (by omega) | with_reducible exact yarr57 (by omega) | with_reducible exact Or.inl rfl | with_reducible exact Or.inr rfl) (by first | omega | assumption | with_reducible exact rng_ld _ _ _ | with_reducible exact rng_yand _ _ | with_reducible exact rng_yor _ _ | with_reducible exact rng_zcmp _ _ | with_reducible exact yand7 _ | with_reducible exact rng_toInt _ | with_reducible exact yarr23 (by omega) | with_reducible exact yarr57 (by omega) | with_reducible exact Or.inl rfl | with_reducible exact Or.inr rfl) (by first | exact hSN | exact g60 | exact s38) (by first | exact (fun _ => ⟨by have := (pcs_b n (ld M x1)).2; omega, rfl⟩) | exact (fun _ => t68 (by omega)) | exact (fun q => absurd q (by omega))) (by first | exact (fun q => absurd q (by omega)) | exact (fun _ => r0 (by omega)) | exact (fun _ => u68 (by omega)) | exact (fun _ => u60 (by omega)) | exact (fun _ => u44 (by omega))) (by omega)
  refine uX4_trying_0 ?_
  refine n11_hasEmpty  (by first | assumption | exact ⟨rfl, Nat.le_of_ble_eq_true rfl⟩ | with_reducible exact yarr23 (by omega) | with_reducible exact yarr57 (by omega)) (by first | omega | assumption | with_reducible exact rng_ld _ _ _ | with_reducible exact rng_yand _ _ | with_reducible exact rng_yor _ _ | with_reducible exact rng_zcmp _ _ | with_reducible exact yand7 _ | with_reducible exact rng_toInt _ | with_reducible exact yarr23 (by omega) | with_reducible exact yarr57 (by omega) | with_reducible exact Or.inl rfl | with_reducible exact Or.inr rfl) (fun v0 p6a => ?_)
  have q0 := p6a
  rw [hn] at q0
  have r0 : v0 ≠ 0 → tryP T f k n (ld M x1) = ld M x1 := fun w => by
    have he : emB n (ld M x1) = true := q0.elim (fun q => q.2) (fun q => absurd q.1 w)
    have hf := fullP_em (T := T) (f := f) (k := k) he
    exact (tr_e (m := 299) (by rw [hf]; exact he)).trans hf
  refine uX4_trying_14 (by first | omega | assumption | with_reducible exact rng_ld _ _ _ | with_reducible exact rng_yand _ _ | with_reducible exact rng_yor _ _ | with_reducible exact rng_zcmp _ _ | with_reducible exact yand7 _ | with_reducible exact rng_toInt _ | with_reducible exact yarr23 (by omega) | with_reducible exact yarr57 (by omega) | with_reducible exact Or.inl rfl | with_reducible exact Or.inr rfl) (fun hc => ?_) (fun hc => ?_)
  · skip
    refine uX4_trying_21 ?_
    refine uX4_trying_22 ?_
    exact (go 1000000) _ _ _ M fM (by first | omega | assumption | with_reducible exact rng_ld _ _ _ | with_reducible exact rng_yand _ _ | with_reducible exact rng_yor _ _ | with_reducible exact rng_zcmp _ _ | with_reducible exact yand7 _ | with_reducible exact rng_toInt _ | with_reducible exact yarr23 (by omega) | with_reducible exact yarr57 (by omega) | with_reducible exact Or.inl rfl | with_reducible exact Or.inr rfl) (by first | omega | assumption | with_reducible exact rng_ld _ _ _ | with_reducible exact rng_yand _ _ | with_reducible exact rng_yor _ _ | with_reducible exact rng_zcmp _ _ | with_reducible exact yand7 _ | with_reducible exact rng_toInt _ | with_reducible exact yarr23 (by omega) | with_reducible exact yarr57 (by omega) | with_reducible exact Or.inl rfl | with_reducible exact Or.inr rfl) (by first | exact hSN | exact g60 | exact s38) (by first | exact (fun _ => ⟨by have := (pcs_b n (ld M x1)).2; omega, rfl⟩) | exact (fun _ => t68 (by omega)) | exact (fun q => absurd q (by omega))) (by first | exact (fun q => absurd q (by omega)) | exact (fun _ => r0 (by omega)) | exact (fun _ => u68 (by omega)) | exact (fun _ => u60 (by omega)) | exact (fun _ => u44 (by omega))) (by omega)
  · skip
    refine uX4_trying_17 ?_
    refine uX4_trying_22 ?_
    exact (go 1000000) _ _ _ M fM (by first | omega | assumption | with_reducible exact rng_ld _ _ _ | with_reducible exact rng_yand _ _ | with_reducible exact rng_yor _ _ | with_reducible exact rng_zcmp _ _ | with_reducible exact yand7 _ | with_reducible exact rng_toInt _ | with_reducible exact yarr23 (by omega) | with_reducible exact yarr57 (by omega) | with_reducible exact Or.inl rfl | with_reducible exact Or.inr rfl) (by first | omega | assumption | with_reducible exact rng_ld _ _ _ | with_reducible exact rng_yand _ _ | with_reducible exact rng_yor _ _ | with_reducible exact rng_zcmp _ _ | with_reducible exact yand7 _ | with_reducible exact rng_toInt _ | with_reducible exact yarr23 (by omega) | with_reducible exact yarr57 (by omega) | with_reducible exact Or.inl rfl | with_reducible exact Or.inr rfl) (by first | exact hSN | exact g60 | exact s38) (by first | exact (fun _ => ⟨by have := (pcs_b n (ld M x1)).2; omega, rfl⟩) | exact (fun _ => t68 (by omega)) | exact (fun q => absurd q (by omega))) (by first | exact (fun q => absurd q (by omega)) | exact (fun _ => r0 (by omega)) | exact (fun _ => u68 (by omega)) | exact (fun _ => u60 (by omega)) | exact (fun _ => u44 (by omega))) (by omega)
/-- what a way leaves -/
def resP (T f : Int → Int) (k n w : Int) (N : Int → Int) : Int → Int := if w = -1 then N else if w = 0 then onceP T f k n N else if w = 1 then fullP T f k n N else tryP T f k n N
theorem resP_eq {T f : Int → Int} {k n w : Int} {N N' : Int → Int} (hk : 0 ≤ k) (hn : 0 ≤ n ∧ n ≤ 8) (h : EqN N N') : EqN (resP T f k n w N) (resP T f k n w N') := by
  unfold resP
  split
  · exact h
  · split
    · exact onceP_eq hn h
    · split
      · exact fullP_eqn hn h
      · exact trP_eq hk hn 300 _ _ h
/-- what is kept of the ways is so -/
def CAC (M : yM) (T f : Int → Int) (k n : Int) : Prop := ∀ w : Int, 0 ≤ w → w < 3 → ld M 62 w ≠ 0 → EqN (ld M (58 + w.toNat)) (resP T f k n w (ld M 20))
theorem CAC.fr {W : Nat → Int → Prop} {M M' : yM} {T f : Int → Int} {k n : Int} (h : CAC M T f k n) (fM : fr W M M') (hw : ∀ o j, W o j → o ≠ 20 ∧ ¬ (58 ≤ o ∧ o ≤ 60) ∧ o ≠ 62) : CAC M' T f k n := fun w w1 w2 w3 => by
  have e20 : ld M' 20 = ld M 20 := funext fun j => fM.ld (fun q => (hw _ _ q).1 rfl)
  have e58 : ld M' (58 + w.toNat) = ld M (58 + w.toNat) := funext fun j => fM.ld (fun q => (hw _ _ q).2.1 (by omega))
  rw [fM.ld (fun q => (hw _ _ q).2.2 rfl)] at w3
  rw [e20, e58]
  exact h w w1 w2 w3
theorem CAC.z {M : yM} {T f : Int → Int} {k n : Int} (h : ∀ w : Int, 0 ≤ w → w < 3 → ld M 62 w = 0) : CAC M T f k n := fun w w1 w2 w3 => absurd (h w w1 w2) w3
theorem cac_set {M0 M M' : yM} {T f : Int → Int} {k n w : Int} {W : Nat → Int → Prop} (h : CAC M0 T f k n) (hw : 0 ≤ w ∧ w < 3) (fM : fr W M0 M) (h20 : ∀ j, ¬ W 20 j) (h58 : ∀ o j, 58 ≤ o → o ≤ 60 → o ≠ 58 + w.toNat → ¬ W o j) (h62 : ∀ j, ¬ W 62 j) (e : EqN (ld M (58 + w.toNat)) (resP T f k n w (ld M0 20))) (e2 : M' = put M 62 w 1) : CAC M' T f k n := fun u u1 u2 u3 => by
  have e20 : ld M' 20 = ld M0 20 := funext fun j => by rw [e2, ld_putne (Or.inl (by omega)), fM.ld (h20 j)]
  have eR : ld M' (58 + u.toNat) = ld M (58 + u.toNat) := funext fun j => by rw [e2, ld_putne (Or.inl (by omega))]
  rw [e20, eR]
  by_cases q : u = w
  · rw [q]; exact e
  · rw [show ld M (58 + u.toNat) = ld M0 (58 + u.toNat) from funext fun j => fM.ld (h58 _ j (by omega) (by omega) (by omega))]
    refine h u u1 u2 ?_
    rw [e2, ld_putne (Or.inr q), fM.ld (h62 u)] at u3
    exact u3
theorem n4_cellsBy {d : Nat} {Q : Nat → yM → Prop} {M : yM} {x1 : Int} {T f : Int → Int} {k n : Int} (h1 : -1 ≤ x1 ∧ x1 < 3) (hn : ld M 19 0 = n) (hn8 : 1 ≤ n ∧ n ≤ 8) (hCT : CT M T f k) (hSN : SN f k n (ld M 20)) (hCAC : CAC M T f k n) (kont : ∀ (v : Nat) (M' : yM), fr (fun o _ => 58 ≤ o ∧ o ≤ 64) M M' → (arrSh v 64) → (EqN (ld M' v) (resP T f k n x1 (ld M 20))) → (CAC M' T f k n) → Q v M') : XCr (d + 6) 28 [.inr (.inr 56), .inl x1] M Q := by
  refine eX4_cellsBy ?_
  have fM : fr (fun o _ => 58 ≤ o ∧ o ≤ 64) M M := fr.rf
  have hk8 := hCT.2.1.1
  refine uX4_cellsBy_0 (by first | omega | assumption | with_reducible exact rng_ld _ _ _ | with_reducible exact rng_yand _ _ | with_reducible exact rng_yor _ _ | with_reducible exact rng_zcmp _ _ | with_reducible exact yand7 _ | with_reducible exact rng_toInt _ | with_reducible exact yarr23 (by omega) | with_reducible exact yarr57 (by omega) | with_reducible exact Or.inl rfl | with_reducible exact Or.inr rfl) (fun hc => ?_) (fun hc => ?_)
  · skip
    have a58 : arrSh (58 + x1.toNat) 64 := yarr57 (by omega)
    refine uX4_cellsBy_13 (by first | omega | assumption | with_reducible exact rng_ld _ _ _ | with_reducible exact rng_yand _ _ | with_reducible exact rng_yor _ _ | with_reducible exact rng_zcmp _ _ | with_reducible exact yand7 _ | with_reducible exact rng_toInt _ | with_reducible exact yarr23 (by omega) | with_reducible exact yarr57 (by omega) | with_reducible exact Or.inl rfl | with_reducible exact Or.inr rfl) (by first | omega | assumption | with_reducible exact rng_ld _ _ _ | with_reducible exact rng_yand _ _ | with_reducible exact rng_yor _ _ | with_reducible exact rng_zcmp _ _ | with_reducible exact yand7 _ | with_reducible exact rng_toInt _ | with_reducible exact yarr23 (by omega) | with_reducible exact yarr57 (by omega) | with_reducible exact Or.inl rfl | with_reducible exact Or.inr rfl) (fun hc => ?_) (fun hc => ?_)
    · skip
      refine uX4_cellsBy_87 ?_
      exact kont _ _ fM a58 (by first | exact e80 | exact hCAC x1 (by omega) (by omega) (by assumption)) (by first | exact c80 | exact hCAC)
    · skip
      refine uX4_cellsBy_29 (by first | assumption | exact ⟨rfl, Nat.le_of_ble_eq_true rfl⟩ | with_reducible exact yarr23 (by omega) | with_reducible exact yarr57 (by omega)) ?_
      intro M1 hM1
      replace fM := fr.cpy fM hM1 (by intro j hj1 hj2; exact (by first | omega | (dsimp only [wSub, wRun, wNar, wFil, wCan, wLst, wCar, wDr, wFl, wMq, wRd, wRx, wCr, wTab, wTr, wNew, wKi, wKn, wTn, wOb, wPt, wTl, wOq]; done) | (dsimp only [wSub, wRun, wNar, wFil, wCan, wLst, wCar, wDr, wFl, wMq, wRd, wRx, wCr, wTab, wTr, wNew, wKi, wKn, wTn, wOb, wPt, wTl, wOq]; omega) | (simp [wSub, wRun, wNar, wFil, wCan, wLst, wCar, wDr, wFl, wMq, wRd, wRx, wCr, wTab, wTr, wNew, wKi, wKn, wTn, wOb, wPt, wTl, wOq]; done) | (simp [wSub, wRun, wNar, wFil, wCan, wLst, wCar, wDr, wFl, wMq, wRd, wRx, wCr, wTab, wTr, wNew, wKi, wKn, wTn, wOb, wPt, wTl, wOq]; omega)))
      have k19_0 := fM.ld (o := 19) (j := 0) (by intro hw; first | omega | (dsimp only [wSub, wRun, wNar, wFil, wCan, wLst, wCar, wDr, wFl, wMq, wRd, wRx, wCr, wTab, wTr, wNew, wKi, wKn, wTn, wOb, wPt, wTl, wOq] at hw; omega) | (simp [wSub, wRun, wNar, wFil, wCan, wLst, wCar, wDr, wFl, wMq, wRd, wRx, wCr, wTab, wTr, wNew, wKi, wKn, wTn, wOb, wPt, wTl, wOq] at hw; done) | (simp [wSub, wRun, wNar, wFil, wCan, wLst, wCar, wDr, wFl, wMq, wRd, wRx, wCr, wTab, wTr, wNew, wKi, wKn, wTn, wOb, wPt, wTl, wOq] at hw; omega))
      have e29 : EqN (ld M1 (58 + x1.toNat)) (ld M 20) := fun j a1 a2 => by
        rw [hM1, ld_cpy, if_pos ⟨rfl, a1, by omega⟩]
        congr 1
        omega
      have s29 := hSN.eq (by omega) e29.sy
      have w29 : fr (fun o _ => o = 58 + x1.toNat ∨ o = 61 ∨ o = 63 ∨ o = 64) M M1 := fr.cpy fr.rf hM1 (fun j _ _ => Or.inl rfl)
      refine uX4_cellsBy_44 (by first | omega | assumption | with_reducible exact rng_ld _ _ _ | with_reducible exact rng_yand _ _ | with_reducible exact rng_yor _ _ | with_reducible exact rng_zcmp _ _ | with_reducible exact yand7 _ | with_reducible exact rng_toInt _ | with_reducible exact yarr23 (by omega) | with_reducible exact yarr57 (by omega) | with_reducible exact Or.inl rfl | with_reducible exact Or.inr rfl) (fun hc => ?_) (fun hc => ?_)
      · skip
        refine uX4_cellsBy_61 (by first | omega | assumption | with_reducible exact rng_ld _ _ _ | with_reducible exact rng_yand _ _ | with_reducible exact rng_yor _ _ | with_reducible exact rng_zcmp _ _ | with_reducible exact yand7 _ | with_reducible exact rng_toInt _ | with_reducible exact yarr23 (by omega) | with_reducible exact yarr57 (by omega) | with_reducible exact Or.inl rfl | with_reducible exact Or.inr rfl) (fun hc => ?_) (fun hc => ?_)
        · skip
          refine uX4_cellsBy_74 ?_
          refine XC.deep (n4_trying  (d := 0) a58 (by first | omega | assumption | with_reducible exact rng_ld _ _ _ | with_reducible exact rng_yand _ _ | with_reducible exact rng_yor _ _ | with_reducible exact rng_zcmp _ _ | with_reducible exact yand7 _ | with_reducible exact rng_toInt _ | with_reducible exact yarr23 (by omega) | with_reducible exact yarr57 (by omega) | with_reducible exact Or.inl rfl | with_reducible exact Or.inr rfl) hn8 (by omega) (by omega) (by omega) (hCT.fr fM (by (first | (dsimp only [wNo]; omega) | omega)) (fun _ => by (first | (dsimp only [wNo]; omega) | omega)) (fun _ => by (first | (dsimp only [wNo]; omega) | omega))) s29 (fun v2 M2 fM2 p2a => ?_)) (by omega)
          replace fM := fM.tr fM2 (by intro o j hw; first | omega | exact hw | (dsimp only [wSub, wRun, wNar, wFil, wCan, wLst, wCar, wDr, wFl, wMq, wRd, wRx, wCr, wTab, wTr, wNew, wKi, wKn, wTn, wOb, wPt, wTl, wOq] at hw; dsimp only [wSub, wRun, wNar, wFil, wCan, wLst, wCar, wDr, wFl, wMq, wRd, wRx, wCr, wTab, wTr, wNew, wKi, wKn, wTn, wOb, wPt, wTl, wOq]; omega) | (dsimp only [wSub, wRun, wNar, wFil, wCan, wLst, wCar, wDr, wFl, wMq, wRd, wRx, wCr, wTab, wTr, wNew, wKi, wKn, wTn, wOb, wPt, wTl, wOq]; omega) | (dsimp only [wSub, wRun, wNar, wFil, wCan, wLst, wCar, wDr, wFl, wMq, wRd, wRx, wCr, wTab, wTr, wNew, wKi, wKn, wTn, wOb, wPt, wTl, wOq] at hw; omega) | (simp [wSub, wRun, wNar, wFil, wCan, wLst, wCar, wDr, wFl, wMq, wRd, wRx, wCr, wTab, wTr, wNew, wKi, wKn, wTn, wOb, wPt, wTl, wOq] at hw; simp [wSub, wRun, wNar, wFil, wCan, wLst, wCar, wDr, wFl, wMq, wRd, wRx, wCr, wTab, wTr, wNew, wKi, wKn, wTn, wOb, wPt, wTl, wOq]; omega))
          have k19_0 := fM.ld (o := 19) (j := 0) (by intro hw; first | omega | (dsimp only [wSub, wRun, wNar, wFil, wCan, wLst, wCar, wDr, wFl, wMq, wRd, wRx, wCr, wTab, wTr, wNew, wKi, wKn, wTn, wOb, wPt, wTl, wOq] at hw; omega) | (simp [wSub, wRun, wNar, wFil, wCan, wLst, wCar, wDr, wFl, wMq, wRd, wRx, wCr, wTab, wTr, wNew, wKi, wKn, wTn, wOb, wPt, wTl, wOq] at hw; done) | (simp [wSub, wRun, wNar, wFil, wCan, wLst, wCar, wDr, wFl, wMq, wRd, wRx, wCr, wTab, wTr, wNew, wKi, wKn, wTn, wOb, wPt, wTl, wOq] at hw; omega))
          have e53 : EqN (ld M2 (58 + x1.toNat)) (resP T f k n x1 (ld M 20)) := by
            rw [p2a]
            unfold resP
            rw [if_neg (by omega), if_neg (by omega), if_neg (by omega)]
            exact trP_eq (by omega) (by omega) 300 _ _ e29
          have w53 := w29.tr fM2 (fun o j q => by omega)
          refine uX4_cellsBy_79 (by first | omega | assumption | with_reducible exact rng_ld _ _ _ | with_reducible exact rng_yand _ _ | with_reducible exact rng_yor _ _ | with_reducible exact rng_zcmp _ _ | with_reducible exact yand7 _ | with_reducible exact rng_toInt _ | with_reducible exact yarr23 (by omega) | with_reducible exact yarr57 (by omega) | with_reducible exact Or.inl rfl | with_reducible exact Or.inr rfl) ?_
          intro M3 hM3
          replace fM := fr.put fM hM3 (by first | omega | (dsimp only [wSub, wRun, wNar, wFil, wCan, wLst, wCar, wDr, wFl, wMq, wRd, wRx, wCr, wTab, wTr, wNew, wKi, wKn, wTn, wOb, wPt, wTl, wOq]; done) | (dsimp only [wSub, wRun, wNar, wFil, wCan, wLst, wCar, wDr, wFl, wMq, wRd, wRx, wCr, wTab, wTr, wNew, wKi, wKn, wTn, wOb, wPt, wTl, wOq]; omega) | (simp [wSub, wRun, wNar, wFil, wCan, wLst, wCar, wDr, wFl, wMq, wRd, wRx, wCr, wTab, wTr, wNew, wKi, wKn, wTn, wOb, wPt, wTl, wOq]; done) | (simp [wSub, wRun, wNar, wFil, wCan, wLst, wCar, wDr, wFl, wMq, wRd, wRx, wCr, wTab, wTr, wNew, wKi, wKn, wTn, wOb, wPt, wTl, wOq]; omega))
          have k19_0 := fM.ld (o := 19) (j := 0) (by intro hw; first | omega | (dsimp only [wSub, wRun, wNar, wFil, wCan, wLst, wCar, wDr, wFl, wMq, wRd, wRx, wCr, wTab, wTr, wNew, wKi, wKn, wTn, wOb, wPt, wTl, wOq] at hw; omega) | (simp [wSub, wRun, wNar, wFil, wCan, wLst, wCar, wDr, wFl, wMq, wRd, wRx, wCr, wTab, wTr, wNew, wKi, wKn, wTn, wOb, wPt, wTl, wOq] at hw; done) | (simp [wSub, wRun, wNar, wFil, wCan, wLst, wCar, wDr, wFl, wMq, wRd, wRx, wCr, wTab, wTr, wNew, wKi, wKn, wTn, wOb, wPt, wTl, wOq] at hw; omega))
          have e79 : EqN (ld M3 (58 + x1.toNat)) (resP T f k n x1 (ld M 20)) := by
            rw [show ld M3 (58 + x1.toNat) = ld M2 (58 + x1.toNat) from funext fun j => by rw [hM3, ld_putne (Or.inl (by omega))]]
            exact e53
          have w79 := w53.put hM3 (Or.inr (Or.inl rfl))
          refine uX4_cellsBy_80 (by first | omega | assumption | with_reducible exact rng_ld _ _ _ | with_reducible exact rng_yand _ _ | with_reducible exact rng_yor _ _ | with_reducible exact rng_zcmp _ _ | with_reducible exact yand7 _ | with_reducible exact rng_toInt _ | with_reducible exact yarr23 (by omega) | with_reducible exact yarr57 (by omega) | with_reducible exact Or.inl rfl | with_reducible exact Or.inr rfl) ?_
          intro M4 hM4
          replace fM := fr.put fM hM4 (by first | omega | (dsimp only [wSub, wRun, wNar, wFil, wCan, wLst, wCar, wDr, wFl, wMq, wRd, wRx, wCr, wTab, wTr, wNew, wKi, wKn, wTn, wOb, wPt, wTl, wOq]; done) | (dsimp only [wSub, wRun, wNar, wFil, wCan, wLst, wCar, wDr, wFl, wMq, wRd, wRx, wCr, wTab, wTr, wNew, wKi, wKn, wTn, wOb, wPt, wTl, wOq]; omega) | (simp [wSub, wRun, wNar, wFil, wCan, wLst, wCar, wDr, wFl, wMq, wRd, wRx, wCr, wTab, wTr, wNew, wKi, wKn, wTn, wOb, wPt, wTl, wOq]; done) | (simp [wSub, wRun, wNar, wFil, wCan, wLst, wCar, wDr, wFl, wMq, wRd, wRx, wCr, wTab, wTr, wNew, wKi, wKn, wTn, wOb, wPt, wTl, wOq]; omega))
          have k19_0 := fM.ld (o := 19) (j := 0) (by intro hw; first | omega | (dsimp only [wSub, wRun, wNar, wFil, wCan, wLst, wCar, wDr, wFl, wMq, wRd, wRx, wCr, wTab, wTr, wNew, wKi, wKn, wTn, wOb, wPt, wTl, wOq] at hw; omega) | (simp [wSub, wRun, wNar, wFil, wCan, wLst, wCar, wDr, wFl, wMq, wRd, wRx, wCr, wTab, wTr, wNew, wKi, wKn, wTn, wOb, wPt, wTl, wOq] at hw; done) | (simp [wSub, wRun, wNar, wFil, wCan, wLst, wCar, wDr, wFl, wMq, wRd, wRx, wCr, wTab, wTr, wNew, wKi, wKn, wTn, wOb, wPt, wTl, wOq] at hw; omega))
          have c80 : CAC M4 T f k n := cac_set hCAC (by omega) w79 (fun _ => by omega) (fun o j q1 q2 q3 => by omega) (fun _ => by omega) e79 hM4
          have e80 : EqN (ld M4 (58 + x1.toNat)) (resP T f k n x1 (ld M 20)) := by
            rw [show ld M4 (58 + x1.toNat) = ld M3 (58 + x1.toNat) from funext fun j => by rw [hM4, ld_putne (Or.inl (by omega))]]
            exact e79
          refine uX4_cellsBy_87 ?_
          exact kont _ _ fM a58 (by first | exact e80 | exact hCAC x1 (by omega) (by omega) (by assumption)) (by first | exact c80 | exact hCAC)
        · skip
          refine uX4_cellsBy_66 ?_
          refine XC.deep (n4_full  (d := 0) a58 (by first | omega | assumption | with_reducible exact rng_ld _ _ _ | with_reducible exact rng_yand _ _ | with_reducible exact rng_yor _ _ | with_reducible exact rng_zcmp _ _ | with_reducible exact yand7 _ | with_reducible exact rng_toInt _ | with_reducible exact yarr23 (by omega) | with_reducible exact yarr57 (by omega) | with_reducible exact Or.inl rfl | with_reducible exact Or.inr rfl) hn8 (by omega) (by omega) (hCT.fr fM (by (first | (dsimp only [wNo]; omega) | omega)) (fun _ => by (first | (dsimp only [wNo]; omega) | omega)) (fun _ => by (first | (dsimp only [wNo]; omega) | omega))) s29 (fun v5 M5 fM5 p5a => ?_)) (by omega)
          replace fM := fM.tr fM5 (by intro o j hw; first | omega | exact hw | (dsimp only [wSub, wRun, wNar, wFil, wCan, wLst, wCar, wDr, wFl, wMq, wRd, wRx, wCr, wTab, wTr, wNew, wKi, wKn, wTn, wOb, wPt, wTl, wOq] at hw; dsimp only [wSub, wRun, wNar, wFil, wCan, wLst, wCar, wDr, wFl, wMq, wRd, wRx, wCr, wTab, wTr, wNew, wKi, wKn, wTn, wOb, wPt, wTl, wOq]; omega) | (dsimp only [wSub, wRun, wNar, wFil, wCan, wLst, wCar, wDr, wFl, wMq, wRd, wRx, wCr, wTab, wTr, wNew, wKi, wKn, wTn, wOb, wPt, wTl, wOq]; omega) | (dsimp only [wSub, wRun, wNar, wFil, wCan, wLst, wCar, wDr, wFl, wMq, wRd, wRx, wCr, wTab, wTr, wNew, wKi, wKn, wTn, wOb, wPt, wTl, wOq] at hw; omega) | (simp [wSub, wRun, wNar, wFil, wCan, wLst, wCar, wDr, wFl, wMq, wRd, wRx, wCr, wTab, wTr, wNew, wKi, wKn, wTn, wOb, wPt, wTl, wOq] at hw; simp [wSub, wRun, wNar, wFil, wCan, wLst, wCar, wDr, wFl, wMq, wRd, wRx, wCr, wTab, wTr, wNew, wKi, wKn, wTn, wOb, wPt, wTl, wOq]; omega))
          have k19_0 := fM.ld (o := 19) (j := 0) (by intro hw; first | omega | (dsimp only [wSub, wRun, wNar, wFil, wCan, wLst, wCar, wDr, wFl, wMq, wRd, wRx, wCr, wTab, wTr, wNew, wKi, wKn, wTn, wOb, wPt, wTl, wOq] at hw; omega) | (simp [wSub, wRun, wNar, wFil, wCan, wLst, wCar, wDr, wFl, wMq, wRd, wRx, wCr, wTab, wTr, wNew, wKi, wKn, wTn, wOb, wPt, wTl, wOq] at hw; done) | (simp [wSub, wRun, wNar, wFil, wCan, wLst, wCar, wDr, wFl, wMq, wRd, wRx, wCr, wTab, wTr, wNew, wKi, wKn, wTn, wOb, wPt, wTl, wOq] at hw; omega))
          have e53 : EqN (ld M5 (58 + x1.toNat)) (resP T f k n x1 (ld M 20)) := by
            rw [p5a]
            unfold resP
            rw [if_neg (by omega), if_neg (by omega), if_pos (by omega)]
            exact fullP_eqn (by omega) e29
          have w53 := w29.tr fM5 (fun o j q => by omega)
          refine uX4_cellsBy_71 ?_
          refine uX4_cellsBy_79 (by first | omega | assumption | with_reducible exact rng_ld _ _ _ | with_reducible exact rng_yand _ _ | with_reducible exact rng_yor _ _ | with_reducible exact rng_zcmp _ _ | with_reducible exact yand7 _ | with_reducible exact rng_toInt _ | with_reducible exact yarr23 (by omega) | with_reducible exact yarr57 (by omega) | with_reducible exact Or.inl rfl | with_reducible exact Or.inr rfl) ?_
          intro M6 hM6
          replace fM := fr.put fM hM6 (by first | omega | (dsimp only [wSub, wRun, wNar, wFil, wCan, wLst, wCar, wDr, wFl, wMq, wRd, wRx, wCr, wTab, wTr, wNew, wKi, wKn, wTn, wOb, wPt, wTl, wOq]; done) | (dsimp only [wSub, wRun, wNar, wFil, wCan, wLst, wCar, wDr, wFl, wMq, wRd, wRx, wCr, wTab, wTr, wNew, wKi, wKn, wTn, wOb, wPt, wTl, wOq]; omega) | (simp [wSub, wRun, wNar, wFil, wCan, wLst, wCar, wDr, wFl, wMq, wRd, wRx, wCr, wTab, wTr, wNew, wKi, wKn, wTn, wOb, wPt, wTl, wOq]; done) | (simp [wSub, wRun, wNar, wFil, wCan, wLst, wCar, wDr, wFl, wMq, wRd, wRx, wCr, wTab, wTr, wNew, wKi, wKn, wTn, wOb, wPt, wTl, wOq]; omega))
          have k19_0 := fM.ld (o := 19) (j := 0) (by intro hw; first | omega | (dsimp only [wSub, wRun, wNar, wFil, wCan, wLst, wCar, wDr, wFl, wMq, wRd, wRx, wCr, wTab, wTr, wNew, wKi, wKn, wTn, wOb, wPt, wTl, wOq] at hw; omega) | (simp [wSub, wRun, wNar, wFil, wCan, wLst, wCar, wDr, wFl, wMq, wRd, wRx, wCr, wTab, wTr, wNew, wKi, wKn, wTn, wOb, wPt, wTl, wOq] at hw; done) | (simp [wSub, wRun, wNar, wFil, wCan, wLst, wCar, wDr, wFl, wMq, wRd, wRx, wCr, wTab, wTr, wNew, wKi, wKn, wTn, wOb, wPt, wTl, wOq] at hw; omega))
          have e79 : EqN (ld M6 (58 + x1.toNat)) (resP T f k n x1 (ld M 20)) := by
            rw [show ld M6 (58 + x1.toNat) = ld M5 (58 + x1.toNat) from funext fun j => by rw [hM6, ld_putne (Or.inl (by omega))]]
            exact e53
          have w79 := w53.put hM6 (Or.inr (Or.inl rfl))
          refine uX4_cellsBy_80 (by first | omega | assumption | with_reducible exact rng_ld _ _ _ | with_reducible exact rng_yand _ _ | with_reducible exact rng_yor _ _ | with_reducible exact rng_zcmp _ _ | with_reducible exact yand7 _ | with_reducible exact rng_toInt _ | with_reducible exact yarr23 (by omega) | with_reducible exact yarr57 (by omega) | with_reducible exact Or.inl rfl | with_reducible exact Or.inr rfl) ?_
          intro M7 hM7
          replace fM := fr.put fM hM7 (by first | omega | (dsimp only [wSub, wRun, wNar, wFil, wCan, wLst, wCar, wDr, wFl, wMq, wRd, wRx, wCr, wTab, wTr, wNew, wKi, wKn, wTn, wOb, wPt, wTl, wOq]; done) | (dsimp only [wSub, wRun, wNar, wFil, wCan, wLst, wCar, wDr, wFl, wMq, wRd, wRx, wCr, wTab, wTr, wNew, wKi, wKn, wTn, wOb, wPt, wTl, wOq]; omega) | (simp [wSub, wRun, wNar, wFil, wCan, wLst, wCar, wDr, wFl, wMq, wRd, wRx, wCr, wTab, wTr, wNew, wKi, wKn, wTn, wOb, wPt, wTl, wOq]; done) | (simp [wSub, wRun, wNar, wFil, wCan, wLst, wCar, wDr, wFl, wMq, wRd, wRx, wCr, wTab, wTr, wNew, wKi, wKn, wTn, wOb, wPt, wTl, wOq]; omega))
          have k19_0 := fM.ld (o := 19) (j := 0) (by intro hw; first | omega | (dsimp only [wSub, wRun, wNar, wFil, wCan, wLst, wCar, wDr, wFl, wMq, wRd, wRx, wCr, wTab, wTr, wNew, wKi, wKn, wTn, wOb, wPt, wTl, wOq] at hw; omega) | (simp [wSub, wRun, wNar, wFil, wCan, wLst, wCar, wDr, wFl, wMq, wRd, wRx, wCr, wTab, wTr, wNew, wKi, wKn, wTn, wOb, wPt, wTl, wOq] at hw; done) | (simp [wSub, wRun, wNar, wFil, wCan, wLst, wCar, wDr, wFl, wMq, wRd, wRx, wCr, wTab, wTr, wNew, wKi, wKn, wTn, wOb, wPt, wTl, wOq] at hw; omega))
          have c80 : CAC M7 T f k n := cac_set hCAC (by omega) w79 (fun _ => by omega) (fun o j q1 q2 q3 => by omega) (fun _ => by omega) e79 hM7
          have e80 : EqN (ld M7 (58 + x1.toNat)) (resP T f k n x1 (ld M 20)) := by
            rw [show ld M7 (58 + x1.toNat) = ld M6 (58 + x1.toNat) from funext fun j => by rw [hM7, ld_putne (Or.inl (by omega))]]
            exact e79
          refine uX4_cellsBy_87 ?_
          exact kont _ _ fM a58 (by first | exact e80 | exact hCAC x1 (by omega) (by omega) (by assumption)) (by first | exact c80 | exact hCAC)
      · skip
        refine uX4_cellsBy_53 ?_
        refine XC.deep (n4_once  (d := 0) a58 (by first | omega | assumption | with_reducible exact rng_ld _ _ _ | with_reducible exact rng_yand _ _ | with_reducible exact rng_yor _ _ | with_reducible exact rng_zcmp _ _ | with_reducible exact yand7 _ | with_reducible exact rng_toInt _ | with_reducible exact yarr23 (by omega) | with_reducible exact yarr57 (by omega) | with_reducible exact Or.inl rfl | with_reducible exact Or.inr rfl) hn8 (by omega) (hCT.fr fM (by (first | (dsimp only [wNo]; omega) | omega)) (fun _ => by (first | (dsimp only [wNo]; omega) | omega)) (fun _ => by (first | (dsimp only [wNo]; omega) | omega))) s29 (fun v8 M8 fM8 p8a p8b => ?_)) (by omega)
        replace fM := fM.tr fM8 (by intro o j hw; first | omega | exact hw | (dsimp only [wSub, wRun, wNar, wFil, wCan, wLst, wCar, wDr, wFl, wMq, wRd, wRx, wCr, wTab, wTr, wNew, wKi, wKn, wTn, wOb, wPt, wTl, wOq] at hw; dsimp only [wSub, wRun, wNar, wFil, wCan, wLst, wCar, wDr, wFl, wMq, wRd, wRx, wCr, wTab, wTr, wNew, wKi, wKn, wTn, wOb, wPt, wTl, wOq]; omega) | (dsimp only [wSub, wRun, wNar, wFil, wCan, wLst, wCar, wDr, wFl, wMq, wRd, wRx, wCr, wTab, wTr, wNew, wKi, wKn, wTn, wOb, wPt, wTl, wOq]; omega) | (dsimp only [wSub, wRun, wNar, wFil, wCan, wLst, wCar, wDr, wFl, wMq, wRd, wRx, wCr, wTab, wTr, wNew, wKi, wKn, wTn, wOb, wPt, wTl, wOq] at hw; omega) | (simp [wSub, wRun, wNar, wFil, wCan, wLst, wCar, wDr, wFl, wMq, wRd, wRx, wCr, wTab, wTr, wNew, wKi, wKn, wTn, wOb, wPt, wTl, wOq] at hw; simp [wSub, wRun, wNar, wFil, wCan, wLst, wCar, wDr, wFl, wMq, wRd, wRx, wCr, wTab, wTr, wNew, wKi, wKn, wTn, wOb, wPt, wTl, wOq]; omega))
        have k19_0 := fM.ld (o := 19) (j := 0) (by intro hw; first | omega | (dsimp only [wSub, wRun, wNar, wFil, wCan, wLst, wCar, wDr, wFl, wMq, wRd, wRx, wCr, wTab, wTr, wNew, wKi, wKn, wTn, wOb, wPt, wTl, wOq] at hw; omega) | (simp [wSub, wRun, wNar, wFil, wCan, wLst, wCar, wDr, wFl, wMq, wRd, wRx, wCr, wTab, wTr, wNew, wKi, wKn, wTn, wOb, wPt, wTl, wOq] at hw; done) | (simp [wSub, wRun, wNar, wFil, wCan, wLst, wCar, wDr, wFl, wMq, wRd, wRx, wCr, wTab, wTr, wNew, wKi, wKn, wTn, wOb, wPt, wTl, wOq] at hw; omega))
        have e53 : EqN (ld M8 (58 + x1.toNat)) (resP T f k n x1 (ld M 20)) := by
          rw [p8b]
          unfold resP
          rw [if_neg (by omega), if_pos (by omega)]
          exact onceP_eq (by omega) e29
        have w53 := w29.tr fM8 (fun o j q => Or.inl q)
        refine uX4_cellsBy_58 ?_
        refine uX4_cellsBy_79 (by first | omega | assumption | with_reducible exact rng_ld _ _ _ | with_reducible exact rng_yand _ _ | with_reducible exact rng_yor _ _ | with_reducible exact rng_zcmp _ _ | with_reducible exact yand7 _ | with_reducible exact rng_toInt _ | with_reducible exact yarr23 (by omega) | with_reducible exact yarr57 (by omega) | with_reducible exact Or.inl rfl | with_reducible exact Or.inr rfl) ?_
        intro M9 hM9
        replace fM := fr.put fM hM9 (by first | omega | (dsimp only [wSub, wRun, wNar, wFil, wCan, wLst, wCar, wDr, wFl, wMq, wRd, wRx, wCr, wTab, wTr, wNew, wKi, wKn, wTn, wOb, wPt, wTl, wOq]; done) | (dsimp only [wSub, wRun, wNar, wFil, wCan, wLst, wCar, wDr, wFl, wMq, wRd, wRx, wCr, wTab, wTr, wNew, wKi, wKn, wTn, wOb, wPt, wTl, wOq]; omega) | (simp [wSub, wRun, wNar, wFil, wCan, wLst, wCar, wDr, wFl, wMq, wRd, wRx, wCr, wTab, wTr, wNew, wKi, wKn, wTn, wOb, wPt, wTl, wOq]; done) | (simp [wSub, wRun, wNar, wFil, wCan, wLst, wCar, wDr, wFl, wMq, wRd, wRx, wCr, wTab, wTr, wNew, wKi, wKn, wTn, wOb, wPt, wTl, wOq]; omega))
        have k19_0 := fM.ld (o := 19) (j := 0) (by intro hw; first | omega | (dsimp only [wSub, wRun, wNar, wFil, wCan, wLst, wCar, wDr, wFl, wMq, wRd, wRx, wCr, wTab, wTr, wNew, wKi, wKn, wTn, wOb, wPt, wTl, wOq] at hw; omega) | (simp [wSub, wRun, wNar, wFil, wCan, wLst, wCar, wDr, wFl, wMq, wRd, wRx, wCr, wTab, wTr, wNew, wKi, wKn, wTn, wOb, wPt, wTl, wOq] at hw; done) | (simp [wSub, wRun, wNar, wFil, wCan, wLst, wCar, wDr, wFl, wMq, wRd, wRx, wCr, wTab, wTr, wNew, wKi, wKn, wTn, wOb, wPt, wTl, wOq] at hw; omega))
        have e79 : EqN (ld M9 (58 + x1.toNat)) (resP T f k n x1 (ld M 20)) := by
          rw [show ld M9 (58 + x1.toNat) = ld M8 (58 + x1.toNat) from funext fun j => by rw [hM9, ld_putne (Or.inl (by omega))]]
          exact e53
        have w79 := w53.put hM9 (Or.inr (Or.inl rfl))
        refine uX4_cellsBy_80 (by first | omega | assumption | with_reducible exact rng_ld _ _ _ | with_reducible exact rng_yand _ _ | with_reducible exact rng_yor _ _ | with_reducible exact rng_zcmp _ _ | with_reducible exact yand7 _ | with_reducible exact rng_toInt _ | with_reducible exact yarr23 (by omega) | with_reducible exact yarr57 (by omega) | with_reducible exact Or.inl rfl | with_reducible exact Or.inr rfl) ?_
        intro M10 hM10
        replace fM := fr.put fM hM10 (by first | omega | (dsimp only [wSub, wRun, wNar, wFil, wCan, wLst, wCar, wDr, wFl, wMq, wRd, wRx, wCr, wTab, wTr, wNew, wKi, wKn, wTn, wOb, wPt, wTl, wOq]; done) | (dsimp only [wSub, wRun, wNar, wFil, wCan, wLst, wCar, wDr, wFl, wMq, wRd, wRx, wCr, wTab, wTr, wNew, wKi, wKn, wTn, wOb, wPt, wTl, wOq]; omega) | (simp [wSub, wRun, wNar, wFil, wCan, wLst, wCar, wDr, wFl, wMq, wRd, wRx, wCr, wTab, wTr, wNew, wKi, wKn, wTn, wOb, wPt, wTl, wOq]; done) | (simp [wSub, wRun, wNar, wFil, wCan, wLst, wCar, wDr, wFl, wMq, wRd, wRx, wCr, wTab, wTr, wNew, wKi, wKn, wTn, wOb, wPt, wTl, wOq]; omega))
        have k19_0 := fM.ld (o := 19) (j := 0) (by intro hw; first | omega | (dsimp only [wSub, wRun, wNar, wFil, wCan, wLst, wCar, wDr, wFl, wMq, wRd, wRx, wCr, wTab, wTr, wNew, wKi, wKn, wTn, wOb, wPt, wTl, wOq] at hw; omega) | (simp [wSub, wRun, wNar, wFil, wCan, wLst, wCar, wDr, wFl, wMq, wRd, wRx, wCr, wTab, wTr, wNew, wKi, wKn, wTn, wOb, wPt, wTl, wOq] at hw; done) | (simp [wSub, wRun, wNar, wFil, wCan, wLst, wCar, wDr, wFl, wMq, wRd, wRx, wCr, wTab, wTr, wNew, wKi, wKn, wTn, wOb, wPt, wTl, wOq] at hw; omega))
        have c80 : CAC M10 T f k n := cac_set hCAC (by omega) w79 (fun _ => by omega) (fun o j q1 q2 q3 => by omega) (fun _ => by omega) e79 hM10
        have e80 : EqN (ld M10 (58 + x1.toNat)) (resP T f k n x1 (ld M 20)) := by
          rw [show ld M10 (58 + x1.toNat) = ld M9 (58 + x1.toNat) from funext fun j => by rw [hM10, ld_putne (Or.inl (by omega))]]
          exact e79
        refine uX4_cellsBy_87 ?_
        exact kont _ _ fM a58 (by first | exact e80 | exact hCAC x1 (by omega) (by omega) (by assumption)) (by first | exact c80 | exact hCAC)
  · skip
    refine uX4_cellsBy_5 ?_
    exact kont _ _ fM ⟨rfl, Nat.le_of_ble_eq_true rfl⟩ (by unfold resP; rw [if_pos (by assumption)]; exact fun _ _ _ => rfl) hCAC
theorem n11_narrow {d : Nat} {Q : Int → yM → Prop} {M : yM} {x1 : Int} {x2 : Int} {x3 : Int} {T f : Int → Int} {k n : Int} (hn : ld M 19 0 = n) (hn8 : 1 ≤ n ∧ n ≤ 8) (r1 : yR x1) (r2 : yR x2) (r3 : yR x3) (hCT : CT M T f k) (hSN : SN f k n (ld M 20)) (hCAC : CAC M T f k n) (kont : ∀ (v : Int) (M' : yM), fr (fun o j => (o = 0 ∧ j = 11) ∨ (58 ≤ o ∧ o ≤ 64)) M M' → (v = -1 ∧ ¬ ((-1 ≤ x1 ∧ x1 < 3) ∧ (0 ≤ x2 ∧ x2 < ld M 19 0) ∧ 0 ≤ x3 ∧ x3 < ld M 19 0) ∨ v = (resP T f k n x1 (ld M 20)) (8 * x2 + x3) ∧ ((-1 ≤ x1 ∧ x1 < 3) ∧ (0 ≤ x2 ∧ x2 < ld M 19 0) ∧ 0 ≤ x3 ∧ x3 < ld M 19 0)) → (CAC M' T f k n) → Q v M') : XCi (d + 7) 95 [.inr (.inr 0), .inl x1, .inl x2, .inl x3] M Q := by
  refine eX11_narrow ?_
  have fM : fr (fun o j => (o = 0 ∧ j = 11) ∨ (58 ≤ o ∧ o ≤ 64)) M M := fr.rf
  refine uX11_narrow_0 ?_
  refine c11_isWay  (by first | omega | assumption | with_reducible exact rng_ld _ _ _ | with_reducible exact rng_yand _ _ | with_reducible exact rng_yor _ _ | with_reducible exact rng_zcmp _ _ | with_reducible exact yand7 _ | with_reducible exact rng_toInt _ | with_reducible exact yarr23 (by omega) | with_reducible exact yarr57 (by omega) | with_reducible exact Or.inl rfl | with_reducible exact Or.inr rfl) (fun v1 p1a => ?_)
  refine uX11_narrow_4 (by first | omega | assumption | with_reducible exact rng_ld _ _ _ | with_reducible exact rng_yand _ _ | with_reducible exact rng_yor _ _ | with_reducible exact rng_zcmp _ _ | with_reducible exact yand7 _ | with_reducible exact rng_toInt _ | with_reducible exact yarr23 (by omega) | with_reducible exact yarr57 (by omega) | with_reducible exact Or.inl rfl | with_reducible exact Or.inr rfl) (fun hc => ?_) (fun hc => ?_)
  · skip
    refine uX11_narrow_29 ?_
    exact kont _ _ fM (Or.inl ⟨rfl, by omega⟩) hCAC
  · skip
    refine uX11_narrow_7 ?_
    refine c5_has  (by first | omega | assumption | with_reducible exact rng_ld _ _ _ | with_reducible exact rng_yand _ _ | with_reducible exact rng_yor _ _ | with_reducible exact rng_zcmp _ _ | with_reducible exact yand7 _ | with_reducible exact rng_toInt _ | with_reducible exact yarr23 (by omega) | with_reducible exact yarr57 (by omega) | with_reducible exact Or.inl rfl | with_reducible exact Or.inr rfl) (fun v2 p2a => ?_)
    refine uX11_narrow_15 (by first | omega | assumption | with_reducible exact rng_ld _ _ _ | with_reducible exact rng_yand _ _ | with_reducible exact rng_yor _ _ | with_reducible exact rng_zcmp _ _ | with_reducible exact yand7 _ | with_reducible exact rng_toInt _ | with_reducible exact yarr23 (by omega) | with_reducible exact yarr57 (by omega) | with_reducible exact Or.inl rfl | with_reducible exact Or.inr rfl) (fun hc => ?_) (fun hc => ?_)
    · skip
      refine uX11_narrow_29 ?_
      exact kont _ _ fM (Or.inl ⟨rfl, by omega⟩) hCAC
    · skip
      refine uX11_narrow_18 ?_
      refine c5_has  (by first | omega | assumption | with_reducible exact rng_ld _ _ _ | with_reducible exact rng_yand _ _ | with_reducible exact rng_yor _ _ | with_reducible exact rng_zcmp _ _ | with_reducible exact yand7 _ | with_reducible exact rng_toInt _ | with_reducible exact yarr23 (by omega) | with_reducible exact yarr57 (by omega) | with_reducible exact Or.inl rfl | with_reducible exact Or.inr rfl) (fun v3 p3a => ?_)
      refine uX11_narrow_26 (by first | omega | assumption | with_reducible exact rng_ld _ _ _ | with_reducible exact rng_yand _ _ | with_reducible exact rng_yor _ _ | with_reducible exact rng_zcmp _ _ | with_reducible exact yand7 _ | with_reducible exact rng_toInt _ | with_reducible exact yarr23 (by omega) | with_reducible exact yarr57 (by omega) | with_reducible exact Or.inl rfl | with_reducible exact Or.inr rfl) (fun hc => ?_) (fun hc => ?_)
      · skip
        refine uX11_narrow_31 ?_
        refine XC.deep (n4_cellsBy  (d := 0) (by omega) (by first | omega | assumption | with_reducible exact rng_ld _ _ _ | with_reducible exact rng_yand _ _ | with_reducible exact rng_yor _ _ | with_reducible exact rng_zcmp _ _ | with_reducible exact yand7 _ | with_reducible exact rng_toInt _ | with_reducible exact yarr23 (by omega) | with_reducible exact yarr57 (by omega) | with_reducible exact Or.inl rfl | with_reducible exact Or.inr rfl) (by first | omega | assumption | with_reducible exact rng_ld _ _ _ | with_reducible exact rng_yand _ _ | with_reducible exact rng_yor _ _ | with_reducible exact rng_zcmp _ _ | with_reducible exact yand7 _ | with_reducible exact rng_toInt _ | with_reducible exact yarr23 (by omega) | with_reducible exact yarr57 (by omega) | with_reducible exact Or.inl rfl | with_reducible exact Or.inr rfl) (hCT.fr fM (by (first | (dsimp only [wNo]; omega) | omega)) (fun _ => by (first | (dsimp only [wNo]; omega) | omega)) (fun _ => by (first | (dsimp only [wNo]; omega) | omega))) hSN hCAC (fun v31 M4 fM4 p4a p4b p4c => ?_)) (by omega)
        replace fM := fM.tr fM4 (by intro o j hw; first | omega | exact hw | (dsimp only [wSub, wRun, wNar, wFil, wCan, wLst, wCar, wDr, wFl, wMq, wRd, wRx, wCr, wTab, wTr, wNew, wKi, wKn, wTn, wOb, wPt, wTl, wOq] at hw; dsimp only [wSub, wRun, wNar, wFil, wCan, wLst, wCar, wDr, wFl, wMq, wRd, wRx, wCr, wTab, wTr, wNew, wKi, wKn, wTn, wOb, wPt, wTl, wOq]; omega) | (dsimp only [wSub, wRun, wNar, wFil, wCan, wLst, wCar, wDr, wFl, wMq, wRd, wRx, wCr, wTab, wTr, wNew, wKi, wKn, wTn, wOb, wPt, wTl, wOq]; omega) | (dsimp only [wSub, wRun, wNar, wFil, wCan, wLst, wCar, wDr, wFl, wMq, wRd, wRx, wCr, wTab, wTr, wNew, wKi, wKn, wTn, wOb, wPt, wTl, wOq] at hw; omega) | (simp [wSub, wRun, wNar, wFil, wCan, wLst, wCar, wDr, wFl, wMq, wRd, wRx, wCr, wTab, wTr, wNew, wKi, wKn, wTn, wOb, wPt, wTl, wOq] at hw; simp [wSub, wRun, wNar, wFil, wCan, wLst, wCar, wDr, wFl, wMq, wRd, wRx, wCr, wTab, wTr, wNew, wKi, wKn, wTn, wOb, wPt, wTl, wOq]; omega))
        have k19_0 := fM.ld (o := 19) (j := 0) (by intro hw; first | omega | (dsimp only [wSub, wRun, wNar, wFil, wCan, wLst, wCar, wDr, wFl, wMq, wRd, wRx, wCr, wTab, wTr, wNew, wKi, wKn, wTn, wOb, wPt, wTl, wOq] at hw; omega) | (simp [wSub, wRun, wNar, wFil, wCan, wLst, wCar, wDr, wFl, wMq, wRd, wRx, wCr, wTab, wTr, wNew, wKi, wKn, wTn, wOb, wPt, wTl, wOq] at hw; done) | (simp [wSub, wRun, wNar, wFil, wCan, wLst, wCar, wDr, wFl, wMq, wRd, wRx, wCr, wTab, wTr, wNew, wKi, wKn, wTn, wOb, wPt, wTl, wOq] at hw; omega))
        have a31 := p4a
        have e31 := p4b
        have c31 := p4c
        refine uX11_narrow_39 ?_
        refine c4_costOf  (by first | omega | assumption | with_reducible exact rng_ld _ _ _ | with_reducible exact rng_yand _ _ | with_reducible exact rng_yor _ _ | with_reducible exact rng_zcmp _ _ | with_reducible exact yand7 _ | with_reducible exact rng_toInt _ | with_reducible exact yarr23 (by omega) | with_reducible exact yarr57 (by omega) | with_reducible exact Or.inl rfl | with_reducible exact Or.inr rfl) (fun v5 p5a => ?_)
        refine uX11_narrow_54 (by first | omega | assumption | with_reducible exact rng_ld _ _ _ | with_reducible exact rng_yand _ _ | with_reducible exact rng_yor _ _ | with_reducible exact rng_zcmp _ _ | with_reducible exact yand7 _ | with_reducible exact rng_toInt _ | with_reducible exact yarr23 (by omega) | with_reducible exact yarr57 (by omega) | with_reducible exact Or.inl rfl | with_reducible exact Or.inr rfl) ?_
        intro M6 hM6
        replace fM := fr.putL fM hM6 (by first | omega | (dsimp only [wSub, wRun, wNar, wFil, wCan, wLst, wCar, wDr, wFl, wMq, wRd, wRx, wCr, wTab, wTr, wNew, wKi, wKn, wTn, wOb, wPt, wTl, wOq]; done) | (dsimp only [wSub, wRun, wNar, wFil, wCan, wLst, wCar, wDr, wFl, wMq, wRd, wRx, wCr, wTab, wTr, wNew, wKi, wKn, wTn, wOb, wPt, wTl, wOq]; omega) | (simp [wSub, wRun, wNar, wFil, wCan, wLst, wCar, wDr, wFl, wMq, wRd, wRx, wCr, wTab, wTr, wNew, wKi, wKn, wTn, wOb, wPt, wTl, wOq]; done) | (simp [wSub, wRun, wNar, wFil, wCan, wLst, wCar, wDr, wFl, wMq, wRd, wRx, wCr, wTab, wTr, wNew, wKi, wKn, wTn, wOb, wPt, wTl, wOq]; omega))
        have k19_0 := fM.ld (o := 19) (j := 0) (by intro hw; first | omega | (dsimp only [wSub, wRun, wNar, wFil, wCan, wLst, wCar, wDr, wFl, wMq, wRd, wRx, wCr, wTab, wTr, wNew, wKi, wKn, wTn, wOb, wPt, wTl, wOq] at hw; omega) | (simp [wSub, wRun, wNar, wFil, wCan, wLst, wCar, wDr, wFl, wMq, wRd, wRx, wCr, wTab, wTr, wNew, wKi, wKn, wTn, wOb, wPt, wTl, wOq] at hw; done) | (simp [wSub, wRun, wNar, wFil, wCan, wLst, wCar, wDr, wFl, wMq, wRd, wRx, wCr, wTab, wTr, wNew, wKi, wKn, wTn, wOb, wPt, wTl, wOq] at hw; omega))
        have e54 : ∀ j, ld M6 v31 j = ld M4 v31 j := fun j => by rw [hM6, ld_putL]
        have c54 : CAC M6 T f k n := c31.fr (fr.putL (W := fun o j => o = 0) fr.rf hM6 rfl) (fun o j q => by omega)
        refine uX11_narrow_59 (by first | assumption | exact ⟨rfl, Nat.le_of_ble_eq_true rfl⟩ | with_reducible exact yarr23 (by omega) | with_reducible exact yarr57 (by omega)) (by first | omega | assumption | with_reducible exact rng_ld _ _ _ | with_reducible exact rng_yand _ _ | with_reducible exact rng_yor _ _ | with_reducible exact rng_zcmp _ _ | with_reducible exact yand7 _ | with_reducible exact rng_toInt _ | with_reducible exact yarr23 (by omega) | with_reducible exact yarr57 (by omega) | with_reducible exact Or.inl rfl | with_reducible exact Or.inr rfl) ?_
        exact kont _ _ fM (Or.inr ⟨by rw [e54]; exact e31 _ (by omega) (by omega), by omega⟩) c54
      · skip
        refine uX11_narrow_29 ?_
        exact kont _ _ fM (Or.inl ⟨rfl, by omega⟩) hCAC
theorem n11_isVoid {d : Nat} {Q : Int → yM → Prop} {M : yM} {x1 : Int} {T f : Int → Int} {k n : Int} (hn : ld M 19 0 = n) (hn8 : 1 ≤ n ∧ n ≤ 8) (r1 : yR x1) (hCT : CT M T f k) (hSN : SN f k n (ld M 20)) (hCAC : CAC M T f k n) (kont : ∀ (v : Int) (M' : yM), fr (fun o j => 58 ≤ o ∧ o ≤ 64) M M' → (v = -1 ∧ ¬ (-1 ≤ x1 ∧ x1 < 3) ∨ (-1 ≤ x1 ∧ x1 < 3) ∧ (v = 1 ∧ emB n (resP T f k n x1 (ld M 20)) = true ∨ v = 0 ∧ emB n (resP T f k n x1 (ld M 20)) = false)) → (CAC M' T f k n) → Q v M') : XCi (d + 7) 96 [.inr (.inr 0), .inl x1] M Q := by
  refine eX11_isVoid ?_
  have fM : fr (fun o j => 58 ≤ o ∧ o ≤ 64) M M := fr.rf
  refine uX11_isVoid_0 ?_
  refine c11_isWay  (by first | omega | assumption | with_reducible exact rng_ld _ _ _ | with_reducible exact rng_yand _ _ | with_reducible exact rng_yor _ _ | with_reducible exact rng_zcmp _ _ | with_reducible exact yand7 _ | with_reducible exact rng_toInt _ | with_reducible exact yarr23 (by omega) | with_reducible exact yarr57 (by omega) | with_reducible exact Or.inl rfl | with_reducible exact Or.inr rfl) (fun v1 p1a => ?_)
  refine uX11_isVoid_4 (by first | omega | assumption | with_reducible exact rng_ld _ _ _ | with_reducible exact rng_yand _ _ | with_reducible exact rng_yor _ _ | with_reducible exact rng_zcmp _ _ | with_reducible exact yand7 _ | with_reducible exact rng_toInt _ | with_reducible exact yarr23 (by omega) | with_reducible exact yarr57 (by omega) | with_reducible exact Or.inl rfl | with_reducible exact Or.inr rfl) (fun hc => ?_) (fun hc => ?_)
  · skip
    refine uX11_isVoid_9 ?_
    refine XC.deep (n4_cellsBy  (d := 0) (by omega) (by first | omega | assumption | with_reducible exact rng_ld _ _ _ | with_reducible exact rng_yand _ _ | with_reducible exact rng_yor _ _ | with_reducible exact rng_zcmp _ _ | with_reducible exact yand7 _ | with_reducible exact rng_toInt _ | with_reducible exact yarr23 (by omega) | with_reducible exact yarr57 (by omega) | with_reducible exact Or.inl rfl | with_reducible exact Or.inr rfl) (by first | omega | assumption | with_reducible exact rng_ld _ _ _ | with_reducible exact rng_yand _ _ | with_reducible exact rng_yor _ _ | with_reducible exact rng_zcmp _ _ | with_reducible exact yand7 _ | with_reducible exact rng_toInt _ | with_reducible exact yarr23 (by omega) | with_reducible exact yarr57 (by omega) | with_reducible exact Or.inl rfl | with_reducible exact Or.inr rfl) (hCT.fr fM (by (first | (dsimp only [wNo]; omega) | omega)) (fun _ => by (first | (dsimp only [wNo]; omega) | omega)) (fun _ => by (first | (dsimp only [wNo]; omega) | omega))) hSN hCAC (fun v9 M2 fM2 p2a p2b p2c => ?_)) (by omega)
    replace fM := fM.tr fM2 (by intro o j hw; first | omega | exact hw | (dsimp only [wSub, wRun, wNar, wFil, wCan, wLst, wCar, wDr, wFl, wMq, wRd, wRx, wCr, wTab, wTr, wNew, wKi, wKn, wTn, wOb, wPt, wTl, wOq] at hw; dsimp only [wSub, wRun, wNar, wFil, wCan, wLst, wCar, wDr, wFl, wMq, wRd, wRx, wCr, wTab, wTr, wNew, wKi, wKn, wTn, wOb, wPt, wTl, wOq]; omega) | (dsimp only [wSub, wRun, wNar, wFil, wCan, wLst, wCar, wDr, wFl, wMq, wRd, wRx, wCr, wTab, wTr, wNew, wKi, wKn, wTn, wOb, wPt, wTl, wOq]; omega) | (dsimp only [wSub, wRun, wNar, wFil, wCan, wLst, wCar, wDr, wFl, wMq, wRd, wRx, wCr, wTab, wTr, wNew, wKi, wKn, wTn, wOb, wPt, wTl, wOq] at hw; omega) | (simp [wSub, wRun, wNar, wFil, wCan, wLst, wCar, wDr, wFl, wMq, wRd, wRx, wCr, wTab, wTr, wNew, wKi, wKn, wTn, wOb, wPt, wTl, wOq] at hw; simp [wSub, wRun, wNar, wFil, wCan, wLst, wCar, wDr, wFl, wMq, wRd, wRx, wCr, wTab, wTr, wNew, wKi, wKn, wTn, wOb, wPt, wTl, wOq]; omega))
    have k19_0 := fM.ld (o := 19) (j := 0) (by intro hw; first | omega | (dsimp only [wSub, wRun, wNar, wFil, wCan, wLst, wCar, wDr, wFl, wMq, wRd, wRx, wCr, wTab, wTr, wNew, wKi, wKn, wTn, wOb, wPt, wTl, wOq] at hw; omega) | (simp [wSub, wRun, wNar, wFil, wCan, wLst, wCar, wDr, wFl, wMq, wRd, wRx, wCr, wTab, wTr, wNew, wKi, wKn, wTn, wOb, wPt, wTl, wOq] at hw; done) | (simp [wSub, wRun, wNar, wFil, wCan, wLst, wCar, wDr, wFl, wMq, wRd, wRx, wCr, wTab, wTr, wNew, wKi, wKn, wTn, wOb, wPt, wTl, wOq] at hw; omega))
    have a9 := p2a
    have e9 := p2b
    have c9 := p2c
    refine uX11_isVoid_17 ?_
    refine n11_hasEmpty  a9 (by first | omega | assumption | with_reducible exact rng_ld _ _ _ | with_reducible exact rng_yand _ _ | with_reducible exact rng_yor _ _ | with_reducible exact rng_zcmp _ _ | with_reducible exact yand7 _ | with_reducible exact rng_toInt _ | with_reducible exact yarr23 (by omega) | with_reducible exact yarr57 (by omega) | with_reducible exact Or.inl rfl | with_reducible exact Or.inr rfl) (fun v17 p3a => ?_)
    have q17 := p3a
    rw [k19_0, hn, emB_eq e9] at q17
    refine uX11_isVoid_27 (by first | omega | assumption | with_reducible exact rng_ld _ _ _ | with_reducible exact rng_yand _ _ | with_reducible exact rng_yor _ _ | with_reducible exact rng_zcmp _ _ | with_reducible exact yand7 _ | with_reducible exact rng_toInt _ | with_reducible exact yarr23 (by omega) | with_reducible exact yarr57 (by omega) | with_reducible exact Or.inl rfl | with_reducible exact Or.inr rfl) (fun hc => ?_) (fun hc => ?_)
    · skip
      refine uX11_isVoid_34 ?_
      refine uX11_isVoid_35 ?_
      exact kont _ _ fM (Or.inr ⟨by omega, by first | exact Or.inl ⟨rfl, q17.elim (fun q => q.2) (fun q => absurd q.1 (by assumption))⟩ | exact Or.inr ⟨rfl, q17.elim (fun q => absurd q.1 (by omega)) (fun q => q.2)⟩⟩) c9
    · skip
      refine uX11_isVoid_30 ?_
      refine uX11_isVoid_35 ?_
      exact kont _ _ fM (Or.inr ⟨by omega, by first | exact Or.inl ⟨rfl, q17.elim (fun q => q.2) (fun q => absurd q.1 (by assumption))⟩ | exact Or.inr ⟨rfl, q17.elim (fun q => absurd q.1 (by omega)) (fun q => q.2)⟩⟩) c9
  · skip
    refine uX11_isVoid_7 ?_
    exact kont _ _ fM (Or.inl ⟨rfl, by omega⟩) hCAC
