/-! WHAT A CALL MAY WRITE, AND SMALL BOUNDS -/
/-- outside W nothing has changed -/
def fr (W : Nat → Int → Prop) (M M' : yM) : Prop := ∀ o j, ¬ W o j → M'.1 o j = M.1 o j ∧ M'.2 o j = M.2 o j
theorem fr.rf {W : Nat → Int → Prop} {M : yM} : fr W M M := fun _ _ _ => ⟨rfl, rfl⟩
theorem fr.tr {W W' : Nat → Int → Prop} {M M' M'' : yM} (h : fr W M M') (h' : fr W' M' M'') (hw : ∀ o j, W' o j → W o j) : fr W M M'' := fun o j q => by
  have h1 := h o j q
  have h2 := h' o j (fun e => q (hw o j e))
  exact ⟨h2.1.trans h1.1, h2.2.trans h1.2⟩
theorem fr.put {W : Nat → Int → Prop} {M0 M M' : yM} {o : Nat} {k v : Int} (h : fr W M0 M) (e : M' = put M o k v) (w : W o k) : fr W M0 M' := fun o' j q => by
  subst e
  have h1 := h o' j q
  refine ⟨?_, h1.2⟩
  rw [put_1, if_neg (fun e => q (by rw [e.1, e.2]; exact w))]
  exact h1.1
theorem fr.putL {W : Nat → Int → Prop} {M0 M M' : yM} {o : Nat} {k v : Int} (h : fr W M0 M) (e : M' = putL M o k v) (w : W o k) : fr W M0 M' := fun o' j q => by
  subst e
  have h1 := h o' j q
  refine ⟨h1.1, ?_⟩
  rw [putL_2, if_neg (fun e => q (by rw [e.1, e.2]; exact w))]
  exact h1.2
theorem fr.cpy {W : Nat → Int → Prop} {M0 M M' : yM} {o1 o2 : Nat} {sp dp n : Int} (h : fr W M0 M) (e : M' = cpy M o1 o2 sp dp n) (w : ∀ j, dp ≤ j → j < dp + n → W o2 j) : fr W M0 M' := fun o' j q => by
  subst e
  have h1 := h o' j q
  refine ⟨?_, h1.2⟩
  show (if o' = o2 ∧ dp ≤ j ∧ j < dp + n then _ else _ : Int32) = _
  rw [if_neg (fun e => q (by rw [e.1]; exact w j e.2.1 e.2.2))]
  exact h1.1
theorem fr.ld {W : Nat → Int → Prop} {M M' : yM} (h : fr W M M') {o : Nat} {j : Int} (w : ¬ W o j) : ld M' o j = ld M o j := by
  show (M'.1 o j).toInt = (M.1 o j).toInt
  rw [(h o j w).1]
theorem fr.ldL {W : Nat → Int → Prop} {M M' : yM} (h : fr W M M') {o : Nat} {j : Int} (w : ¬ W o j) : ldL M' o j = ldL M o j := by
  show (M'.2 o j).toInt = (M.2 o j).toInt
  rw [(h o j w).2]
theorem fr.up {W W' : Nat → Int → Prop} {M M' : yM} (h : fr W M M') (hw : ∀ o j, W o j → W' o j) : fr W' M M' := fun o j q => h o j (fun e => q (hw o j e))
theorem yand_lt (a : Int) {m : Int} {n : Nat} (hm : 0 ≤ m ∧ m < (2 : Int) ^ n) (hn : n ≤ 31) : 0 ≤ yand a m ∧ yand a m < (2 : Int) ^ n :=
  bt_lt (rng_yand a m) hn (fun i h1 h2 => by rw [bt_yand, bt_of_lt hm h1, Bool.and_false])
theorem yor_lt {a b : Int} {n : Nat} (ha : 0 ≤ a ∧ a < (2 : Int) ^ n) (hb : 0 ≤ b ∧ b < (2 : Int) ^ n) (hn : n ≤ 31) : 0 ≤ yor a b ∧ yor a b < (2 : Int) ^ n :=
  bt_lt (rng_yor a b) hn (fun i h1 h2 => by rw [bt_yor, bt_of_lt ha h1, bt_of_lt hb h1]; rfl)
theorem yand7 (a : Int) : 0 ≤ yand a 7 ∧ yand a 7 < 8 := yand_lt a (n := 3) (by decide) (by omega)
theorem yand15 (a : Int) : 0 ≤ yand a 15 ∧ yand a 15 < 16 := yand_lt a (n := 4) (by decide) (by omega)
theorem yand255 (a : Int) : 0 ≤ yand a 255 ∧ yand a 255 < 256 := yand_lt a (n := 8) (by decide) (by omega)
theorem yand240 (a : Int) : 0 ≤ yand a 240 ∧ yand a 240 < 256 := yand_lt a (n := 8) (by decide) (by omega)
theorem yshl15 (a : Int) : 0 ≤ yshl (yand a 15) 4 ∧ yshl (yand a 15) 4 < 256 :=
  bt_lt (n := 8) (rng_yshl _ _) (by omega) (fun i h1 h2 => by
    rw [bt_yshl _ (by omega), bt_of_lt (n := 4) (yand15 a) (by omega)]
    simp)
theorem jix (x y : Int) : (0 ≤ yor (yshl (yand x 15) 4) (yand y 15) ∧ yor (yshl (yand x 15) 4) (yand y 15) < 1024) ∧ (0 ≤ yor (yor 256 (yshl (yand x 15) 4)) (yand (yshr y 4) 15) ∧ yor (yor 256 (yshl (yand x 15) 4)) (yand (yshr y 4) 15) < 1024) ∧ (0 ≤ yor (yor 512 (yand x 240)) (yand y 15) ∧ yor (yor 512 (yand x 240)) (yand y 15) < 1024) ∧ (0 ≤ yor (yor 768 (yand x 240)) (yand (yshr y 4) 15) ∧ yor (yor 768 (yand x 240)) (yand (yshr y 4) 15) < 1024) := by
  have h1 := yshl15 x
  have h2 := yand15 y
  have h3 := yand15 (yshr y 4)
  have h4 := yand240 x
  refine ⟨?_, ?_, ?_, ?_⟩
  · exact yor_lt (n := 10) (by omega) (by omega) (by omega)
  · exact yor_lt (n := 10) (yor_lt (n := 10) (by omega) (by omega) (by omega)) (by omega) (by omega)
  · exact yor_lt (n := 10) (yor_lt (n := 10) (by omega) (by omega) (by omega)) (by omega) (by omega)
  · exact yor_lt (n := 10) (yor_lt (n := 10) (by omega) (by omega) (by omega)) (by omega) (by omega)
theorem yshr_k : ∀ n : Nat, n < 64 → 0 ≤ yshr (n : Int) 3 ∧ yshr (n : Int) 3 < 8 := by decide +kernel
theorem yshr3 {x : Int} (h : 0 ≤ x ∧ x < 64) : 0 ≤ yshr x 3 ∧ yshr x 3 < 8 := by
  obtain ⟨n, rfl⟩ := Int.eq_ofNat_of_zero_le h.1
  exact yshr_k n (by omega)
theorem back_ix {x : Int} (h : 0 ≤ x ∧ x < 64) : 0 ≤ 8 * yand x 7 + yshr x 3 ∧ 8 * yand x 7 + yshr x 3 < 64 := by
  have h1 := yand7 x
  have h2 := yshr3 h
  omega
theorem rng_zcmp (a b : Int) : -2147483648 ≤ zcmp a b ∧ zcmp a b < 2147483648 := rng_toInt _
theorem zcmp_0 {a b : Int} (h : zcmp a b = 0) : Int64.ofInt a = Int64.ofInt b := by
  unfold zcmp lg_cmp at h
  split at h
  · exact absurd h (by decide)
  · split at h
    · assumption
    · exact absurd h (by decide)
/-- the lowest bit of a long number that isn't 0 -/
theorem low64 (x : BitVec 64) (h : x ≠ 0#64) : ∃ t : Nat, t < 64 ∧ x &&& -x = BitVec.twoPow 64 t := by
  have h1 : ∃ i, x.getLsbD i = true := by
    apply Classical.byContradiction
    intro q
    apply h
    apply BitVec.eq_of_getLsbD_eq
    intro i hi
    simp only [BitVec.getLsbD_zero]
    cases hx : x.getLsbD i with
    | false => rfl
    | true => exact absurd ⟨i, hx⟩ q
  have h2 : ∃ t, x.getLsbD t = true ∧ ∀ j, j < t → x.getLsbD j = false := by
    obtain ⟨i, hi⟩ := h1
    induction i using Nat.strongRecOn with
    | ind i ih =>
      by_cases q : ∃ j, j < i ∧ x.getLsbD j = true
      · obtain ⟨j, hj, hx⟩ := q
        exact ih j hj hx
      · refine ⟨i, hi, fun j hj => ?_⟩
        cases hx : x.getLsbD j with
        | false => rfl
        | true => exact absurd ⟨j, hj, hx⟩ q
  obtain ⟨t, ht, hlow⟩ := h2
  have ht64 : t < 64 := by
    apply Classical.byContradiction
    intro q
    rw [BitVec.getLsbD_of_ge x t (by omega)] at ht
    cases ht
  refine ⟨t, ht64, ?_⟩
  apply BitVec.eq_of_getLsbD_eq
  intro i hi
  rw [BitVec.getLsbD_and, BitVec.getLsbD_neg, BitVec.getLsbD_twoPow]
  by_cases e : i = t
  · subst e
    have : ¬ ∃ j, j < i ∧ x.getLsbD j = true := fun ⟨j, hj, hx⟩ => by rw [hlow j hj] at hx; cases hx
    simp [ht, hi, this]
  · by_cases l : i < t
    · have e' : ¬ t = i := fun q => e q.symm
      rw [hlow i l]
      simp [e']
    · have : ∃ j, j < i ∧ x.getLsbD j = true := ⟨t, by omega, ht⟩
      have e' : ¬ t = i := fun q => e q.symm
      simp [this, hi, ht64, e']
def bc (x0 : Int) : Int := (yand (((yand (((yand (x0 - (yand (yushr x0 1) 1431655765)) 858993459) + (yand (yushr (x0 - (yand (yushr x0 1) 1431655765)) 2) 858993459)) + (yushr ((yand (x0 - (yand (yushr x0 1) 1431655765)) 858993459) + (yand (yushr (x0 - (yand (yushr x0 1) 1431655765)) 2) 858993459)) 4)) 252645135) + (yushr (yand (((yand (x0 - (yand (yushr x0 1) 1431655765)) 858993459) + (yand (yushr (x0 - (yand (yushr x0 1) 1431655765)) 2) 858993459)) + (yushr ((yand (x0 - (yand (yushr x0 1) 1431655765)) 858993459) + (yand (yushr (x0 - (yand (yushr x0 1) 1431655765)) 2) 858993459)) 4)) 252645135) 8)) + (yushr ((yand (((yand (x0 - (yand (yushr x0 1) 1431655765)) 858993459) + (yand (yushr (x0 - (yand (yushr x0 1) 1431655765)) 2) 858993459)) + (yushr ((yand (x0 - (yand (yushr x0 1) 1431655765)) 858993459) + (yand (yushr (x0 - (yand (yushr x0 1) 1431655765)) 2) 858993459)) 4)) 252645135) + (yushr (yand (((yand (x0 - (yand (yushr x0 1) 1431655765)) 858993459) + (yand (yushr (x0 - (yand (yushr x0 1) 1431655765)) 2) 858993459)) + (yushr ((yand (x0 - (yand (yushr x0 1) 1431655765)) 858993459) + (yand (yushr (x0 - (yand (yushr x0 1) 1431655765)) 2) 858993459)) 4)) 252645135) 8)) 16)) 63)
def bcL (x0 : Int) : Int := (yand ((((zand (((zand (x0 - (zand (zushr x0 1) 6148914691236517205)) 3689348814741910323) + (zand (zushr (x0 - (zand (zushr x0 1) 6148914691236517205)) 2) 3689348814741910323)) + (zushr ((zand (x0 - (zand (zushr x0 1) 6148914691236517205)) 3689348814741910323) + (zand (zushr (x0 - (zand (zushr x0 1) 6148914691236517205)) 2) 3689348814741910323)) 4)) 1085102592571150095) + (zushr (zand (((zand (x0 - (zand (zushr x0 1) 6148914691236517205)) 3689348814741910323) + (zand (zushr (x0 - (zand (zushr x0 1) 6148914691236517205)) 2) 3689348814741910323)) + (zushr ((zand (x0 - (zand (zushr x0 1) 6148914691236517205)) 3689348814741910323) + (zand (zushr (x0 - (zand (zushr x0 1) 6148914691236517205)) 2) 3689348814741910323)) 4)) 1085102592571150095) 8)) + (zushr ((zand (((zand (x0 - (zand (zushr x0 1) 6148914691236517205)) 3689348814741910323) + (zand (zushr (x0 - (zand (zushr x0 1) 6148914691236517205)) 2) 3689348814741910323)) + (zushr ((zand (x0 - (zand (zushr x0 1) 6148914691236517205)) 3689348814741910323) + (zand (zushr (x0 - (zand (zushr x0 1) 6148914691236517205)) 2) 3689348814741910323)) 4)) 1085102592571150095) + (zushr (zand (((zand (x0 - (zand (zushr x0 1) 6148914691236517205)) 3689348814741910323) + (zand (zushr (x0 - (zand (zushr x0 1) 6148914691236517205)) 2) 3689348814741910323)) + (zushr ((zand (x0 - (zand (zushr x0 1) 6148914691236517205)) 3689348814741910323) + (zand (zushr (x0 - (zand (zushr x0 1) 6148914691236517205)) 2) 3689348814741910323)) 4)) 1085102592571150095) 8)) 16)) + (zushr (((zand (((zand (x0 - (zand (zushr x0 1) 6148914691236517205)) 3689348814741910323) + (zand (zushr (x0 - (zand (zushr x0 1) 6148914691236517205)) 2) 3689348814741910323)) + (zushr ((zand (x0 - (zand (zushr x0 1) 6148914691236517205)) 3689348814741910323) + (zand (zushr (x0 - (zand (zushr x0 1) 6148914691236517205)) 2) 3689348814741910323)) 4)) 1085102592571150095) + (zushr (zand (((zand (x0 - (zand (zushr x0 1) 6148914691236517205)) 3689348814741910323) + (zand (zushr (x0 - (zand (zushr x0 1) 6148914691236517205)) 2) 3689348814741910323)) + (zushr ((zand (x0 - (zand (zushr x0 1) 6148914691236517205)) 3689348814741910323) + (zand (zushr (x0 - (zand (zushr x0 1) 6148914691236517205)) 2) 3689348814741910323)) 4)) 1085102592571150095) 8)) + (zushr ((zand (((zand (x0 - (zand (zushr x0 1) 6148914691236517205)) 3689348814741910323) + (zand (zushr (x0 - (zand (zushr x0 1) 6148914691236517205)) 2) 3689348814741910323)) + (zushr ((zand (x0 - (zand (zushr x0 1) 6148914691236517205)) 3689348814741910323) + (zand (zushr (x0 - (zand (zushr x0 1) 6148914691236517205)) 2) 3689348814741910323)) 4)) 1085102592571150095) + (zushr (zand (((zand (x0 - (zand (zushr x0 1) 6148914691236517205)) 3689348814741910323) + (zand (zushr (x0 - (zand (zushr x0 1) 6148914691236517205)) 2) 3689348814741910323)) + (zushr ((zand (x0 - (zand (zushr x0 1) 6148914691236517205)) 3689348814741910323) + (zand (zushr (x0 - (zand (zushr x0 1) 6148914691236517205)) 2) 3689348814741910323)) 4)) 1085102592571150095) 8)) 16)) 32)) 127)
theorem bc_rng (x : Int) : 0 ≤ bc x ∧ bc x < 64 := yand_lt _ (n := 6) (by decide) (by omega)
theorem bcL_rng (x : Int) : 0 ≤ bcL x ∧ bcL x < 128 := yand_lt _ (n := 7) (by decide) (by omega)
theorem bcL_low : ∀ t : Nat, t < 64 → bcL ((Int64.ofBitVec (BitVec.twoPow 64 t)).toInt - 1) = t := by decide +kernel
/-- the place of the lowest pair that is still to be looked at -/
theorem low_ok {x : Int} (h : zcmp x 0 ≠ 0) : 0 ≤ bcL (zand x (-x) - 1) ∧ bcL (zand x (-x) - 1) < 64 := by
  have h0 : (Int64.ofInt x).toBitVec ≠ 0#64 := by
    intro q
    apply h
    have : Int64.ofInt x = Int64.ofInt 0 := Int64.toBitVec_inj.mp (by rw [q]; rfl)
    unfold zcmp
    rw [this]
    decide
  obtain ⟨t, ht, e⟩ := low64 _ h0
  have : zand x (-x) = (Int64.ofBitVec (BitVec.twoPow 64 t)).toInt := by
    unfold zand
    rw [← e, Int64.ofInt_neg]
    rfl
  rw [this, bcL_low t ht]
  omega
def low (x : Int) : Int := bc (yand x (-x) - 1)
theorem low_k : ∀ n : Nat, n < 256 → n ≠ 0 → 0 ≤ low (n : Int) ∧ low (n : Int) < 8 ∧ (n < 16 → low (n : Int) < 4) := by decide +kernel
theorem cJ6 {d : Nat} {Q : Int → yM → Prop} {M : yM} {x0 : Int} (k : Q (bc x0) M) : XCi d 179 [.inl x0] M Q := eJ6_bitCount_0f7a4 (uJ6_bitCount_0f7a4_0 k)
theorem cJ13 {d : Nat} {Q : Int → yM → Prop} {M : yM} {x0 : Int} (k : Q (bcL x0) M) : XCi d 180 [.inr (.inl x0)] M Q := eJ13_bitCount_95d88 (uJ13_bitCount_95d88_0 k)
theorem c11_low {d : Nat} {Q : Int → yM → Prop} {M : yM} {x0 : Int} (k : Q (low x0) M) : XCi (d + 1) 116 [.inl x0] M Q := eX11_lowest (uX11_lowest_0 (cJ6 (uX11_lowest_9 k)))
theorem low_rng (x : Int) : 0 ≤ low x ∧ low x < 64 := bc_rng _
theorem c9_turnSet {d : Nat} {Q : Int → yM → Prop} {M : yM} {x1 : Int} (k : Q (ld M 4 (yand x1 255)) M) : XCi d 70 [.inr (.inr 1), .inl x1] M Q := eX9_turnSet (uX9_turnSet_0 (yand255 x1) k)
def jn (M : yM) (a b : Int) : Int := (yor (yor (yor (ld M 5 (yor (yshl (yand a 15) 4) (yand b 15))) (ld M 5 (yor (yor 256 (yshl (yand a 15) 4)) (yand (yshr b 4) 15)))) (ld M 5 (yor (yor 512 (yand a 240)) (yand b 15)))) (ld M 5 (yor (yor 768 (yand a 240)) (yand (yshr b 4) 15))))
theorem c9_joinSets {d : Nat} {Q : Int → yM → Prop} {M : yM} {x1 x2 : Int} (k : Q (jn M x1 x2) M) : XCi d 71 [.inr (.inr 1), .inl x1, .inl x2] M Q :=
  have h := jix x1 x2
  eX9_joinSets (uX9_joinSets_0 h.1 h.2.1 h.2.2.1 h.2.2.2 k)
def pbit (a b : Int) : Int := zshl 1 (if a < b then 8 * a + b else 8 * b + a)
theorem c11_pairBit {d : Nat} {Q : Int → yM → Prop} {M : yM} {a b : Int} (ha : yR a) (hb : yR b) (k : Q (pbit a b) M) : XCl d 118 [.inl a, .inl b] M Q := by
  refine eX11_pairBit (uX11_pairBit_0 ha hb (fun h => ?_) (fun h => ?_))
  · refine uX11_pairBit_15 (uX11_pairBit_21 ?_)
    unfold pbit at k
    rw [if_neg (by omega)] at k
    exact k
  · refine uX11_pairBit_6 (uX11_pairBit_21 ?_)
    unfold pbit at k
    rw [if_pos h] at k
    exact k
theorem ld_cpyne {M : yM} {o1 o2 : Nat} {sp dp n : Int} {o' : Nat} {j : Int} (h : o' ≠ o2) : ld (cpy M o1 o2 sp dp n) o' j = ld M o' j := by
  rw [ld_cpy, if_neg (fun q => h q.1)]
theorem c9_jw {d : Nat} {Q : Int → yM → Prop} {M : yM} {x1 x2 : Int} (k : ∀ v, yR v → Q v M) : XCi d 71 [.inr (.inr 1), .inl x1, .inl x2] M Q := c9_joinSets (k _ (by unfold jn; exact rng_yor _ _))
theorem c9_tw {d : Nat} {Q : Int → yM → Prop} {M : yM} {x1 : Int} (k : ∀ v, yR v → Q v M) : XCi d 70 [.inr (.inr 1), .inl x1] M Q := c9_turnSet (k _ (rng_ld _ _ _))
theorem c11_lw {d : Nat} {Q : Int → yM → Prop} {M : yM} {x0 : Int} (k : ∀ v, 0 ≤ v ∧ v < 64 → Q v M) : XCi (d + 1) 116 [.inl x0] M Q := c11_low (k _ (low_rng _))
theorem c6_bw {d : Nat} {Q : Int → yM → Prop} {M : yM} {x0 : Int} (k : ∀ v, 0 ≤ v ∧ v < 64 → Q v M) : XCi d 179 [.inl x0] M Q := cJ6 (k _ (bc_rng _))
theorem c11_pw {d : Nat} {Q : Int → yM → Prop} {M : yM} {a b : Int} (ha : yR a) (hb : yR b) (k : ∀ v, Q v M) : XCl d 118 [.inl a, .inl b] M Q := c11_pairBit ha hb (k _)
theorem c9_allw {d : Nat} {Q : Int → yM → Prop} {M : yM} (hk : 0 ≤ ld M 1 0 ∧ ld M 1 0 ≤ 8) (k : ∀ v, 0 ≤ v ∧ v ≤ 255 → Q v M) : XCi d 60 [.inr (.inr 1)] M Q := by
  refine c9_all hk (k _ ?_)
  obtain ⟨n, e⟩ := Int.eq_ofNat_of_zero_le hk.1
  rw [e]
  have := al_n n (by omega)
  omega
theorem cJ7_fill {d : Nat} {Q : yM → Prop} {M : yM} {x0 : Nat} {x1 : Int} {n : Nat} (hA : arrSh x0 n) (k : ∀ (M' : yM), fr (fun o _ => o = x0) M M' → Q M') : XCv d 181 [.inr (.inr x0), .inl x1] M Q := by
  refine eJ7_fill_53178 ?_
  have fM : fr (fun o _ => o = x0) M M := fr.rf
  have hA2 := hA.2
  have go : ∀ N : Nat, (∀ (x2 : Int) (x3 : Int) (M9 : yM), fr (fun o _ => o = x0) M M9 → (0 ≤ x2 ∧ x2 ≤ x3) → (x3 = (n : Int)) → (x3 - x2 < (N : Int)) → XW kJ7_fill_53178 d none (wQv Q) 5 [some (.inr (.inr x0)), some (.inl x1), some (.inl x2), some (.inl x3)] [] M9) := by
    intro N
    induction N with
    | zero => intros; exfalso; omega
    | succ N ih =>
      have ih0 := ih
      clear fM
      intro x2 x3 M1 fM i0 i1 hm
      refine uJ7_fill_53178_5 (by first | omega | assumption | with_reducible exact rng_ld _ _ _ | with_reducible exact rng_yand _ _ | with_reducible exact rng_yor _ _ | with_reducible exact rng_zcmp _ _ | with_reducible exact yand7 _ | with_reducible exact rng_toInt _ | with_reducible exact yarr23 (by omega) | with_reducible exact yarr57 (by omega) | with_reducible exact Or.inl rfl | with_reducible exact Or.inr rfl) (by first | omega | assumption | with_reducible exact rng_ld _ _ _ | with_reducible exact rng_yand _ _ | with_reducible exact rng_yor _ _ | with_reducible exact rng_zcmp _ _ | with_reducible exact yand7 _ | with_reducible exact rng_toInt _ | with_reducible exact yarr23 (by omega) | with_reducible exact yarr57 (by omega) | with_reducible exact Or.inl rfl | with_reducible exact Or.inr rfl) (fun hc => ?_) (fun hc => ?_)
      · skip
        refine uJ7_fill_53178_20 ?_
        exact k _ fM 
      · skip
        refine uJ7_fill_53178_10 hA (by first | omega | assumption | with_reducible exact rng_ld _ _ _ | with_reducible exact rng_yand _ _ | with_reducible exact rng_yor _ _ | with_reducible exact rng_zcmp _ _ | with_reducible exact yand7 _ | with_reducible exact rng_toInt _ | with_reducible exact yarr23 (by omega) | with_reducible exact yarr57 (by omega) | with_reducible exact Or.inl rfl | with_reducible exact Or.inr rfl) ?_
        intro M2 hM2
        replace fM := fr.put fM hM2 (by first | omega | (dsimp only []; done) | (dsimp only []; omega) | (simp []; done) | (simp []; omega))
        refine uJ7_fill_53178_14 ?_
        exact ih0 _ _ M2 fM (by first | omega | assumption | with_reducible exact rng_ld _ _ _ | with_reducible exact rng_yand _ _ | with_reducible exact rng_yor _ _ | with_reducible exact rng_zcmp _ _ | with_reducible exact yand7 _ | with_reducible exact rng_toInt _ | with_reducible exact yarr23 (by omega) | with_reducible exact yarr57 (by omega) | with_reducible exact Or.inl rfl | with_reducible exact Or.inr rfl) (by first | omega | assumption | with_reducible exact rng_ld _ _ _ | with_reducible exact rng_yand _ _ | with_reducible exact rng_yor _ _ | with_reducible exact rng_zcmp _ _ | with_reducible exact yand7 _ | with_reducible exact rng_toInt _ | with_reducible exact yarr23 (by omega) | with_reducible exact yarr57 (by omega) | with_reducible exact Or.inl rfl | with_reducible exact Or.inr rfl) (by omega)
  refine uJ7_fill_53178_0 hA ?_
  exact (go 1000000) _ _ M fM (by first | omega | assumption | with_reducible exact rng_ld _ _ _ | with_reducible exact rng_yand _ _ | with_reducible exact rng_yor _ _ | with_reducible exact rng_zcmp _ _ | with_reducible exact yand7 _ | with_reducible exact rng_toInt _ | with_reducible exact yarr23 (by omega) | with_reducible exact yarr57 (by omega) | with_reducible exact Or.inl rfl | with_reducible exact Or.inr rfl) (by first | omega | assumption | with_reducible exact rng_ld _ _ _ | with_reducible exact rng_yand _ _ | with_reducible exact rng_yor _ _ | with_reducible exact rng_zcmp _ _ | with_reducible exact yand7 _ | with_reducible exact rng_toInt _ | with_reducible exact yarr23 (by omega) | with_reducible exact yarr57 (by omega) | with_reducible exact Or.inl rfl | with_reducible exact Or.inr rfl) (by omega)
theorem c9_mayBe {d : Nat} {Q : Int → yM → Prop} {M : yM} {x1 : Int} {x2 : Int} {x3 : Int}  (h8 : 0 ≤ 8 * x1 + x2 ∧ 8 * x1 + x2 < 64) (k : ∀ (v : Int), (v = 0 ∨ v = 1) → Q v M) : XCi d 65 [.inr (.inr 1), .inl x1, .inl x2, .inl x3] M Q := by
  refine eX9_mayBe ?_
  refine uX9_mayBe_0 (by first | omega | assumption | with_reducible exact rng_ld _ _ _ | with_reducible exact rng_yand _ _ | with_reducible exact rng_yor _ _ | with_reducible exact rng_zcmp _ _ | with_reducible exact yand7 _ | with_reducible exact rng_toInt _ | with_reducible exact yarr23 (by omega) | with_reducible exact yarr57 (by omega) | with_reducible exact Or.inl rfl | with_reducible exact Or.inr rfl) (fun hc => ?_) (fun hc => ?_)
  · skip
    refine uX9_mayBe_23 ?_
    refine uX9_mayBe_24 (by first | omega | assumption | with_reducible exact rng_ld _ _ _ | with_reducible exact rng_yand _ _ | with_reducible exact rng_yor _ _ | with_reducible exact rng_zcmp _ _ | with_reducible exact yand7 _ | with_reducible exact rng_toInt _ | with_reducible exact yarr23 (by omega) | with_reducible exact yarr57 (by omega) | with_reducible exact Or.inl rfl | with_reducible exact Or.inr rfl) ?_
    exact k _ (by first | omega | assumption | with_reducible exact rng_ld _ _ _ | with_reducible exact rng_yand _ _ | with_reducible exact rng_yor _ _ | with_reducible exact rng_zcmp _ _ | with_reducible exact yand7 _ | with_reducible exact rng_toInt _ | with_reducible exact yarr23 (by omega) | with_reducible exact yarr57 (by omega) | with_reducible exact Or.inl rfl | with_reducible exact Or.inr rfl)
  · skip
    refine uX9_mayBe_19 ?_
    refine uX9_mayBe_24 (by first | omega | assumption | with_reducible exact rng_ld _ _ _ | with_reducible exact rng_yand _ _ | with_reducible exact rng_yor _ _ | with_reducible exact rng_zcmp _ _ | with_reducible exact yand7 _ | with_reducible exact rng_toInt _ | with_reducible exact yarr23 (by omega) | with_reducible exact yarr57 (by omega) | with_reducible exact Or.inl rfl | with_reducible exact Or.inr rfl) ?_
    exact k _ (by first | omega | assumption | with_reducible exact rng_ld _ _ _ | with_reducible exact rng_yand _ _ | with_reducible exact rng_yor _ _ | with_reducible exact rng_zcmp _ _ | with_reducible exact yand7 _ | with_reducible exact rng_toInt _ | with_reducible exact yarr23 (by omega) | with_reducible exact yarr57 (by omega) | with_reducible exact Or.inl rfl | with_reducible exact Or.inr rfl)
theorem c11_hasEmpty {d : Nat} {Q : Int → yM → Prop} {M : yM} {x0 : Nat} {x1 : Int}  (hA : arrSh x0 64) (h8 : 0 ≤ x1 ∧ x1 ≤ 8) (k : ∀ (v : Int), (v = 0 ∨ v = 1) → Q v M) : XCi d 117 [.inr (.inr x0), .inl x1] M Q := by
  refine eX11_hasEmpty ?_
  have go : ∀ N : Nat, (∀ (x2 : Int) (wx3 : Option yV), (0 ≤ x2 ∧ x2 ≤ 8) → ((8 - x2) * 40 + 20 < (N : Int)) → XW kX11_hasEmpty d (some .boolean) (wQi Q) 2 [some (.inr (.inr x0)), some (.inl x1), some (.inl x2), wx3] [] M) ∧ (∀ (x2 : Int) (x3 : Int), (0 ≤ x2 ∧ x2 < 8) → (0 ≤ x3 ∧ x3 ≤ 8) → ((8 - x2) * 40 + (8 - x3) * 1 + 0 < (N : Int)) → XW kX11_hasEmpty d (some .boolean) (wQi Q) 11 [some (.inr (.inr x0)), some (.inl x1), some (.inl x2), some (.inl x3)] [] M) := by
    intro N
    induction N with
    | zero => refine ⟨?_, ?_⟩ <;> (intros; exfalso; omega)
    | succ N ih =>
      obtain ⟨ih0, ih1⟩ := ih
      refine ⟨?_, ?_⟩
      · skip
        skip
        intro x2 wx3 i0 hm
        refine uX11_hasEmpty_2 (by first | omega | assumption | with_reducible exact rng_ld _ _ _ | with_reducible exact rng_yand _ _ | with_reducible exact rng_yor _ _ | with_reducible exact rng_zcmp _ _ | with_reducible exact yand7 _ | with_reducible exact rng_toInt _ | with_reducible exact yarr23 (by omega) | with_reducible exact yarr57 (by omega) | with_reducible exact Or.inl rfl | with_reducible exact Or.inr rfl) (by first | omega | assumption | with_reducible exact rng_ld _ _ _ | with_reducible exact rng_yand _ _ | with_reducible exact rng_yor _ _ | with_reducible exact rng_zcmp _ _ | with_reducible exact yand7 _ | with_reducible exact rng_toInt _ | with_reducible exact yarr23 (by omega) | with_reducible exact yarr57 (by omega) | with_reducible exact Or.inl rfl | with_reducible exact Or.inr rfl) (fun hc => ?_) (fun hc => ?_)
        · skip
          refine uX11_hasEmpty_41 ?_
          exact k _ (by first | omega | assumption | with_reducible exact rng_ld _ _ _ | with_reducible exact rng_yand _ _ | with_reducible exact rng_yor _ _ | with_reducible exact rng_zcmp _ _ | with_reducible exact yand7 _ | with_reducible exact rng_toInt _ | with_reducible exact yarr23 (by omega) | with_reducible exact yarr57 (by omega) | with_reducible exact Or.inl rfl | with_reducible exact Or.inr rfl)
        · skip
          refine uX11_hasEmpty_7 ?_
          exact ih1 _ _  (by first | omega | assumption | with_reducible exact rng_ld _ _ _ | with_reducible exact rng_yand _ _ | with_reducible exact rng_yor _ _ | with_reducible exact rng_zcmp _ _ | with_reducible exact yand7 _ | with_reducible exact rng_toInt _ | with_reducible exact yarr23 (by omega) | with_reducible exact yarr57 (by omega) | with_reducible exact Or.inl rfl | with_reducible exact Or.inr rfl) (by first | omega | assumption | with_reducible exact rng_ld _ _ _ | with_reducible exact rng_yand _ _ | with_reducible exact rng_yor _ _ | with_reducible exact rng_zcmp _ _ | with_reducible exact yand7 _ | with_reducible exact rng_toInt _ | with_reducible exact yarr23 (by omega) | with_reducible exact yarr57 (by omega) | with_reducible exact Or.inl rfl | with_reducible exact Or.inr rfl) (by omega)
      · skip
        skip
        intro x2 x3 i0 i1 hm
        refine uX11_hasEmpty_11 (by first | omega | assumption | with_reducible exact rng_ld _ _ _ | with_reducible exact rng_yand _ _ | with_reducible exact rng_yor _ _ | with_reducible exact rng_zcmp _ _ | with_reducible exact yand7 _ | with_reducible exact rng_toInt _ | with_reducible exact yarr23 (by omega) | with_reducible exact yarr57 (by omega) | with_reducible exact Or.inl rfl | with_reducible exact Or.inr rfl) (by first | omega | assumption | with_reducible exact rng_ld _ _ _ | with_reducible exact rng_yand _ _ | with_reducible exact rng_yor _ _ | with_reducible exact rng_zcmp _ _ | with_reducible exact yand7 _ | with_reducible exact rng_toInt _ | with_reducible exact yarr23 (by omega) | with_reducible exact yarr57 (by omega) | with_reducible exact Or.inl rfl | with_reducible exact Or.inr rfl) (fun hc => ?_) (fun hc => ?_)
        · skip
          refine uX11_hasEmpty_35 ?_
          exact ih0 _ _  (by first | omega | assumption | with_reducible exact rng_ld _ _ _ | with_reducible exact rng_yand _ _ | with_reducible exact rng_yor _ _ | with_reducible exact rng_zcmp _ _ | with_reducible exact yand7 _ | with_reducible exact rng_toInt _ | with_reducible exact yarr23 (by omega) | with_reducible exact yarr57 (by omega) | with_reducible exact Or.inl rfl | with_reducible exact Or.inr rfl) (by omega)
        · skip
          refine uX11_hasEmpty_16 (by first | assumption | exact ⟨rfl, Nat.le_of_ble_eq_true rfl⟩ | with_reducible exact yarr23 (by omega) | with_reducible exact yarr57 (by omega)) (by first | omega | assumption | with_reducible exact rng_ld _ _ _ | with_reducible exact rng_yand _ _ | with_reducible exact rng_yor _ _ | with_reducible exact rng_zcmp _ _ | with_reducible exact yand7 _ | with_reducible exact rng_toInt _ | with_reducible exact yarr23 (by omega) | with_reducible exact yarr57 (by omega) | with_reducible exact Or.inl rfl | with_reducible exact Or.inr rfl) (fun hc => ?_) (fun hc => ?_)
          · skip
            refine uX11_hasEmpty_29 ?_
            exact ih1 _ _  (by first | omega | assumption | with_reducible exact rng_ld _ _ _ | with_reducible exact rng_yand _ _ | with_reducible exact rng_yor _ _ | with_reducible exact rng_zcmp _ _ | with_reducible exact yand7 _ | with_reducible exact rng_toInt _ | with_reducible exact yarr23 (by omega) | with_reducible exact yarr57 (by omega) | with_reducible exact Or.inl rfl | with_reducible exact Or.inr rfl) (by first | omega | assumption | with_reducible exact rng_ld _ _ _ | with_reducible exact rng_yand _ _ | with_reducible exact rng_yor _ _ | with_reducible exact rng_zcmp _ _ | with_reducible exact yand7 _ | with_reducible exact rng_toInt _ | with_reducible exact yarr23 (by omega) | with_reducible exact yarr57 (by omega) | with_reducible exact Or.inl rfl | with_reducible exact Or.inr rfl) (by omega)
          · skip
            refine uX11_hasEmpty_27 ?_
            exact k _ (by first | omega | assumption | with_reducible exact rng_ld _ _ _ | with_reducible exact rng_yand _ _ | with_reducible exact rng_yor _ _ | with_reducible exact rng_zcmp _ _ | with_reducible exact yand7 _ | with_reducible exact rng_toInt _ | with_reducible exact yarr23 (by omega) | with_reducible exact yarr57 (by omega) | with_reducible exact Or.inl rfl | with_reducible exact Or.inr rfl)
  refine uX11_hasEmpty_0 ?_
  exact (go 1000000).1 _ _  (by first | omega | assumption | with_reducible exact rng_ld _ _ _ | with_reducible exact rng_yand _ _ | with_reducible exact rng_yor _ _ | with_reducible exact rng_zcmp _ _ | with_reducible exact yand7 _ | with_reducible exact rng_toInt _ | with_reducible exact yarr23 (by omega) | with_reducible exact yarr57 (by omega) | with_reducible exact Or.inl rfl | with_reducible exact Or.inr rfl) (by omega)
theorem c8_pass {d : Nat} {Q : Int → yM → Prop} {M : yM} {x1 : Nat} {x2 : Int} {x3 : Int} {x4 : Int}  (hA : arrSh x1 64) (p2 : 0 ≤ x2 ∧ x2 < 8) (p3 : 0 ≤ x3 ∧ x3 < 8) (p4 : 0 ≤ x4 ∧ x4 < 8) (k : ∀ (v : Int) (M' : yM), fr (fun o _ => o = x1) M M' → (-2147483648 ≤ v ∧ v < 2147483648) → Q v M') : XCi (d + 1) 56 [.inr (.inr 21), .inr (.inr x1), .inl x2, .inl x3, .inl x4] M Q := by
  refine eX8_pass ?_
  have fM : fr (fun o _ => o = x1) M M := fr.rf
  refine uX8_pass_0 (by first | assumption | exact ⟨rfl, Nat.le_of_ble_eq_true rfl⟩ | with_reducible exact yarr23 (by omega) | with_reducible exact yarr57 (by omega)) (by first | omega | assumption | with_reducible exact rng_ld _ _ _ | with_reducible exact rng_yand _ _ | with_reducible exact rng_yor _ _ | with_reducible exact rng_zcmp _ _ | with_reducible exact yand7 _ | with_reducible exact rng_toInt _ | with_reducible exact yarr23 (by omega) | with_reducible exact yarr57 (by omega) | with_reducible exact Or.inl rfl | with_reducible exact Or.inr rfl) (by first | omega | assumption | with_reducible exact rng_ld _ _ _ | with_reducible exact rng_yand _ _ | with_reducible exact rng_yor _ _ | with_reducible exact rng_zcmp _ _ | with_reducible exact yand7 _ | with_reducible exact rng_toInt _ | with_reducible exact yarr23 (by omega) | with_reducible exact yarr57 (by omega) | with_reducible exact Or.inl rfl | with_reducible exact Or.inr rfl) (by first | omega | assumption | with_reducible exact rng_ld _ _ _ | with_reducible exact rng_yand _ _ | with_reducible exact rng_yor _ _ | with_reducible exact rng_zcmp _ _ | with_reducible exact yand7 _ | with_reducible exact rng_toInt _ | with_reducible exact yarr23 (by omega) | with_reducible exact yarr57 (by omega) | with_reducible exact Or.inl rfl | with_reducible exact Or.inr rfl) ?_
  refine c9_jw   (fun v1 p1a => ?_)
  refine uX8_pass_37 (by first | omega | assumption | with_reducible exact rng_ld _ _ _ | with_reducible exact rng_yand _ _ | with_reducible exact rng_yor _ _ | with_reducible exact rng_zcmp _ _ | with_reducible exact yand7 _ | with_reducible exact rng_toInt _ | with_reducible exact yarr23 (by omega) | with_reducible exact yarr57 (by omega) | with_reducible exact Or.inl rfl | with_reducible exact Or.inr rfl) (fun hc => ?_) (fun hc => ?_)
  · skip
    refine uX8_pass_49 (by first | assumption | exact ⟨rfl, Nat.le_of_ble_eq_true rfl⟩ | with_reducible exact yarr23 (by omega) | with_reducible exact yarr57 (by omega)) (by first | omega | assumption | with_reducible exact rng_ld _ _ _ | with_reducible exact rng_yand _ _ | with_reducible exact rng_yor _ _ | with_reducible exact rng_zcmp _ _ | with_reducible exact yand7 _ | with_reducible exact rng_toInt _ | with_reducible exact yarr23 (by omega) | with_reducible exact yarr57 (by omega) | with_reducible exact Or.inl rfl | with_reducible exact Or.inr rfl) ?_
    intro M2 hM2
    replace fM := fr.put fM hM2 (by first | omega | (dsimp only []; done) | (dsimp only []; omega) | (simp []; done) | (simp []; omega))
    refine uX8_pass_60 ?_
    refine c9_tw   (fun v3 p3a => ?_)
    refine uX8_pass_77 (by first | assumption | exact ⟨rfl, Nat.le_of_ble_eq_true rfl⟩ | with_reducible exact yarr23 (by omega) | with_reducible exact yarr57 (by omega)) (by first | omega | assumption | with_reducible exact rng_ld _ _ _ | with_reducible exact rng_yand _ _ | with_reducible exact rng_yor _ _ | with_reducible exact rng_zcmp _ _ | with_reducible exact yand7 _ | with_reducible exact rng_toInt _ | with_reducible exact yarr23 (by omega) | with_reducible exact yarr57 (by omega) | with_reducible exact Or.inl rfl | with_reducible exact Or.inr rfl) ?_
    intro M4 hM4
    replace fM := fr.put fM hM4 (by first | omega | (dsimp only []; done) | (dsimp only []; omega) | (simp []; done) | (simp []; omega))
    refine uX8_pass_78 ?_
    exact k _ _ fM (by first | omega | assumption | with_reducible exact rng_ld _ _ _ | with_reducible exact rng_yand _ _ | with_reducible exact rng_yor _ _ | with_reducible exact rng_zcmp _ _ | with_reducible exact yand7 _ | with_reducible exact rng_toInt _ | with_reducible exact yarr23 (by omega) | with_reducible exact yarr57 (by omega) | with_reducible exact Or.inl rfl | with_reducible exact Or.inr rfl)
  · skip
    refine uX8_pass_47 ?_
    exact k _ _ fM (by first | omega | assumption | with_reducible exact rng_ld _ _ _ | with_reducible exact rng_yand _ _ | with_reducible exact rng_yor _ _ | with_reducible exact rng_zcmp _ _ | with_reducible exact yand7 _ | with_reducible exact rng_toInt _ | with_reducible exact yarr23 (by omega) | with_reducible exact yarr57 (by omega) | with_reducible exact Or.inl rfl | with_reducible exact Or.inr rfl)
theorem c8_settles {d : Nat} {Q : Int → yM → Prop} {M : yM} {x1 : Nat} {x2 : Int} {x3 : Int}  (hA : arrSh x1 64) (p2 : 0 ≤ x2 ∧ x2 ≤ 8) (k : ∀ (v : Int) (M' : yM), fr (fun o _ => o = x1) M M' → (v = 0 ∨ v = 1) → Q v M') : XCi (d + 2) 57 [.inr (.inr 21), .inr (.inr x1), .inl x2, .inr (.inl x3)] M Q := by
  refine eX8_settles ?_
  have fM : fr (fun o _ => o = x1) M M := fr.rf
  have go : ∀ N : Nat, (∀ (x5 : Int) (x7 : Int) (wx8 : Option yV) (wx9 : Option yV) (wx10 : Option yV) (wx11 : Option yV) (wx12 : Option yV) (wx13 : Option yV) (M9 : yM), fr (fun o _ => o = x1) M M9 → (0 ≤ x7 ∧ x7 ≤ 1000) → (20 * (1000 - x7) + 10 < (N : Int)) → XW kX8_settles (d + 2) (some .boolean) (wQi Q) 6 [some (.inr (.inr 21)), some (.inr (.inr x1)), some (.inl x2), some (.inr (.inl x3)), none, some (.inr (.inl x5)), none, some (.inl x7), wx8, wx9, wx10, wx11, wx12, wx13] [] M9) ∧ (∀ (x5 : Int) (x7 : Int) (x8 : Int) (x9 : Int) (x10 : Int) (x11 : Int) (wx12 : Option yV) (wx13 : Option yV) (M9 : yM), fr (fun o _ => o = x1) M M9 → (0 ≤ x7 ∧ x7 < 1000) → (0 ≤ x9 ∧ x9 < 8) → (0 ≤ x10 ∧ x10 < 8) → (0 ≤ x11 ∧ x11 ≤ 8) → (20 * (1000 - x7) + 9 - x11 < (N : Int)) → XW kX8_settles (d + 2) (some .boolean) (wQi Q) 59 [some (.inr (.inr 21)), some (.inr (.inr x1)), some (.inl x2), some (.inr (.inl x3)), none, some (.inr (.inl x5)), none, some (.inl x7), some (.inl x8), some (.inl x9), some (.inl x10), some (.inl x11), wx12, wx13] [] M9) := by
    intro N
    induction N with
    | zero => refine ⟨?_, ?_⟩ <;> (intros; exfalso; omega)
    | succ N ih =>
      obtain ⟨ih0, ih1⟩ := ih
      refine ⟨?_, ?_⟩
      · skip
        clear fM
        intro x5 x7 wx8 wx9 wx10 wx11 wx12 wx13 M1 fM i0 hm
        refine uX8_settles_6 (rng_zcmp _ _) (fun hc => ?_) (fun hc => ?_)
        · skip
          refine uX8_settles_166 ?_
          exact k _ _ fM (by first | omega | assumption | with_reducible exact rng_ld _ _ _ | with_reducible exact rng_yand _ _ | with_reducible exact rng_yor _ _ | with_reducible exact rng_zcmp _ _ | with_reducible exact yand7 _ | with_reducible exact rng_toInt _ | with_reducible exact yarr23 (by omega) | with_reducible exact yarr57 (by omega) | with_reducible exact Or.inl rfl | with_reducible exact Or.inr rfl)
        · skip
          refine uX8_settles_13 (by first | omega | assumption | with_reducible exact rng_ld _ _ _ | with_reducible exact rng_yand _ _ | with_reducible exact rng_yor _ _ | with_reducible exact rng_zcmp _ _ | with_reducible exact yand7 _ | with_reducible exact rng_toInt _ | with_reducible exact yarr23 (by omega) | with_reducible exact yarr57 (by omega) | with_reducible exact Or.inl rfl | with_reducible exact Or.inr rfl) (fun hc => ?_) (fun hc => ?_)
          · skip
            refine uX8_settles_166 ?_
            exact k _ _ fM (by first | omega | assumption | with_reducible exact rng_ld _ _ _ | with_reducible exact rng_yand _ _ | with_reducible exact rng_yor _ _ | with_reducible exact rng_zcmp _ _ | with_reducible exact yand7 _ | with_reducible exact rng_toInt _ | with_reducible exact yarr23 (by omega) | with_reducible exact yarr57 (by omega) | with_reducible exact Or.inl rfl | with_reducible exact Or.inr rfl)
          · skip
            refine uX8_settles_21 ?_
            refine cJ13   ?_
            have hlo := low_ok (x := x5) (by assumption)
            have h3 := yshr3 hlo
            have h7 := yand7 (bcL (zand x5 (-x5) - 1))
            refine uX8_settles_32 ?_
            exact ih1 _ _ _ _ _ _ _ _ M1 fM (by first | omega | assumption | with_reducible exact rng_ld _ _ _ | with_reducible exact rng_yand _ _ | with_reducible exact rng_yor _ _ | with_reducible exact rng_zcmp _ _ | with_reducible exact yand7 _ | with_reducible exact rng_toInt _ | with_reducible exact yarr23 (by omega) | with_reducible exact yarr57 (by omega) | with_reducible exact Or.inl rfl | with_reducible exact Or.inr rfl) (by first | omega | assumption | with_reducible exact rng_ld _ _ _ | with_reducible exact rng_yand _ _ | with_reducible exact rng_yor _ _ | with_reducible exact rng_zcmp _ _ | with_reducible exact yand7 _ | with_reducible exact rng_toInt _ | with_reducible exact yarr23 (by omega) | with_reducible exact yarr57 (by omega) | with_reducible exact Or.inl rfl | with_reducible exact Or.inr rfl) (by first | omega | assumption | with_reducible exact rng_ld _ _ _ | with_reducible exact rng_yand _ _ | with_reducible exact rng_yor _ _ | with_reducible exact rng_zcmp _ _ | with_reducible exact yand7 _ | with_reducible exact rng_toInt _ | with_reducible exact yarr23 (by omega) | with_reducible exact yarr57 (by omega) | with_reducible exact Or.inl rfl | with_reducible exact Or.inr rfl) (by first | omega | assumption | with_reducible exact rng_ld _ _ _ | with_reducible exact rng_yand _ _ | with_reducible exact rng_yor _ _ | with_reducible exact rng_zcmp _ _ | with_reducible exact yand7 _ | with_reducible exact rng_toInt _ | with_reducible exact yarr23 (by omega) | with_reducible exact yarr57 (by omega) | with_reducible exact Or.inl rfl | with_reducible exact Or.inr rfl) (by omega)
      · skip
        clear fM
        intro x5 x7 x8 x9 x10 x11 wx12 wx13 M3 fM i0 i1 i2 i3 hm
        refine uX8_settles_59 (by first | omega | assumption | with_reducible exact rng_ld _ _ _ | with_reducible exact rng_yand _ _ | with_reducible exact rng_yor _ _ | with_reducible exact rng_zcmp _ _ | with_reducible exact yand7 _ | with_reducible exact rng_toInt _ | with_reducible exact yarr23 (by omega) | with_reducible exact yarr57 (by omega) | with_reducible exact Or.inl rfl | with_reducible exact Or.inr rfl) (by first | omega | assumption | with_reducible exact rng_ld _ _ _ | with_reducible exact rng_yand _ _ | with_reducible exact rng_yor _ _ | with_reducible exact rng_zcmp _ _ | with_reducible exact yand7 _ | with_reducible exact rng_toInt _ | with_reducible exact yarr23 (by omega) | with_reducible exact yarr57 (by omega) | with_reducible exact Or.inl rfl | with_reducible exact Or.inr rfl) (fun hc => ?_) (fun hc => ?_)
        · skip
          refine uX8_settles_160 ?_
          exact ih0 _ _ _ _ _ _ _ _ M3 fM (by first | omega | assumption | with_reducible exact rng_ld _ _ _ | with_reducible exact rng_yand _ _ | with_reducible exact rng_yor _ _ | with_reducible exact rng_zcmp _ _ | with_reducible exact yand7 _ | with_reducible exact rng_toInt _ | with_reducible exact yarr23 (by omega) | with_reducible exact yarr57 (by omega) | with_reducible exact Or.inl rfl | with_reducible exact Or.inr rfl) (by omega)
        · skip
          refine uX8_settles_65 (by first | omega | assumption | with_reducible exact rng_ld _ _ _ | with_reducible exact rng_yand _ _ | with_reducible exact rng_yor _ _ | with_reducible exact rng_zcmp _ _ | with_reducible exact yand7 _ | with_reducible exact rng_toInt _ | with_reducible exact yarr23 (by omega) | with_reducible exact yarr57 (by omega) | with_reducible exact Or.inl rfl | with_reducible exact Or.inr rfl) (by first | omega | assumption | with_reducible exact rng_ld _ _ _ | with_reducible exact rng_yand _ _ | with_reducible exact rng_yor _ _ | with_reducible exact rng_zcmp _ _ | with_reducible exact yand7 _ | with_reducible exact rng_toInt _ | with_reducible exact yarr23 (by omega) | with_reducible exact yarr57 (by omega) | with_reducible exact Or.inl rfl | with_reducible exact Or.inr rfl) (fun hc => ?_) (fun hc => ?_)
          · skip
            refine uX8_settles_154 ?_
            exact ih1 _ _ _ _ _ _ _ _ M3 fM (by first | omega | assumption | with_reducible exact rng_ld _ _ _ | with_reducible exact rng_yand _ _ | with_reducible exact rng_yor _ _ | with_reducible exact rng_zcmp _ _ | with_reducible exact yand7 _ | with_reducible exact rng_toInt _ | with_reducible exact yarr23 (by omega) | with_reducible exact yarr57 (by omega) | with_reducible exact Or.inl rfl | with_reducible exact Or.inr rfl) (by first | omega | assumption | with_reducible exact rng_ld _ _ _ | with_reducible exact rng_yand _ _ | with_reducible exact rng_yor _ _ | with_reducible exact rng_zcmp _ _ | with_reducible exact yand7 _ | with_reducible exact rng_toInt _ | with_reducible exact yarr23 (by omega) | with_reducible exact yarr57 (by omega) | with_reducible exact Or.inl rfl | with_reducible exact Or.inr rfl) (by first | omega | assumption | with_reducible exact rng_ld _ _ _ | with_reducible exact rng_yand _ _ | with_reducible exact rng_yor _ _ | with_reducible exact rng_zcmp _ _ | with_reducible exact yand7 _ | with_reducible exact rng_toInt _ | with_reducible exact yarr23 (by omega) | with_reducible exact yarr57 (by omega) | with_reducible exact Or.inl rfl | with_reducible exact Or.inr rfl) (by first | omega | assumption | with_reducible exact rng_ld _ _ _ | with_reducible exact rng_yand _ _ | with_reducible exact rng_yor _ _ | with_reducible exact rng_zcmp _ _ | with_reducible exact yand7 _ | with_reducible exact rng_toInt _ | with_reducible exact yarr23 (by omega) | with_reducible exact yarr57 (by omega) | with_reducible exact Or.inl rfl | with_reducible exact Or.inr rfl) (by omega)
          · skip
            refine uX8_settles_72 (by first | omega | assumption | with_reducible exact rng_ld _ _ _ | with_reducible exact rng_yand _ _ | with_reducible exact rng_yor _ _ | with_reducible exact rng_zcmp _ _ | with_reducible exact yand7 _ | with_reducible exact rng_toInt _ | with_reducible exact yarr23 (by omega) | with_reducible exact yarr57 (by omega) | with_reducible exact Or.inl rfl | with_reducible exact Or.inr rfl) (by first | omega | assumption | with_reducible exact rng_ld _ _ _ | with_reducible exact rng_yand _ _ | with_reducible exact rng_yor _ _ | with_reducible exact rng_zcmp _ _ | with_reducible exact yand7 _ | with_reducible exact rng_toInt _ | with_reducible exact yarr23 (by omega) | with_reducible exact yarr57 (by omega) | with_reducible exact Or.inl rfl | with_reducible exact Or.inr rfl) (fun hc => ?_) (fun hc => ?_)
            · skip
              refine uX8_settles_82 ?_
              refine XC.deep (c8_pass  (d := 0) (by first | assumption | exact ⟨rfl, Nat.le_of_ble_eq_true rfl⟩ | with_reducible exact yarr23 (by omega) | with_reducible exact yarr57 (by omega)) (by first | omega | assumption | with_reducible exact rng_ld _ _ _ | with_reducible exact rng_yand _ _ | with_reducible exact rng_yor _ _ | with_reducible exact rng_zcmp _ _ | with_reducible exact yand7 _ | with_reducible exact rng_toInt _ | with_reducible exact yarr23 (by omega) | with_reducible exact yarr57 (by omega) | with_reducible exact Or.inl rfl | with_reducible exact Or.inr rfl) (by first | omega | assumption | with_reducible exact rng_ld _ _ _ | with_reducible exact rng_yand _ _ | with_reducible exact rng_yor _ _ | with_reducible exact rng_zcmp _ _ | with_reducible exact yand7 _ | with_reducible exact rng_toInt _ | with_reducible exact yarr23 (by omega) | with_reducible exact yarr57 (by omega) | with_reducible exact Or.inl rfl | with_reducible exact Or.inr rfl) (by first | omega | assumption | with_reducible exact rng_ld _ _ _ | with_reducible exact rng_yand _ _ | with_reducible exact rng_yor _ _ | with_reducible exact rng_zcmp _ _ | with_reducible exact yand7 _ | with_reducible exact rng_toInt _ | with_reducible exact yarr23 (by omega) | with_reducible exact yarr57 (by omega) | with_reducible exact Or.inl rfl | with_reducible exact Or.inr rfl) (fun v4 M4 fM4 p4a => ?_)) (by omega)
              replace fM := fM.tr fM4 (by intro o j hw; first | omega | exact hw | (dsimp only [] at hw; dsimp only []; omega) | (dsimp only []; omega) | (dsimp only [] at hw; omega) | (simp [] at hw; simp []; omega))
              refine uX8_settles_93 ?_
              refine XC.deep (c8_pass  (d := 0) (by first | assumption | exact ⟨rfl, Nat.le_of_ble_eq_true rfl⟩ | with_reducible exact yarr23 (by omega) | with_reducible exact yarr57 (by omega)) (by first | omega | assumption | with_reducible exact rng_ld _ _ _ | with_reducible exact rng_yand _ _ | with_reducible exact rng_yor _ _ | with_reducible exact rng_zcmp _ _ | with_reducible exact yand7 _ | with_reducible exact rng_toInt _ | with_reducible exact yarr23 (by omega) | with_reducible exact yarr57 (by omega) | with_reducible exact Or.inl rfl | with_reducible exact Or.inr rfl) (by first | omega | assumption | with_reducible exact rng_ld _ _ _ | with_reducible exact rng_yand _ _ | with_reducible exact rng_yor _ _ | with_reducible exact rng_zcmp _ _ | with_reducible exact yand7 _ | with_reducible exact rng_toInt _ | with_reducible exact yarr23 (by omega) | with_reducible exact yarr57 (by omega) | with_reducible exact Or.inl rfl | with_reducible exact Or.inr rfl) (by first | omega | assumption | with_reducible exact rng_ld _ _ _ | with_reducible exact rng_yand _ _ | with_reducible exact rng_yor _ _ | with_reducible exact rng_zcmp _ _ | with_reducible exact yand7 _ | with_reducible exact rng_toInt _ | with_reducible exact yarr23 (by omega) | with_reducible exact yarr57 (by omega) | with_reducible exact Or.inl rfl | with_reducible exact Or.inr rfl) (fun v5 M5 fM5 p5a => ?_)) (by omega)
              replace fM := fM.tr fM5 (by intro o j hw; first | omega | exact hw | (dsimp only [] at hw; dsimp only []; omega) | (dsimp only []; omega) | (dsimp only [] at hw; omega) | (simp [] at hw; simp []; omega))
              refine uX8_settles_106 (by first | omega | assumption | with_reducible exact rng_ld _ _ _ | with_reducible exact rng_yand _ _ | with_reducible exact rng_yor _ _ | with_reducible exact rng_zcmp _ _ | with_reducible exact yand7 _ | with_reducible exact rng_toInt _ | with_reducible exact yarr23 (by omega) | with_reducible exact yarr57 (by omega) | with_reducible exact Or.inl rfl | with_reducible exact Or.inr rfl) (fun hc => ?_) (fun hc => ?_)
              · skip
                refine uX8_settles_118 ?_
                exact k _ _ fM (by first | omega | assumption | with_reducible exact rng_ld _ _ _ | with_reducible exact rng_yand _ _ | with_reducible exact rng_yor _ _ | with_reducible exact rng_zcmp _ _ | with_reducible exact yand7 _ | with_reducible exact rng_toInt _ | with_reducible exact yarr23 (by omega) | with_reducible exact yarr57 (by omega) | with_reducible exact Or.inl rfl | with_reducible exact Or.inr rfl)
              · skip
                refine uX8_settles_113 (by first | omega | assumption | with_reducible exact rng_ld _ _ _ | with_reducible exact rng_yand _ _ | with_reducible exact rng_yor _ _ | with_reducible exact rng_zcmp _ _ | with_reducible exact yand7 _ | with_reducible exact rng_toInt _ | with_reducible exact yarr23 (by omega) | with_reducible exact yarr57 (by omega) | with_reducible exact Or.inl rfl | with_reducible exact Or.inr rfl) (fun hc => ?_) (fun hc => ?_)
                · skip
                  refine uX8_settles_120 (by first | omega | assumption | with_reducible exact rng_ld _ _ _ | with_reducible exact rng_yand _ _ | with_reducible exact rng_yor _ _ | with_reducible exact rng_zcmp _ _ | with_reducible exact yand7 _ | with_reducible exact rng_toInt _ | with_reducible exact yarr23 (by omega) | with_reducible exact yarr57 (by omega) | with_reducible exact Or.inl rfl | with_reducible exact Or.inr rfl) (fun hc => ?_) (fun hc => ?_)
                  · skip
                    refine uX8_settles_137 (by first | omega | assumption | with_reducible exact rng_ld _ _ _ | with_reducible exact rng_yand _ _ | with_reducible exact rng_yor _ _ | with_reducible exact rng_zcmp _ _ | with_reducible exact yand7 _ | with_reducible exact rng_toInt _ | with_reducible exact yarr23 (by omega) | with_reducible exact yarr57 (by omega) | with_reducible exact Or.inl rfl | with_reducible exact Or.inr rfl) (fun hc => ?_) (fun hc => ?_)
                    · skip
                      refine uX8_settles_154 ?_
                      exact ih1 _ _ _ _ _ _ _ _ M5 fM (by first | omega | assumption | with_reducible exact rng_ld _ _ _ | with_reducible exact rng_yand _ _ | with_reducible exact rng_yor _ _ | with_reducible exact rng_zcmp _ _ | with_reducible exact yand7 _ | with_reducible exact rng_toInt _ | with_reducible exact yarr23 (by omega) | with_reducible exact yarr57 (by omega) | with_reducible exact Or.inl rfl | with_reducible exact Or.inr rfl) (by first | omega | assumption | with_reducible exact rng_ld _ _ _ | with_reducible exact rng_yand _ _ | with_reducible exact rng_yor _ _ | with_reducible exact rng_zcmp _ _ | with_reducible exact yand7 _ | with_reducible exact rng_toInt _ | with_reducible exact yarr23 (by omega) | with_reducible exact yarr57 (by omega) | with_reducible exact Or.inl rfl | with_reducible exact Or.inr rfl) (by first | omega | assumption | with_reducible exact rng_ld _ _ _ | with_reducible exact rng_yand _ _ | with_reducible exact rng_yor _ _ | with_reducible exact rng_zcmp _ _ | with_reducible exact yand7 _ | with_reducible exact rng_toInt _ | with_reducible exact yarr23 (by omega) | with_reducible exact yarr57 (by omega) | with_reducible exact Or.inl rfl | with_reducible exact Or.inr rfl) (by first | omega | assumption | with_reducible exact rng_ld _ _ _ | with_reducible exact rng_yand _ _ | with_reducible exact rng_yor _ _ | with_reducible exact rng_zcmp _ _ | with_reducible exact yand7 _ | with_reducible exact rng_toInt _ | with_reducible exact yarr23 (by omega) | with_reducible exact yarr57 (by omega) | with_reducible exact Or.inl rfl | with_reducible exact Or.inr rfl) (by omega)
                    · skip
                      refine uX8_settles_142 ?_
                      refine c11_pw  (by first | omega | assumption | with_reducible exact rng_ld _ _ _ | with_reducible exact rng_yand _ _ | with_reducible exact rng_yor _ _ | with_reducible exact rng_zcmp _ _ | with_reducible exact yand7 _ | with_reducible exact rng_toInt _ | with_reducible exact yarr23 (by omega) | with_reducible exact yarr57 (by omega) | with_reducible exact Or.inl rfl | with_reducible exact Or.inr rfl) (by first | omega | assumption | with_reducible exact rng_ld _ _ _ | with_reducible exact rng_yand _ _ | with_reducible exact rng_yor _ _ | with_reducible exact rng_zcmp _ _ | with_reducible exact yand7 _ | with_reducible exact rng_toInt _ | with_reducible exact yarr23 (by omega) | with_reducible exact yarr57 (by omega) | with_reducible exact Or.inl rfl | with_reducible exact Or.inr rfl) (fun v6 => ?_)
                      refine uX8_settles_151 ?_
                      refine uX8_settles_154 ?_
                      exact ih1 _ _ _ _ _ _ _ _ M5 fM (by first | omega | assumption | with_reducible exact rng_ld _ _ _ | with_reducible exact rng_yand _ _ | with_reducible exact rng_yor _ _ | with_reducible exact rng_zcmp _ _ | with_reducible exact yand7 _ | with_reducible exact rng_toInt _ | with_reducible exact yarr23 (by omega) | with_reducible exact yarr57 (by omega) | with_reducible exact Or.inl rfl | with_reducible exact Or.inr rfl) (by first | omega | assumption | with_reducible exact rng_ld _ _ _ | with_reducible exact rng_yand _ _ | with_reducible exact rng_yor _ _ | with_reducible exact rng_zcmp _ _ | with_reducible exact yand7 _ | with_reducible exact rng_toInt _ | with_reducible exact yarr23 (by omega) | with_reducible exact yarr57 (by omega) | with_reducible exact Or.inl rfl | with_reducible exact Or.inr rfl) (by first | omega | assumption | with_reducible exact rng_ld _ _ _ | with_reducible exact rng_yand _ _ | with_reducible exact rng_yor _ _ | with_reducible exact rng_zcmp _ _ | with_reducible exact yand7 _ | with_reducible exact rng_toInt _ | with_reducible exact yarr23 (by omega) | with_reducible exact yarr57 (by omega) | with_reducible exact Or.inl rfl | with_reducible exact Or.inr rfl) (by first | omega | assumption | with_reducible exact rng_ld _ _ _ | with_reducible exact rng_yand _ _ | with_reducible exact rng_yor _ _ | with_reducible exact rng_zcmp _ _ | with_reducible exact yand7 _ | with_reducible exact rng_toInt _ | with_reducible exact yarr23 (by omega) | with_reducible exact yarr57 (by omega) | with_reducible exact Or.inl rfl | with_reducible exact Or.inr rfl) (by omega)
                  · skip
                    refine uX8_settles_125 ?_
                    refine c11_pw  (by first | omega | assumption | with_reducible exact rng_ld _ _ _ | with_reducible exact rng_yand _ _ | with_reducible exact rng_yor _ _ | with_reducible exact rng_zcmp _ _ | with_reducible exact yand7 _ | with_reducible exact rng_toInt _ | with_reducible exact yarr23 (by omega) | with_reducible exact yarr57 (by omega) | with_reducible exact Or.inl rfl | with_reducible exact Or.inr rfl) (by first | omega | assumption | with_reducible exact rng_ld _ _ _ | with_reducible exact rng_yand _ _ | with_reducible exact rng_yor _ _ | with_reducible exact rng_zcmp _ _ | with_reducible exact yand7 _ | with_reducible exact rng_toInt _ | with_reducible exact yarr23 (by omega) | with_reducible exact yarr57 (by omega) | with_reducible exact Or.inl rfl | with_reducible exact Or.inr rfl) (fun v7 => ?_)
                    refine uX8_settles_134 ?_
                    refine uX8_settles_137 (by first | omega | assumption | with_reducible exact rng_ld _ _ _ | with_reducible exact rng_yand _ _ | with_reducible exact rng_yor _ _ | with_reducible exact rng_zcmp _ _ | with_reducible exact yand7 _ | with_reducible exact rng_toInt _ | with_reducible exact yarr23 (by omega) | with_reducible exact yarr57 (by omega) | with_reducible exact Or.inl rfl | with_reducible exact Or.inr rfl) (fun hc => ?_) (fun hc => ?_)
                    · skip
                      refine uX8_settles_154 ?_
                      exact ih1 _ _ _ _ _ _ _ _ M5 fM (by first | omega | assumption | with_reducible exact rng_ld _ _ _ | with_reducible exact rng_yand _ _ | with_reducible exact rng_yor _ _ | with_reducible exact rng_zcmp _ _ | with_reducible exact yand7 _ | with_reducible exact rng_toInt _ | with_reducible exact yarr23 (by omega) | with_reducible exact yarr57 (by omega) | with_reducible exact Or.inl rfl | with_reducible exact Or.inr rfl) (by first | omega | assumption | with_reducible exact rng_ld _ _ _ | with_reducible exact rng_yand _ _ | with_reducible exact rng_yor _ _ | with_reducible exact rng_zcmp _ _ | with_reducible exact yand7 _ | with_reducible exact rng_toInt _ | with_reducible exact yarr23 (by omega) | with_reducible exact yarr57 (by omega) | with_reducible exact Or.inl rfl | with_reducible exact Or.inr rfl) (by first | omega | assumption | with_reducible exact rng_ld _ _ _ | with_reducible exact rng_yand _ _ | with_reducible exact rng_yor _ _ | with_reducible exact rng_zcmp _ _ | with_reducible exact yand7 _ | with_reducible exact rng_toInt _ | with_reducible exact yarr23 (by omega) | with_reducible exact yarr57 (by omega) | with_reducible exact Or.inl rfl | with_reducible exact Or.inr rfl) (by first | omega | assumption | with_reducible exact rng_ld _ _ _ | with_reducible exact rng_yand _ _ | with_reducible exact rng_yor _ _ | with_reducible exact rng_zcmp _ _ | with_reducible exact yand7 _ | with_reducible exact rng_toInt _ | with_reducible exact yarr23 (by omega) | with_reducible exact yarr57 (by omega) | with_reducible exact Or.inl rfl | with_reducible exact Or.inr rfl) (by omega)
                    · skip
                      refine uX8_settles_142 ?_
                      refine c11_pw  (by first | omega | assumption | with_reducible exact rng_ld _ _ _ | with_reducible exact rng_yand _ _ | with_reducible exact rng_yor _ _ | with_reducible exact rng_zcmp _ _ | with_reducible exact yand7 _ | with_reducible exact rng_toInt _ | with_reducible exact yarr23 (by omega) | with_reducible exact yarr57 (by omega) | with_reducible exact Or.inl rfl | with_reducible exact Or.inr rfl) (by first | omega | assumption | with_reducible exact rng_ld _ _ _ | with_reducible exact rng_yand _ _ | with_reducible exact rng_yor _ _ | with_reducible exact rng_zcmp _ _ | with_reducible exact yand7 _ | with_reducible exact rng_toInt _ | with_reducible exact yarr23 (by omega) | with_reducible exact yarr57 (by omega) | with_reducible exact Or.inl rfl | with_reducible exact Or.inr rfl) (fun v8 => ?_)
                      refine uX8_settles_151 ?_
                      refine uX8_settles_154 ?_
                      exact ih1 _ _ _ _ _ _ _ _ M5 fM (by first | omega | assumption | with_reducible exact rng_ld _ _ _ | with_reducible exact rng_yand _ _ | with_reducible exact rng_yor _ _ | with_reducible exact rng_zcmp _ _ | with_reducible exact yand7 _ | with_reducible exact rng_toInt _ | with_reducible exact yarr23 (by omega) | with_reducible exact yarr57 (by omega) | with_reducible exact Or.inl rfl | with_reducible exact Or.inr rfl) (by first | omega | assumption | with_reducible exact rng_ld _ _ _ | with_reducible exact rng_yand _ _ | with_reducible exact rng_yor _ _ | with_reducible exact rng_zcmp _ _ | with_reducible exact yand7 _ | with_reducible exact rng_toInt _ | with_reducible exact yarr23 (by omega) | with_reducible exact yarr57 (by omega) | with_reducible exact Or.inl rfl | with_reducible exact Or.inr rfl) (by first | omega | assumption | with_reducible exact rng_ld _ _ _ | with_reducible exact rng_yand _ _ | with_reducible exact rng_yor _ _ | with_reducible exact rng_zcmp _ _ | with_reducible exact yand7 _ | with_reducible exact rng_toInt _ | with_reducible exact yarr23 (by omega) | with_reducible exact yarr57 (by omega) | with_reducible exact Or.inl rfl | with_reducible exact Or.inr rfl) (by first | omega | assumption | with_reducible exact rng_ld _ _ _ | with_reducible exact rng_yand _ _ | with_reducible exact rng_yor _ _ | with_reducible exact rng_zcmp _ _ | with_reducible exact yand7 _ | with_reducible exact rng_toInt _ | with_reducible exact yarr23 (by omega) | with_reducible exact yarr57 (by omega) | with_reducible exact Or.inl rfl | with_reducible exact Or.inr rfl) (by omega)
                · skip
                  refine uX8_settles_118 ?_
                  exact k _ _ fM (by first | omega | assumption | with_reducible exact rng_ld _ _ _ | with_reducible exact rng_yand _ _ | with_reducible exact rng_yor _ _ | with_reducible exact rng_zcmp _ _ | with_reducible exact yand7 _ | with_reducible exact rng_toInt _ | with_reducible exact yarr23 (by omega) | with_reducible exact yarr57 (by omega) | with_reducible exact Or.inl rfl | with_reducible exact Or.inr rfl)
            · skip
              refine uX8_settles_79 ?_
              refine uX8_settles_154 ?_
              exact ih1 _ _ _ _ _ _ _ _ M3 fM (by first | omega | assumption | with_reducible exact rng_ld _ _ _ | with_reducible exact rng_yand _ _ | with_reducible exact rng_yor _ _ | with_reducible exact rng_zcmp _ _ | with_reducible exact yand7 _ | with_reducible exact rng_toInt _ | with_reducible exact yarr23 (by omega) | with_reducible exact yarr57 (by omega) | with_reducible exact Or.inl rfl | with_reducible exact Or.inr rfl) (by first | omega | assumption | with_reducible exact rng_ld _ _ _ | with_reducible exact rng_yand _ _ | with_reducible exact rng_yor _ _ | with_reducible exact rng_zcmp _ _ | with_reducible exact yand7 _ | with_reducible exact rng_toInt _ | with_reducible exact yarr23 (by omega) | with_reducible exact yarr57 (by omega) | with_reducible exact Or.inl rfl | with_reducible exact Or.inr rfl) (by first | omega | assumption | with_reducible exact rng_ld _ _ _ | with_reducible exact rng_yand _ _ | with_reducible exact rng_yor _ _ | with_reducible exact rng_zcmp _ _ | with_reducible exact yand7 _ | with_reducible exact rng_toInt _ | with_reducible exact yarr23 (by omega) | with_reducible exact yarr57 (by omega) | with_reducible exact Or.inl rfl | with_reducible exact Or.inr rfl) (by first | omega | assumption | with_reducible exact rng_ld _ _ _ | with_reducible exact rng_yand _ _ | with_reducible exact rng_yor _ _ | with_reducible exact rng_zcmp _ _ | with_reducible exact yand7 _ | with_reducible exact rng_toInt _ | with_reducible exact yarr23 (by omega) | with_reducible exact yarr57 (by omega) | with_reducible exact Or.inl rfl | with_reducible exact Or.inr rfl) (by omega)
  refine uX8_settles_0 ?_
  exact (go 1000000).1 _ _ _ _ _ _ _ _ M fM (by first | omega | assumption | with_reducible exact rng_ld _ _ _ | with_reducible exact rng_yand _ _ | with_reducible exact rng_yor _ _ | with_reducible exact rng_zcmp _ _ | with_reducible exact yand7 _ | with_reducible exact rng_toInt _ | with_reducible exact yarr23 (by omega) | with_reducible exact yarr57 (by omega) | with_reducible exact Or.inl rfl | with_reducible exact Or.inr rfl) (by omega)
theorem c8_makeSingle {d : Nat} {Q : yM → Prop} {M : yM} {x1 : Nat} {x2 : Int} {x3 : Int}  (hA : arrSh x1 64) (p2 : 0 ≤ x2 ∧ x2 < 64) (k : ∀ (M' : yM), fr (fun o _ => o = x1) M M' → Q M') : XCv (d + 1) 58 [.inr (.inr 21), .inr (.inr x1), .inl x2, .inl x3] M Q := by
  refine eX8_makeSingle ?_
  have fM : fr (fun o _ => o = x1) M M := fr.rf
  have hb := back_ix p2
  refine uX8_makeSingle_0 (by first | assumption | exact ⟨rfl, Nat.le_of_ble_eq_true rfl⟩ | with_reducible exact yarr23 (by omega) | with_reducible exact yarr57 (by omega)) (by first | omega | assumption | with_reducible exact rng_ld _ _ _ | with_reducible exact rng_yand _ _ | with_reducible exact rng_yor _ _ | with_reducible exact rng_zcmp _ _ | with_reducible exact yand7 _ | with_reducible exact rng_toInt _ | with_reducible exact yarr23 (by omega) | with_reducible exact yarr57 (by omega) | with_reducible exact Or.inl rfl | with_reducible exact Or.inr rfl) ?_
  intro M1 hM1
  replace fM := fr.put fM hM1 (by first | omega | (dsimp only []; done) | (dsimp only []; omega) | (simp []; done) | (simp []; omega))
  refine uX8_makeSingle_19 ?_
  refine c9_tw   (fun v2 p2a => ?_)
  refine uX8_makeSingle_32 (by first | assumption | exact ⟨rfl, Nat.le_of_ble_eq_true rfl⟩ | with_reducible exact yarr23 (by omega) | with_reducible exact yarr57 (by omega)) (by first | omega | assumption | with_reducible exact rng_ld _ _ _ | with_reducible exact rng_yand _ _ | with_reducible exact rng_yor _ _ | with_reducible exact rng_zcmp _ _ | with_reducible exact yand7 _ | with_reducible exact rng_toInt _ | with_reducible exact yarr23 (by omega) | with_reducible exact yarr57 (by omega) | with_reducible exact Or.inl rfl | with_reducible exact Or.inr rfl) ?_
  intro M3 hM3
  replace fM := fr.put fM hM3 (by first | omega | (dsimp only []; done) | (dsimp only []; omega) | (simp []; done) | (simp []; omega))
  refine uX8_makeSingle_33 ?_
  exact k _ fM 
